-- CradleNamesModel.guess(I)I
set_option maxRecDepth 20000 in
set_option maxHeartbeats 4000000 in
theorem gbX12_guess_18 {X : XT} {G : GT} {l : Launch} {d : Nat}  {post : Int32 → St → Prop} (C : Cx X G cX12_guess RX12) (hr : Rt X G (some .int) (fun v τ => ∃ r : Int32, v = some (.int r) ∧ post r τ)) (hR : Rm X l d) (hnl : X.2.2.2.2.2.2.2.2.2.2.1 = 6)  (hd : 10 ≤ d) (hN : 119 ≤ G.2.2.2.2.2)   
    : ∀ (n : Nat) (v1 : Int32) (v2 : Int32) (v3 : Int32) (σ : St), wbX12_guess_18   post n v1 v2 v3 σ → Go X G 18 [(0, .ref (G.2.2.1 75)), (1, .int v1), (2, .int v2), (3, .int v3)] [] σ := by
  intro n
  induction n with
  | zero => intro v1 v2 v3 σ hw; exact hw.elim
  | succ n ih =>
    intro v1 v2 v3 σ hw
    have hw : ((3 ≤ v3 →
      post v2 σ) ∧
    (¬ 3 ≤ v3 →
      wpX12_livingIn v3 v1 σ (fun r_1 σ_2 =>
      ((r_1 ≤ 0 →
        ∀ v3_3 : Int32, v3_3 = v3 + 1 →
        wbX12_guess_18 post n v1 v2 v3_3 σ_2) ∧
      (¬ r_1 ≤ 0 →
        ((v2 = (-1) →
          ∀ v3_4 : Int32, v3_4 = v3 + 1 →
          wbX12_guess_18 post n v1 v3 v3_4 σ_2) ∧
        (¬ v2 = (-1) →
          wpX12_livingIn v2 (-1) σ_2 (fun r_5 σ_6 =>
          wpX12_livingIn v2 v1 σ_6 (fun r_7 σ_8 =>
          wpX12_livingIn v3 (-1) σ_8 (fun r_9 σ_10 =>
          (((r_1 * r_5) ≤ (r_7 * r_9) →
            ∀ v3_11 : Int32, v3_11 = v3 + 1 →
            wbX12_guess_18 post n v1 v2 v3_11 σ_10) ∧
          (¬ (r_1 * r_5) ≤ (r_7 * r_9) →
            ∀ v3_12 : Int32, v3_12 = v3 + 1 →
            wbX12_guess_18 post n v1 v3 v3_12 σ_10)))))))))))) := hw
    refine go_iload_n C 3 rfl rfl dX12_guess_18 ?_
    refine go_iconst (v := 3) C rfl dX12_guess_19 ?_
    refine go_icmp_ge C 77 rfl dX12_guess_20 (fun hc => ?_) (fun hc => ?_)
    · replace hw := hw.1 hc
      refine go_iload_n C 2 rfl rfl dX12_guess_77 ?_
      exact go_iret C hr ⟨_, rfl, hw⟩ dX12_guess_78
    · replace hw := hw.2 hc
      refine go_aload_n C 0 rfl rfl dX12_guess_23 ?_
      refine go_iload_n C 3 rfl rfl dX12_guess_24 ?_
      refine go_iload_n C 1 rfl rfl dX12_guess_25 ?_
      refine go_callV (as := [.int v3, .int v1]) C hR (shX12 G) (ltX12 hN) cwX12_509 (Nat.le_trans (by decide) hd) (by decide) rfl rfl (Nat.le_of_ble_eq_true rfl) dX12_guess_26 (spX12_livingIn (Nat.le_refl _) hN hw) (fun v_ τ_ hw => ?_)
      obtain ⟨r_1, rfl, hw⟩ := hw
      obtain ⟨σ_2, rfl⟩ : ∃ z, z = τ_ := ⟨_, rfl⟩
      refine go_lstore (lv2 := [(4, .long r_1), (0, .ref (G.2.2.1 75)), (1, .int v1), (2, .int v2), (3, .int v3)]) C (by rw [hnl]; decide) rfl dX12_guess_29 ?_
      refine go_lload C 0 rfl dX12_guess_31 ?_
      refine go_lconst (v := 0) C rfl dX12_guess_33 ?_
      refine go_lc_le C 71 rfl dX12_guess_34 dX12_guess_35 (fun hc => ?_) (fun hc => ?_)
      · replace hw := hw.1 hc
        obtain ⟨v3_3, ev3_3⟩ : ∃ z : Int32, z = v3 + 1 := ⟨_, rfl⟩
        replace hw := hw v3_3 ev3_3
        refine go_iinc (v := v3_3) (lv2 := [(3, .int v3_3), (4, .long r_1), (0, .ref (G.2.2.1 75)), (1, .int v1), (2, .int v2)]) C 4 rfl (by rw [ev3_3]; rfl) (by rw [hnl]; decide) rfl dX12_guess_71 ?_
        refine go_goto C 18 rfl dX12_guess_74 ?_
        refine go_sub [2, 3, 4, 0] rfl ?_
        exact ih _ _ _ _ hw
      · replace hw := hw.2 hc
        refine go_iload_n C 3 rfl rfl dX12_guess_38 ?_
        refine go_iconst (v := (-1)) C rfl dX12_guess_39 ?_
        refine go_icmp_eq C 69 rfl dX12_guess_40 (fun hc => ?_) (fun hc => ?_)
        · replace hw := hw.1 hc
          refine go_iload_n C 4 rfl rfl dX12_guess_69 ?_
          refine go_istore_n (lv2 := [(2, .int v3), (4, .long r_1), (0, .ref (G.2.2.1 75)), (1, .int v1), (3, .int v3)]) C rfl (by rw [hnl]; decide) rfl dX12_guess_70 ?_
          obtain ⟨v3_4, ev3_4⟩ : ∃ z : Int32, z = v3 + 1 := ⟨_, rfl⟩
          replace hw := hw v3_4 ev3_4
          refine go_iinc (v := v3_4) (lv2 := [(3, .int v3_4), (2, .int v3), (4, .long r_1), (0, .ref (G.2.2.1 75)), (1, .int v1)]) C 4 rfl (by rw [ev3_4]; rfl) (by rw [hnl]; decide) rfl dX12_guess_71 ?_
          refine go_goto C 18 rfl dX12_guess_74 ?_
          refine go_sub [3, 4, 1, 0] rfl ?_
          exact ih _ _ _ _ hw
        · replace hw := hw.2 hc
          refine go_lload C 0 rfl dX12_guess_43 ?_
          refine go_aload_n C 1 rfl rfl dX12_guess_45 ?_
          refine go_iload_n C 3 rfl rfl dX12_guess_46 ?_
          refine go_iconst (v := (-1)) C rfl dX12_guess_47 ?_
          refine go_callV (as := [.int v2, .int (-1)]) C hR (shX12 G) (ltX12 hN) cwX12_509 (Nat.le_trans (by decide) hd) (by decide) rfl rfl (Nat.le_of_ble_eq_true rfl) dX12_guess_48 (spX12_livingIn (Nat.le_refl _) hN hw) (fun v_ τ_ hw => ?_)
          obtain ⟨r_5, rfl, hw⟩ := hw
          obtain ⟨σ_6, rfl⟩ : ∃ z, z = τ_ := ⟨_, rfl⟩
          refine go_lmul C dX12_guess_51 ?_
          refine go_aload_n C 1 rfl rfl dX12_guess_52 ?_
          refine go_iload_n C 3 rfl rfl dX12_guess_53 ?_
          refine go_iload_n C 2 rfl rfl dX12_guess_54 ?_
          refine go_callV (as := [.int v2, .int v1]) C hR (shX12 G) (ltX12 hN) cwX12_509 (Nat.le_trans (by decide) hd) (by decide) rfl rfl (Nat.le_of_ble_eq_true rfl) dX12_guess_55 (spX12_livingIn (Nat.le_refl _) hN hw) (fun v_ τ_ hw => ?_)
          obtain ⟨r_7, rfl, hw⟩ := hw
          obtain ⟨σ_8, rfl⟩ : ∃ z, z = τ_ := ⟨_, rfl⟩
          refine go_aload_n C 1 rfl rfl dX12_guess_58 ?_
          refine go_iload_n C 4 rfl rfl dX12_guess_59 ?_
          refine go_iconst (v := (-1)) C rfl dX12_guess_60 ?_
          refine go_callV (as := [.int v3, .int (-1)]) C hR (shX12 G) (ltX12 hN) cwX12_509 (Nat.le_trans (by decide) hd) (by decide) rfl rfl (Nat.le_of_ble_eq_true rfl) dX12_guess_61 (spX12_livingIn (Nat.le_refl _) hN hw) (fun v_ τ_ hw => ?_)
          obtain ⟨r_9, rfl, hw⟩ := hw
          obtain ⟨σ_10, rfl⟩ : ∃ z, z = τ_ := ⟨_, rfl⟩
          refine go_lmul C dX12_guess_64 ?_
          refine go_lc_le C 71 rfl dX12_guess_65 dX12_guess_66 (fun hc => ?_) (fun hc => ?_)
          · replace hw := hw.1 hc
            obtain ⟨v3_11, ev3_11⟩ : ∃ z : Int32, z = v3 + 1 := ⟨_, rfl⟩
            replace hw := hw v3_11 ev3_11
            refine go_iinc (v := v3_11) (lv2 := [(3, .int v3_11), (4, .long r_1), (0, .ref (G.2.2.1 75)), (1, .int v1), (2, .int v2)]) C 4 rfl (by rw [ev3_11]; rfl) (by rw [hnl]; decide) rfl dX12_guess_71 ?_
            refine go_goto C 18 rfl dX12_guess_74 ?_
            refine go_sub [2, 3, 4, 0] rfl ?_
            exact ih _ _ _ _ hw
          · replace hw := hw.2 hc
            refine go_iload_n C 4 rfl rfl dX12_guess_69 ?_
            refine go_istore_n (lv2 := [(2, .int v3), (4, .long r_1), (0, .ref (G.2.2.1 75)), (1, .int v1), (3, .int v3)]) C rfl (by rw [hnl]; decide) rfl dX12_guess_70 ?_
            obtain ⟨v3_12, ev3_12⟩ : ∃ z : Int32, z = v3 + 1 := ⟨_, rfl⟩
            replace hw := hw v3_12 ev3_12
            refine go_iinc (v := v3_12) (lv2 := [(3, .int v3_12), (2, .int v3), (4, .long r_1), (0, .ref (G.2.2.1 75)), (1, .int v1)]) C 4 rfl (by rw [ev3_12]; rfl) (by rw [hnl]; decide) rfl dX12_guess_71 ?_
            refine go_goto C 18 rfl dX12_guess_74 ?_
            refine go_sub [3, 4, 1, 0] rfl ?_
            exact ih _ _ _ _ hw
set_option maxRecDepth 20000 in
set_option maxHeartbeats 4000000 in
theorem spX12_guess {l : Launch} {G : GT} {d : Nat}  (hd : 10 ≤ d)  (hN : 119 ≤ G.2.2.2.2.2)  {a1 : Int32} {σ : St} {post : Int32 → St → Prop} (hw : wpX12_guess  a1 σ post) : Sp l G d yX12_guess cX12_guess 6 (some .int) [.ref (G.2.2.1 75), .int a1] σ (fun v τ => ∃ r : Int32, v = some (.int r) ∧ post r τ) := by
  refine Sp.of (by decide) (Nat.le_of_ble_eq_true rfl) fun X C hr hR hnl => ?_
  show Go X G 0 [(0, .ref (G.2.2.1 75)), (1, .int a1)] [] σ
  have hw : wpX12_isName a1 σ (fun r_1 σ_2 =>
  ((¬ r_1 = 0 →
    wpX12_runsAll  σ_2 (fun σ_4 =>
    ∃ m_18, wbX12_guess_18 post m_18 a1 (-1) 0 σ_4)) ∧
  (r_1 = 0 →
    post (-1) σ_2))) := hw
  refine go_aload_n C 0 rfl rfl dX12_guess_0 ?_
  refine go_iload_n C 1 rfl rfl dX12_guess_1 ?_
  refine go_callV (as := [.int a1]) C hR (shX12 G) (ltX12 hN) cwX12_182 (Nat.le_trans (by decide) hd) (by decide) rfl rfl (Nat.le_of_ble_eq_true rfl) dX12_guess_2 (spX12_isName (Nat.le_refl _) hN hw) (fun v_ τ_ hw => ?_)
  obtain ⟨r_1, rfl, hw⟩ := hw
  obtain ⟨σ_2, rfl⟩ : ∃ z, z = τ_ := ⟨_, rfl⟩
  refine go_if_ne C 10 rfl dX12_guess_5 (fun hc => ?_) (fun hc => ?_)
  · replace hw := hw.1 hc
    refine go_aload_n C 0 rfl rfl dX12_guess_10 ?_
    refine go_callV (as := []) C hR (shX12 G) (ltX12 hN) cwX12_464 (Nat.le_trans (by decide) hd) (by decide) rfl rfl (Nat.le_of_ble_eq_true rfl) dX12_guess_11 (spX12_runsAll (Nat.le_refl _) hN hw) (fun v_ τ_ hw => ?_)
    obtain ⟨rfl, hw⟩ := hw
    obtain ⟨σ_4, rfl⟩ : ∃ z, z = τ_ := ⟨_, rfl⟩
    refine go_iconst (v := (-1)) C rfl dX12_guess_14 ?_
    refine go_istore_n (lv2 := [(2, .int (-1)), (0, .ref (G.2.2.1 75)), (1, .int a1)]) C rfl (by rw [hnl]; decide) rfl dX12_guess_15 ?_
    refine go_iconst (v := 0) C rfl dX12_guess_16 ?_
    refine go_istore_n (lv2 := [(3, .int 0), (2, .int (-1)), (0, .ref (G.2.2.1 75)), (1, .int a1)]) C rfl (by rw [hnl]; decide) rfl dX12_guess_17 ?_
    refine go_sub [2, 3, 1, 0] rfl ?_
    obtain ⟨n_0, hw⟩ := hw
    exact (gbX12_guess_18 C hr hR hnl hd hN) n_0 _ _ _ _ hw
  · replace hw := hw.2 hc
    refine go_iconst (v := (-1)) C rfl dX12_guess_8 ?_
    exact go_iret C hr ⟨_, rfl, hw⟩ dX12_guess_9
-- CradleNamesModel.adds(III)V
set_option maxRecDepth 20000 in
set_option maxHeartbeats 4000000 in
theorem gbX12_adds_68 {X : XT} {G : GT} {l : Launch} {d : Nat}  {post : St → Prop} (C : Cx X G cX12_adds RX12) (hr : Rt X G none (fun v τ => v = none ∧ post τ)) (hR : Rm X l d) (hnl : X.2.2.2.2.2.2.2.2.2.2.1 = 10)  (hd : 1 ≤ d) (hN : 119 ≤ G.2.2.2.2.2)  {K14 : Int32 → Int32 → Int32 → Int64 → Int32 → St → Prop} (hK14 : ∀ (v2 : Int32) (v3 : Int32) (v4 : Int32) (v5 : Int64) (v7 : Int32) (σ : St), K14 v2 v3 v4 v5 v7 σ → Go X G 14 [(0, .ref (G.2.2.1 75)), (2, .int v2), (3, .int v3), (4, .int v4), (5, .long v5), (7, .int v7)] [] σ)
    : ∀ (v2 : Int32) (v3 : Int32) (v4 : Int32) (v7 : Int32) (s0 : Int64) (s1 : Int64) (σ : St), wbX12_adds_68  K14 post v2 v3 v4 v7 s0 s1 σ → Go X G 68 [(0, .ref (G.2.2.1 75)), (2, .int v2), (3, .int v3), (4, .int v4), (7, .int v7)] [.long s0, .long s1] σ := by
  intro v2 v3 v4 v7 s0 s1 σ hw
  have hw : ∀ v8_1 : Int64, v8_1 = (s1 + s0) →
  vp_in ((30 * v4) + v7) 2400 ∧ (
  ∀ σ_2 : St, σ_2 = sL σ 114 ((30 * v4) + v7).toNatClampNeg (v8_1 - v8_1 / 1000000000 * 1000000000) →
  ∀ v5_3 : Int64, v5_3 = (v8_1 / 1000000000) →
  ∀ v7_4 : Int32, v7_4 = v7 + 1 →
  K14 v2 v3 v4 v5_3 v7_4 σ_2) := hw
  refine go_ladd C dX12_adds_68 ?_
  refine go_topl (fun v8_1 ev8_1 => ?_)
  replace hw := hw v8_1 ev8_1
  refine go_lstore (lv2 := [(8, .long v8_1), (0, .ref (G.2.2.1 75)), (2, .int v2), (3, .int v3), (4, .int v4), (7, .int v7)]) C (by rw [hnl]; decide) rfl dX12_adds_69 ?_
  refine go_aload_n C 1 rfl rfl dX12_adds_71 ?_
  refine go_get (v := .ref (G.2.2.1 114)) C (shX12 G) (ltX12 hN) lkX12_133 rfl dX12_adds_72 ?_
  refine go_bipush (v := 30) C rfl dX12_adds_75 ?_
  refine go_iload C 4 rfl dX12_adds_77 ?_
  refine go_imul C dX12_adds_79 ?_
  refine go_iload C 5 rfl dX12_adds_80 ?_
  refine go_iadd C dX12_adds_82 ?_
  refine go_lload C 0 rfl dX12_adds_83 ?_
  refine go_ldc2 (v := 1000000000) C kcX12_389 dX12_adds_85 ?_
  refine go_lrem C (by decide) dX12_adds_88 ?_
  refine go_last C (saX12_ways G) (laX12_ways hN) hw.1 dX12_adds_89 (go_nm fun σ_2 eσ_2 => ?_)
  replace hw := hw.2 σ_2 eσ_2
  refine go_lload C 0 rfl dX12_adds_90 ?_
  refine go_ldc2 (v := 1000000000) C kcX12_389 dX12_adds_92 ?_
  refine go_ldiv C (by decide) dX12_adds_95 ?_
  refine go_topl (fun v5_3 ev5_3 => ?_)
  replace hw := hw v5_3 ev5_3
  refine go_lstore (lv2 := [(5, .long v5_3), (8, .long v8_1), (0, .ref (G.2.2.1 75)), (2, .int v2), (3, .int v3), (4, .int v4), (7, .int v7)]) C (by rw [hnl]; decide) rfl dX12_adds_96 ?_
  obtain ⟨v7_4, ev7_4⟩ : ∃ z : Int32, z = v7 + 1 := ⟨_, rfl⟩
  replace hw := hw v7_4 ev7_4
  refine go_iinc (v := v7_4) (lv2 := [(7, .int v7_4), (5, .long v5_3), (8, .long v8_1), (0, .ref (G.2.2.1 75)), (2, .int v2), (3, .int v3), (4, .int v4)]) C 6 rfl (by rw [ev7_4]; rfl) (by rw [hnl]; decide) rfl dX12_adds_98 ?_
  refine go_goto C 14 rfl dX12_adds_101 ?_
  refine go_sub [3, 4, 5, 6, 1, 0] rfl ?_
  exact hK14 _ _ _ _ _ _ hw
set_option maxRecDepth 20000 in
set_option maxHeartbeats 4000000 in
theorem gbX12_adds_14 {X : XT} {G : GT} {l : Launch} {d : Nat}  {post : St → Prop} (C : Cx X G cX12_adds RX12) (hr : Rt X G none (fun v τ => v = none ∧ post τ)) (hR : Rm X l d) (hnl : X.2.2.2.2.2.2.2.2.2.2.1 = 10)  (hd : 1 ≤ d) (hN : 119 ≤ G.2.2.2.2.2)  {K3 : Int32 → Int32 → Int32 → St → Prop} (hK3 : ∀ (v2 : Int32) (v3 : Int32) (v4 : Int32) (σ : St), K3 v2 v3 v4 σ → Go X G 3 [(0, .ref (G.2.2.1 75)), (2, .int v2), (3, .int v3), (4, .int v4)] [] σ)
    : ∀ (n : Nat) (v2 : Int32) (v3 : Int32) (v4 : Int32) (v5 : Int64) (v7 : Int32) (σ : St), wbX12_adds_14  K3 post n v2 v3 v4 v5 v7 σ → Go X G 14 [(0, .ref (G.2.2.1 75)), (2, .int v2), (3, .int v3), (4, .int v4), (5, .long v5), (7, .int v7)] [] σ := by
  intro n
  induction n with
  | zero => intro v2 v3 v4 v5 v7 σ hw; exact hw.elim
  | succ n ih =>
    intro v2 v3 v4 v5 v7 σ hw
    have hw : ((30 ≤ v7 →
      ∀ v4_1 : Int32, v4_1 = v4 + (-1) →
      K3 v2 v3 v4_1 σ) ∧
    (¬ 30 ≤ v7 →
      vp_in ((30 * v4) + v7) 2400 ∧ (
      ((v4 ≤ 0 →
        wbX12_adds_68 (wbX12_adds_14 K3 post n) post v2 v3 v4 v7 0 (((gL σ 114 ((30 * v4) + v7).toNatClampNeg) * v3.toInt64) + v5) σ) ∧
      (¬ v4 ≤ 0 →
        vp_in (((30 * v4) - 30) + v7) 2400 ∧ (
        wbX12_adds_68 (wbX12_adds_14 K3 post n) post v2 v3 v4 v7 ((gL σ 114 (((30 * v4) - 30) + v7).toNatClampNeg) * v2.toInt64) (((gL σ 114 ((30 * v4) + v7).toNatClampNeg) * v3.toInt64) + v5) σ)))))) := hw
    refine go_iload C 5 rfl dX12_adds_14 ?_
    refine go_bipush (v := 30) C rfl dX12_adds_16 ?_
    refine go_icmp_ge C 104 rfl dX12_adds_18 (fun hc => ?_) (fun hc => ?_)
    · replace hw := hw.1 hc
      obtain ⟨v4_1, ev4_1⟩ : ∃ z : Int32, z = v4 + (-1) := ⟨_, rfl⟩
      replace hw := hw v4_1 ev4_1
      refine go_iinc (v := v4_1) (lv2 := [(4, .int v4_1), (0, .ref (G.2.2.1 75)), (2, .int v2), (3, .int v3), (5, .long v5), (7, .int v7)]) C 3 rfl (by rw [ev4_1]; rfl) (by rw [hnl]; decide) rfl dX12_adds_104 ?_
      refine go_goto C 3 rfl dX12_adds_107 ?_
      refine go_sub [1, 2, 3, 0] rfl ?_
      exact hK3 _ _ _ _ hw
    · replace hw := hw.2 hc
      refine go_aload_n C 0 rfl rfl dX12_adds_21 ?_
      refine go_get (v := .ref (G.2.2.1 114)) C (shX12 G) (ltX12 hN) lkX12_133 rfl dX12_adds_22 ?_
      refine go_bipush (v := 30) C rfl dX12_adds_25 ?_
      refine go_iload C 3 rfl dX12_adds_27 ?_
      refine go_imul C dX12_adds_29 ?_
      refine go_iload C 5 rfl dX12_adds_30 ?_
      refine go_iadd C dX12_adds_32 ?_
      refine go_lald C (saX12_ways G) (laX12_ways hN) hw.1 dX12_adds_33 ?_
      replace hw := hw.2
      refine go_iload_n C 2 rfl rfl dX12_adds_34 ?_
      refine go_i2l C dX12_adds_35 ?_
      refine go_lmul C dX12_adds_36 ?_
      refine go_lload C 4 rfl dX12_adds_37 ?_
      refine go_ladd C dX12_adds_39 ?_
      refine go_iload C 3 rfl dX12_adds_40 ?_
      refine go_if_le C 67 rfl dX12_adds_42 (fun hc => ?_) (fun hc => ?_)
      · replace hw := hw.1 hc
        refine go_lconst (v := 0) C rfl dX12_adds_67 ?_
        refine go_sub [0, 1, 2, 3, 5] rfl ?_
        exact (gbX12_adds_68 C hr hR hnl hd hN ih) _ _ _ _ _ _ _ hw
      · replace hw := hw.2 hc
        refine go_aload_n C 0 rfl rfl dX12_adds_45 ?_
        refine go_get (v := .ref (G.2.2.1 114)) C (shX12 G) (ltX12 hN) lkX12_133 rfl dX12_adds_46 ?_
        refine go_bipush (v := 30) C rfl dX12_adds_49 ?_
        refine go_iload C 3 rfl dX12_adds_51 ?_
        refine go_imul C dX12_adds_53 ?_
        refine go_bipush (v := 30) C rfl dX12_adds_54 ?_
        refine go_isub C dX12_adds_56 ?_
        refine go_iload C 5 rfl dX12_adds_57 ?_
        refine go_iadd C dX12_adds_59 ?_
        refine go_lald C (saX12_ways G) (laX12_ways hN) hw.1 dX12_adds_60 ?_
        replace hw := hw.2
        refine go_iload_n C 1 rfl rfl dX12_adds_61 ?_
        refine go_i2l C dX12_adds_62 ?_
        refine go_lmul C dX12_adds_63 ?_
        refine go_goto C 68 rfl dX12_adds_64 ?_
        refine go_sub [0, 1, 2, 3, 5] rfl ?_
        exact (gbX12_adds_68 C hr hR hnl hd hN ih) _ _ _ _ _ _ _ hw
set_option maxRecDepth 20000 in
set_option maxHeartbeats 4000000 in
theorem gbX12_adds_3 {X : XT} {G : GT} {l : Launch} {d : Nat}  {post : St → Prop} (C : Cx X G cX12_adds RX12) (hr : Rt X G none (fun v τ => v = none ∧ post τ)) (hR : Rm X l d) (hnl : X.2.2.2.2.2.2.2.2.2.2.1 = 10)  (hd : 1 ≤ d) (hN : 119 ≤ G.2.2.2.2.2)   
    : ∀ (n : Nat) (v2 : Int32) (v3 : Int32) (v4 : Int32) (σ : St), wbX12_adds_3   post n v2 v3 v4 σ → Go X G 3 [(0, .ref (G.2.2.1 75)), (2, .int v2), (3, .int v3), (4, .int v4)] [] σ := by
  intro n
  induction n with
  | zero => intro v2 v3 v4 σ hw; exact hw.elim
  | succ n ih =>
    intro v2 v3 v4 σ hw
    have hw : ((v4 < 0 →
      post σ) ∧
    (¬ v4 < 0 →
      ∃ m_14, wbX12_adds_14 (wbX12_adds_3 post n) post m_14 v2 v3 v4 0 0 σ)) := hw
    refine go_iload C 3 rfl dX12_adds_3 ?_
    refine go_if_lt C 110 rfl dX12_adds_5 (fun hc => ?_) (fun hc => ?_)
    · replace hw := hw.1 hc
      exact go_vret C hr ⟨rfl, hw⟩ dX12_adds_110
    · replace hw := hw.2 hc
      refine go_lconst (v := 0) C rfl dX12_adds_8 ?_
      refine go_lstore (lv2 := [(5, .long 0), (0, .ref (G.2.2.1 75)), (2, .int v2), (3, .int v3), (4, .int v4)]) C (by rw [hnl]; decide) rfl dX12_adds_9 ?_
      refine go_iconst (v := 0) C rfl dX12_adds_11 ?_
      refine go_istore (lv2 := [(7, .int 0), (5, .long 0), (0, .ref (G.2.2.1 75)), (2, .int v2), (3, .int v3), (4, .int v4)]) C (by rw [hnl]; decide) rfl dX12_adds_12 ?_
      refine go_sub [2, 3, 4, 5, 1, 0] rfl ?_
      obtain ⟨n_0, hw⟩ := hw
      exact (gbX12_adds_14 C hr hR hnl hd hN ih) n_0 _ _ _ _ _ _ hw
set_option maxRecDepth 20000 in
set_option maxHeartbeats 4000000 in
theorem spX12_adds {l : Launch} {G : GT} {d : Nat}  (hd : 1 ≤ d)  (hN : 119 ≤ G.2.2.2.2.2)  {a1 : Int32} {a2 : Int32} {a3 : Int32} {σ : St} {post : St → Prop} (hw : wpX12_adds  a1 a2 a3 σ post) : Sp l G d yX12_adds cX12_adds 10 none [.ref (G.2.2.1 75), .int a1, .int a2, .int a3] σ (fun v τ => v = none ∧ post τ) := by
  refine Sp.of (by decide) (Nat.le_of_ble_eq_true rfl) fun X C hr hR hnl => ?_
  show Go X G 0 [(0, .ref (G.2.2.1 75)), (1, .int a1), (2, .int a2), (3, .int a3)] [] σ
  have hw : ∃ m_3, wbX12_adds_3 post m_3 a2 a3 a1 σ := hw
  refine go_iload_n C 1 rfl rfl dX12_adds_0 ?_
  refine go_istore (lv2 := [(4, .int a1), (0, .ref (G.2.2.1 75)), (1, .int a1), (2, .int a2), (3, .int a3)]) C (by rw [hnl]; decide) rfl dX12_adds_1 ?_
  refine go_sub [1, 3, 4, 0] rfl ?_
  obtain ⟨n_0, hw⟩ := hw
  exact (gbX12_adds_3 C hr hR hnl hd hN) n_0 _ _ _ _ hw
-- CradleNamesModel.sums(II)V
set_option maxRecDepth 20000 in
set_option maxHeartbeats 4000000 in
theorem gbX12_sums_34 {X : XT} {G : GT} {l : Launch} {d : Nat}  {post : St → Prop} (C : Cx X G cX12_sums RX12) (hr : Rt X G none (fun v τ => v = none ∧ post τ)) (hR : Rm X l d) (hnl : X.2.2.2.2.2.2.2.2.2.2.1 = 9)  (hd : 1 ≤ d) (hN : 119 ≤ G.2.2.2.2.2)  {K23 : Int32 → Int32 → St → Prop} (hK23 : ∀ (v2 : Int32) (v3 : Int32) (σ : St), K23 v2 v3 σ → Go X G 23 [(0, .ref (G.2.2.1 75)), (2, .int v2), (3, .int v3)] [] σ)
    : ∀ (n : Nat) (v2 : Int32) (v3 : Int32) (v4 : Int64) (v6 : Int32) (σ : St), wbX12_sums_34  K23 post n v2 v3 v4 v6 σ → Go X G 34 [(0, .ref (G.2.2.1 75)), (2, .int v2), (3, .int v3), (4, .long v4), (6, .int v6)] [] σ := by
  intro n
  induction n with
  | zero => intro v2 v3 v4 v6 σ hw; exact hw.elim
  | succ n ih =>
    intro v2 v3 v4 v6 σ hw
    have hw : ((30 ≤ v6 →
      ∀ v3_1 : Int32, v3_1 = v3 + 1 →
      K23 v2 v3_1 σ) ∧
    (¬ 30 ≤ v6 →
      vp_in v6 30 ∧ (
      vp_in ((30 * v3) + v6) 2400 ∧ (
      ∀ v7_2 : Int64, v7_2 = (((gL σ 115 v6.toNatClampNeg) + (gL σ 114 ((30 * v3) + v6).toNatClampNeg)) + v4) →
      vp_in v6 30 ∧ (
      ∀ σ_3 : St, σ_3 = sL σ 115 v6.toNatClampNeg (v7_2 - v7_2 / 1000000000 * 1000000000) →
      ∀ v4_4 : Int64, v4_4 = (v7_2 / 1000000000) →
      ∀ v6_5 : Int32, v6_5 = v6 + 1 →
      wbX12_sums_34 K23 post n v2 v3 v4_4 v6_5 σ_3))))) := hw
    refine go_iload C 4 rfl dX12_sums_34 ?_
    refine go_bipush (v := 30) C rfl dX12_sums_36 ?_
    refine go_icmp_ge C 93 rfl dX12_sums_38 (fun hc => ?_) (fun hc => ?_)
    · replace hw := hw.1 hc
      obtain ⟨v3_1, ev3_1⟩ : ∃ z : Int32, z = v3 + 1 := ⟨_, rfl⟩
      replace hw := hw v3_1 ev3_1
      refine go_iinc (v := v3_1) (lv2 := [(3, .int v3_1), (0, .ref (G.2.2.1 75)), (2, .int v2), (4, .long v4), (6, .int v6)]) C 2 rfl (by rw [ev3_1]; rfl) (by rw [hnl]; decide) rfl dX12_sums_93 ?_
      refine go_goto C 23 rfl dX12_sums_96 ?_
      refine go_sub [1, 2, 0] rfl ?_
      exact hK23 _ _ _ hw
    · replace hw := hw.2 hc
      refine go_aload_n C 0 rfl rfl dX12_sums_41 ?_
      refine go_get (v := .ref (G.2.2.1 115)) C (shX12 G) (ltX12 hN) lkX12_136 rfl dX12_sums_42 ?_
      refine go_iload C 4 rfl dX12_sums_45 ?_
      refine go_lald C (saX12_sum G) (laX12_sum hN) hw.1 dX12_sums_47 ?_
      replace hw := hw.2
      refine go_aload_n C 0 rfl rfl dX12_sums_48 ?_
      refine go_get (v := .ref (G.2.2.1 114)) C (shX12 G) (ltX12 hN) lkX12_133 rfl dX12_sums_49 ?_
      refine go_bipush (v := 30) C rfl dX12_sums_52 ?_
      refine go_iload_n C 2 rfl rfl dX12_sums_54 ?_
      refine go_imul C dX12_sums_55 ?_
      refine go_iload C 4 rfl dX12_sums_56 ?_
      refine go_iadd C dX12_sums_58 ?_
      refine go_lald C (saX12_ways G) (laX12_ways hN) hw.1 dX12_sums_59 ?_
      replace hw := hw.2
      refine go_ladd C dX12_sums_60 ?_
      refine go_lload C 3 rfl dX12_sums_61 ?_
      refine go_ladd C dX12_sums_63 ?_
      refine go_topl (fun v7_2 ev7_2 => ?_)
      replace hw := hw v7_2 ev7_2
      refine go_lstore (lv2 := [(7, .long v7_2), (0, .ref (G.2.2.1 75)), (2, .int v2), (3, .int v3), (4, .long v4), (6, .int v6)]) C (by rw [hnl]; decide) rfl dX12_sums_64 ?_
      refine go_aload_n C 1 rfl rfl dX12_sums_66 ?_
      refine go_get (v := .ref (G.2.2.1 115)) C (shX12 G) (ltX12 hN) lkX12_136 rfl dX12_sums_67 ?_
      refine go_iload C 5 rfl dX12_sums_70 ?_
      refine go_lload C 0 rfl dX12_sums_72 ?_
      refine go_ldc2 (v := 1000000000) C kcX12_389 dX12_sums_74 ?_
      refine go_lrem C (by decide) dX12_sums_77 ?_
      refine go_last C (saX12_sum G) (laX12_sum hN) hw.1 dX12_sums_78 (go_nm fun σ_3 eσ_3 => ?_)
      replace hw := hw.2 σ_3 eσ_3
      refine go_lload C 0 rfl dX12_sums_79 ?_
      refine go_ldc2 (v := 1000000000) C kcX12_389 dX12_sums_81 ?_
      refine go_ldiv C (by decide) dX12_sums_84 ?_
      refine go_topl (fun v4_4 ev4_4 => ?_)
      replace hw := hw v4_4 ev4_4
      refine go_lstore (lv2 := [(4, .long v4_4), (7, .long v7_2), (0, .ref (G.2.2.1 75)), (2, .int v2), (3, .int v3), (6, .int v6)]) C (by rw [hnl]; decide) rfl dX12_sums_85 ?_
      obtain ⟨v6_5, ev6_5⟩ : ∃ z : Int32, z = v6 + 1 := ⟨_, rfl⟩
      replace hw := hw v6_5 ev6_5
      refine go_iinc (v := v6_5) (lv2 := [(6, .int v6_5), (4, .long v4_4), (7, .long v7_2), (0, .ref (G.2.2.1 75)), (2, .int v2), (3, .int v3)]) C 5 rfl (by rw [ev6_5]; rfl) (by rw [hnl]; decide) rfl dX12_sums_87 ?_
      refine go_goto C 34 rfl dX12_sums_90 ?_
      refine go_sub [3, 4, 5, 1, 0] rfl ?_
      exact ih _ _ _ _ _ hw
set_option maxRecDepth 20000 in
set_option maxHeartbeats 4000000 in
theorem gbX12_sums_23 {X : XT} {G : GT} {l : Launch} {d : Nat}  {post : St → Prop} (C : Cx X G cX12_sums RX12) (hr : Rt X G none (fun v τ => v = none ∧ post τ)) (hR : Rm X l d) (hnl : X.2.2.2.2.2.2.2.2.2.2.1 = 9)  (hd : 1 ≤ d) (hN : 119 ≤ G.2.2.2.2.2)   
    : ∀ (n : Nat) (v2 : Int32) (v3 : Int32) (σ : St), wbX12_sums_23   post n v2 v3 σ → Go X G 23 [(0, .ref (G.2.2.1 75)), (2, .int v2), (3, .int v3)] [] σ := by
  intro n
  induction n with
  | zero => intro v2 v3 σ hw; exact hw.elim
  | succ n ih =>
    intro v2 v3 σ hw
    have hw : ((v2 < v3 →
      post σ) ∧
    (¬ v2 < v3 →
      ∃ m_34, wbX12_sums_34 (wbX12_sums_23 post n) post m_34 v2 v3 0 0 σ)) := hw
    refine go_iload_n C 2 rfl rfl dX12_sums_23 ?_
    refine go_iload_n C 1 rfl rfl dX12_sums_24 ?_
    refine go_icmp_gt C 99 rfl dX12_sums_25 (fun hc => ?_) (fun hc => ?_)
    · replace hw := hw.1 hc
      exact go_vret C hr ⟨rfl, hw⟩ dX12_sums_99
    · replace hw := hw.2 hc
      refine go_lconst (v := 0) C rfl dX12_sums_28 ?_
      refine go_lstore (lv2 := [(4, .long 0), (0, .ref (G.2.2.1 75)), (2, .int v2), (3, .int v3)]) C (by rw [hnl]; decide) rfl dX12_sums_29 ?_
      refine go_iconst (v := 0) C rfl dX12_sums_31 ?_
      refine go_istore (lv2 := [(6, .int 0), (4, .long 0), (0, .ref (G.2.2.1 75)), (2, .int v2), (3, .int v3)]) C (by rw [hnl]; decide) rfl dX12_sums_32 ?_
      refine go_sub [2, 3, 4, 1, 0] rfl ?_
      obtain ⟨n_0, hw⟩ := hw
      exact (gbX12_sums_34 C hr hR hnl hd hN ih) n_0 _ _ _ _ _ hw
set_option maxRecDepth 20000 in
set_option maxHeartbeats 4000000 in
theorem gbX12_sums_2 {X : XT} {G : GT} {l : Launch} {d : Nat}  {post : St → Prop} (C : Cx X G cX12_sums RX12) (hr : Rt X G none (fun v τ => v = none ∧ post τ)) (hR : Rm X l d) (hnl : X.2.2.2.2.2.2.2.2.2.2.1 = 9)  (hd : 1 ≤ d) (hN : 119 ≤ G.2.2.2.2.2)   
    : ∀ (n : Nat) (v1 : Int32) (v2 : Int32) (v3 : Int32) (σ : St), wbX12_sums_2   post n v1 v2 v3 σ → Go X G 2 [(0, .ref (G.2.2.1 75)), (1, .int v1), (2, .int v2), (3, .int v3)] [] σ := by
  intro n
  induction n with
  | zero => intro v1 v2 v3 σ hw; exact hw.elim
  | succ n ih =>
    intro v1 v2 v3 σ hw
    have hw : ((30 ≤ v3 →
      ∃ m_23, wbX12_sums_23 post m_23 v2 v1 σ) ∧
    (¬ 30 ≤ v3 →
      vp_in v3 30 ∧ (
      ∀ σ_1 : St, σ_1 = sL σ 115 v3.toNatClampNeg 0 →
      ∀ v3_2 : Int32, v3_2 = v3 + 1 →
      wbX12_sums_2 post n v1 v2 v3_2 σ_1))) := hw
    refine go_iload_n C 3 rfl rfl dX12_sums_2 ?_
    refine go_bipush (v := 30) C rfl dX12_sums_3 ?_
    refine go_icmp_ge C 21 rfl dX12_sums_5 (fun hc => ?_) (fun hc => ?_)
    · replace hw := hw.1 hc
      refine go_iload_n C 1 rfl rfl dX12_sums_21 ?_
      refine go_istore_n (lv2 := [(3, .int v1), (0, .ref (G.2.2.1 75)), (1, .int v1), (2, .int v2)]) C rfl (by rw [hnl]; decide) rfl dX12_sums_22 ?_
      refine go_sub [1, 3, 0] rfl ?_
      obtain ⟨n_0, hw⟩ := hw
      exact (gbX12_sums_23 C hr hR hnl hd hN) n_0 _ _ _ hw
    · replace hw := hw.2 hc
      refine go_aload_n C 0 rfl rfl dX12_sums_8 ?_
      refine go_get (v := .ref (G.2.2.1 115)) C (shX12 G) (ltX12 hN) lkX12_136 rfl dX12_sums_9 ?_
      refine go_iload_n C 3 rfl rfl dX12_sums_12 ?_
      refine go_lconst (v := 0) C rfl dX12_sums_13 ?_
      refine go_last C (saX12_sum G) (laX12_sum hN) hw.1 dX12_sums_14 (go_nm fun σ_1 eσ_1 => ?_)
      replace hw := hw.2 σ_1 eσ_1
      obtain ⟨v3_2, ev3_2⟩ : ∃ z : Int32, z = v3 + 1 := ⟨_, rfl⟩
      replace hw := hw v3_2 ev3_2
      refine go_iinc (v := v3_2) (lv2 := [(3, .int v3_2), (0, .ref (G.2.2.1 75)), (1, .int v1), (2, .int v2)]) C 3 rfl (by rw [ev3_2]; rfl) (by rw [hnl]; decide) rfl dX12_sums_15 ?_
      refine go_goto C 2 rfl dX12_sums_18 ?_
      refine go_sub [1, 2, 3, 0] rfl ?_
      exact ih _ _ _ _ hw
set_option maxRecDepth 20000 in
set_option maxHeartbeats 4000000 in
theorem spX12_sums {l : Launch} {G : GT} {d : Nat}  (hd : 1 ≤ d)  (hN : 119 ≤ G.2.2.2.2.2)  {a1 : Int32} {a2 : Int32} {σ : St} {post : St → Prop} (hw : wpX12_sums  a1 a2 σ post) : Sp l G d yX12_sums cX12_sums 9 none [.ref (G.2.2.1 75), .int a1, .int a2] σ (fun v τ => v = none ∧ post τ) := by
  refine Sp.of (by decide) (Nat.le_of_ble_eq_true rfl) fun X C hr hR hnl => ?_
  show Go X G 0 [(0, .ref (G.2.2.1 75)), (1, .int a1), (2, .int a2)] [] σ
  have hw : ∃ m_2, wbX12_sums_2 post m_2 a1 a2 0 σ := hw
  refine go_iconst (v := 0) C rfl dX12_sums_0 ?_
  refine go_istore_n (lv2 := [(3, .int 0), (0, .ref (G.2.2.1 75)), (1, .int a1), (2, .int a2)]) C rfl (by rw [hnl]; decide) rfl dX12_sums_1 ?_
  refine go_sub [1, 2, 3, 0] rfl ?_
  obtain ⟨n_0, hw⟩ := hw
  exact (gbX12_sums_2 C hr hR hnl hd hN) n_0 _ _ _ _ hw
-- CradleNamesModel.isRare(I)Z
set_option maxRecDepth 20000 in
set_option maxHeartbeats 4000000 in
theorem gbX12_isRare_56 {X : XT} {G : GT} {l : Launch} {d : Nat}  {post : Int32 → St → Prop} (C : Cx X G cX12_isRare RX12) (hr : Rt X G (some .boolean) (fun v τ => ∃ r : Int32, v = some (.int r) ∧ post r τ)) (hR : Rm X l d) (hnl : X.2.2.2.2.2.2.2.2.2.2.1 = 7)  (hd : 1 ≤ d) (hN : 119 ≤ G.2.2.2.2.2)   
    : ∀ (n : Nat) (v4 : Int32) (σ : St), wbX12_isRare_56   post n v4 σ → Go X G 56 [(0, .ref (G.2.2.1 75)), (4, .int v4)] [] σ := by
  intro n
  induction n with
  | zero => intro v4 σ hw; exact hw.elim
  | succ n ih =>
    intro v4 σ hw
    have hw : ((v4 < 0 →
      post 1 σ) ∧
    (¬ v4 < 0 →
      vp_in v4 30 ∧ (
      vp_in v4 30 ∧ (
      (((gL σ 115 v4.toNatClampNeg) = (gL σ 116 v4.toNatClampNeg) →
        ∀ v4_1 : Int32, v4_1 = v4 + (-1) →
        wbX12_isRare_56 post n v4_1 σ) ∧
      (¬ (gL σ 115 v4.toNatClampNeg) = (gL σ 116 v4.toNatClampNeg) →
        vp_in v4 30 ∧ (
        vp_in v4 30 ∧ (
        (((gL σ 116 v4.toNatClampNeg) ≤ (gL σ 115 v4.toNatClampNeg) →
          post 0 σ) ∧
        (¬ (gL σ 116 v4.toNatClampNeg) ≤ (gL σ 115 v4.toNatClampNeg) →
          post 1 σ)))))))))) := hw
    refine go_iload C 1 rfl dX12_isRare_56 ?_
    refine go_if_lt C 109 rfl dX12_isRare_58 (fun hc => ?_) (fun hc => ?_)
    · replace hw := hw.1 hc
      refine go_iconst (v := 1) C rfl dX12_isRare_109 ?_
      exact go_zret C hr rfl ⟨_, rfl, hw⟩ dX12_isRare_110
    · replace hw := hw.2 hc
      refine go_aload_n C 0 rfl rfl dX12_isRare_61 ?_
      refine go_get (v := .ref (G.2.2.1 115)) C (shX12 G) (ltX12 hN) lkX12_136 rfl dX12_isRare_62 ?_
      refine go_iload C 1 rfl dX12_isRare_65 ?_
      refine go_lald C (saX12_sum G) (laX12_sum hN) hw.1 dX12_isRare_67 ?_
      replace hw := hw.2
      refine go_aload_n C 0 rfl rfl dX12_isRare_68 ?_
      refine go_get (v := .ref (G.2.2.1 116)) C (shX12 G) (ltX12 hN) lkX12_139 rfl dX12_isRare_69 ?_
      refine go_iload C 1 rfl dX12_isRare_72 ?_
      refine go_lald C (saX12_rows G) (laX12_rows hN) hw.1 dX12_isRare_74 ?_
      replace hw := hw.2
      refine go_lc_eq C 103 rfl dX12_isRare_75 dX12_isRare_76 (fun hc => ?_) (fun hc => ?_)
      · replace hw := hw.1 hc
        obtain ⟨v4_1, ev4_1⟩ : ∃ z : Int32, z = v4 + (-1) := ⟨_, rfl⟩
        replace hw := hw v4_1 ev4_1
        refine go_iinc (v := v4_1) (lv2 := [(4, .int v4_1), (0, .ref (G.2.2.1 75))]) C 1 rfl (by rw [ev4_1]; rfl) (by rw [hnl]; decide) rfl dX12_isRare_103 ?_
        refine go_goto C 56 rfl dX12_isRare_106 ?_
        refine go_sub [1, 0] rfl ?_
        exact ih _ _ hw
      · replace hw := hw.2 hc
        refine go_aload_n C 0 rfl rfl dX12_isRare_79 ?_
        refine go_get (v := .ref (G.2.2.1 115)) C (shX12 G) (ltX12 hN) lkX12_136 rfl dX12_isRare_80 ?_
        refine go_iload C 1 rfl dX12_isRare_83 ?_
        refine go_lald C (saX12_sum G) (laX12_sum hN) hw.1 dX12_isRare_85 ?_
        replace hw := hw.2
        refine go_aload_n C 0 rfl rfl dX12_isRare_86 ?_
        refine go_get (v := .ref (G.2.2.1 116)) C (shX12 G) (ltX12 hN) lkX12_139 rfl dX12_isRare_87 ?_
        refine go_iload C 1 rfl dX12_isRare_90 ?_
        refine go_lald C (saX12_rows G) (laX12_rows hN) hw.1 dX12_isRare_92 ?_
        replace hw := hw.2
        refine go_lc_ge C 101 rfl dX12_isRare_93 dX12_isRare_94 (fun hc => ?_) (fun hc => ?_)
        · replace hw := hw.1 hc
          refine go_iconst (v := 0) C rfl dX12_isRare_101 ?_
          exact go_zret C hr rfl ⟨_, rfl, hw⟩ dX12_isRare_102
        · replace hw := hw.2 hc
          refine go_iconst (v := 1) C rfl dX12_isRare_97 ?_
          refine go_goto C 102 rfl dX12_isRare_98 ?_
          exact go_zret C hr rfl ⟨_, rfl, hw⟩ dX12_isRare_102
set_option maxRecDepth 20000 in
set_option maxHeartbeats 4000000 in
theorem gbX12_isRare_5 {X : XT} {G : GT} {l : Launch} {d : Nat}  {post : Int32 → St → Prop} (C : Cx X G cX12_isRare RX12) (hr : Rt X G (some .boolean) (fun v τ => ∃ r : Int32, v = some (.int r) ∧ post r τ)) (hR : Rm X l d) (hnl : X.2.2.2.2.2.2.2.2.2.2.1 = 7)  (hd : 1 ≤ d) (hN : 119 ≤ G.2.2.2.2.2)   
    : ∀ (n : Nat) (v1 : Int32) (v2 : Int64) (v4 : Int32) (σ : St), wbX12_isRare_5   post n v1 v2 v4 σ → Go X G 5 [(0, .ref (G.2.2.1 75)), (1, .int v1), (2, .long v2), (4, .int v4)] [] σ := by
  intro n
  induction n with
  | zero => intro v1 v2 v4 σ hw; exact hw.elim
  | succ n ih =>
    intro v1 v2 v4 σ hw
    have hw : ((30 ≤ v4 →
      ∃ m_56, wbX12_isRare_56 post m_56 29 σ) ∧
    (¬ 30 ≤ v4 →
      vp_in v4 30 ∧ (
      ∀ v5_1 : Int64, v5_1 = (((gL σ 115 v4.toNatClampNeg) * v1.toInt64) + v2) →
      vp_in v4 30 ∧ (
      ∀ σ_2 : St, σ_2 = sL σ 115 v4.toNatClampNeg (v5_1 - v5_1 / 1000000000 * 1000000000) →
      ∀ v2_3 : Int64, v2_3 = (v5_1 / 1000000000) →
      ∀ v4_4 : Int32, v4_4 = v4 + 1 →
      wbX12_isRare_5 post n v1 v2_3 v4_4 σ_2)))) := hw
    refine go_iload C 3 rfl dX12_isRare_5 ?_
    refine go_bipush (v := 30) C rfl dX12_isRare_7 ?_
    refine go_icmp_ge C 52 rfl dX12_isRare_9 (fun hc => ?_) (fun hc => ?_)
    · replace hw := hw.1 hc
      refine go_bipush (v := 29) C rfl dX12_isRare_52 ?_
      refine go_istore (lv2 := [(4, .int 29), (0, .ref (G.2.2.1 75)), (1, .int v1), (2, .long v2)]) C (by rw [hnl]; decide) rfl dX12_isRare_54 ?_
      refine go_sub [1, 0] rfl ?_
      obtain ⟨n_0, hw⟩ := hw
      exact (gbX12_isRare_56 C hr hR hnl hd hN) n_0 _ _ hw
    · replace hw := hw.2 hc
      refine go_aload_n C 0 rfl rfl dX12_isRare_12 ?_
      refine go_get (v := .ref (G.2.2.1 115)) C (shX12 G) (ltX12 hN) lkX12_136 rfl dX12_isRare_13 ?_
      refine go_iload C 3 rfl dX12_isRare_16 ?_
      refine go_lald C (saX12_sum G) (laX12_sum hN) hw.1 dX12_isRare_18 ?_
      replace hw := hw.2
      refine go_iload_n C 1 rfl rfl dX12_isRare_19 ?_
      refine go_i2l C dX12_isRare_20 ?_
      refine go_lmul C dX12_isRare_21 ?_
      refine go_lload_n C 2 rfl rfl dX12_isRare_22 ?_
      refine go_ladd C dX12_isRare_23 ?_
      refine go_topl (fun v5_1 ev5_1 => ?_)
      replace hw := hw v5_1 ev5_1
      refine go_lstore (lv2 := [(5, .long v5_1), (0, .ref (G.2.2.1 75)), (1, .int v1), (2, .long v2), (4, .int v4)]) C (by rw [hnl]; decide) rfl dX12_isRare_24 ?_
      refine go_aload_n C 1 rfl rfl dX12_isRare_26 ?_
      refine go_get (v := .ref (G.2.2.1 115)) C (shX12 G) (ltX12 hN) lkX12_136 rfl dX12_isRare_27 ?_
      refine go_iload C 4 rfl dX12_isRare_30 ?_
      refine go_lload C 0 rfl dX12_isRare_32 ?_
      refine go_ldc2 (v := 1000000000) C kcX12_389 dX12_isRare_34 ?_
      refine go_lrem C (by decide) dX12_isRare_37 ?_
      refine go_last C (saX12_sum G) (laX12_sum hN) hw.1 dX12_isRare_38 (go_nm fun σ_2 eσ_2 => ?_)
      replace hw := hw.2 σ_2 eσ_2
      refine go_lload C 0 rfl dX12_isRare_39 ?_
      refine go_ldc2 (v := 1000000000) C kcX12_389 dX12_isRare_41 ?_
      refine go_ldiv C (by decide) dX12_isRare_44 ?_
      refine go_topl (fun v2_3 ev2_3 => ?_)
      replace hw := hw v2_3 ev2_3
      refine go_lstore_n (lv2 := [(2, .long v2_3), (5, .long v5_1), (0, .ref (G.2.2.1 75)), (1, .int v1), (4, .int v4)]) C rfl (by rw [hnl]; decide) rfl dX12_isRare_45 ?_
      obtain ⟨v4_4, ev4_4⟩ : ∃ z : Int32, z = v4 + 1 := ⟨_, rfl⟩
      replace hw := hw v4_4 ev4_4
      refine go_iinc (v := v4_4) (lv2 := [(4, .int v4_4), (2, .long v2_3), (5, .long v5_1), (0, .ref (G.2.2.1 75)), (1, .int v1)]) C 4 rfl (by rw [ev4_4]; rfl) (by rw [hnl]; decide) rfl dX12_isRare_46 ?_
      refine go_goto C 5 rfl dX12_isRare_49 ?_
      refine go_sub [3, 4, 1, 0] rfl ?_
      exact ih _ _ _ _ hw
set_option maxRecDepth 20000 in
set_option maxHeartbeats 4000000 in
theorem spX12_isRare {l : Launch} {G : GT} {d : Nat}  (hd : 1 ≤ d)  (hN : 119 ≤ G.2.2.2.2.2)  {a1 : Int32} {σ : St} {post : Int32 → St → Prop} (hw : wpX12_isRare  a1 σ post) : Sp l G d yX12_isRare cX12_isRare 7 (some .boolean) [.ref (G.2.2.1 75), .int a1] σ (fun v τ => ∃ r : Int32, v = some (.int r) ∧ post r τ) := by
  refine Sp.of (by decide) (Nat.le_of_ble_eq_true rfl) fun X C hr hR hnl => ?_
  show Go X G 0 [(0, .ref (G.2.2.1 75)), (1, .int a1)] [] σ
  have hw : ∃ m_5, wbX12_isRare_5 post m_5 a1 0 0 σ := hw
  refine go_lconst (v := 0) C rfl dX12_isRare_0 ?_
  refine go_lstore_n (lv2 := [(2, .long 0), (0, .ref (G.2.2.1 75)), (1, .int a1)]) C rfl (by rw [hnl]; decide) rfl dX12_isRare_1 ?_
  refine go_iconst (v := 0) C rfl dX12_isRare_2 ?_
  refine go_istore (lv2 := [(4, .int 0), (2, .long 0), (0, .ref (G.2.2.1 75)), (1, .int a1)]) C (by rw [hnl]; decide) rfl dX12_isRare_3 ?_
  refine go_sub [2, 3, 1, 0] rfl ?_
  obtain ⟨n_0, hw⟩ := hw
  exact (gbX12_isRare_5 C hr hR hnl hd hN) n_0 _ _ _ _ hw
-- CradleNamesModel.chanceOf(III)I
set_option maxRecDepth 20000 in
set_option maxHeartbeats 4000000 in
theorem gbX12_chanceOf_105 {X : XT} {G : GT} {l : Launch} {d : Nat}  {post : Int32 → St → Prop} (C : Cx X G cX12_chanceOf RX12) (hr : Rt X G (some .int) (fun v τ => ∃ r : Int32, v = some (.int r) ∧ post r τ)) (hR : Rm X l d) (hnl : X.2.2.2.2.2.2.2.2.2.2.1 = 9)  (hd : 3 ≤ d) (hN : 119 ≤ G.2.2.2.2.2)   
    : ∀ (n : Nat) (v3 : Int32) (v4 : Int32) (v7 : Int32) (v8 : Int32) (σ : St), wbX12_chanceOf_105   post n v3 v4 v7 v8 σ → Go X G 105 [(0, .ref (G.2.2.1 75)), (3, .int v3), (4, .int v4), (7, .int v7), (8, .int v8)] [] σ := by
  intro n
  induction n with
  | zero => intro v3 v4 v7 v8 σ hw; exact hw.elim
  | succ n ih =>
    intro v3 v4 v7 v8 σ hw
    have hw : ((30 ≤ v8 →
      wpX12_sums v7 v4 σ (fun σ_2 =>
      wpX12_isRare v3 σ_2 (fun r_3 σ_4 =>
      ((r_3 = 0 →
        wpX12_sums 0 v7 σ_4 (fun σ_6 =>
        wpX12_isRare v3 σ_6 (fun r_7 σ_8 =>
        ((r_7 = 0 →
          post 0 σ_8) ∧
        (¬ r_7 = 0 →
          post 2 σ_8))))) ∧
      (¬ r_3 = 0 →
        post 1 σ_4))))) ∧
    (¬ 30 ≤ v8 →
      vp_in v8 30 ∧ (
      vp_in v8 30 ∧ (
      ∀ σ_9 : St, σ_9 = sL σ 116 v8.toNatClampNeg (gL σ 115 v8.toNatClampNeg) →
      ∀ v8_10 : Int32, v8_10 = v8 + 1 →
      wbX12_chanceOf_105 post n v3 v4 v7 v8_10 σ_9)))) := hw
    refine go_iload C 4 rfl dX12_chanceOf_105 ?_
    refine go_bipush (v := 30) C rfl dX12_chanceOf_107 ?_
    refine go_icmp_ge C 132 rfl dX12_chanceOf_109 (fun hc => ?_) (fun hc => ?_)
    · replace hw := hw.1 hc
      refine go_aload_n C 0 rfl rfl dX12_chanceOf_132 ?_
      refine go_iload C 3 rfl dX12_chanceOf_133 ?_
      refine go_iload C 2 rfl dX12_chanceOf_135 ?_
      refine go_callV (as := [.int v7, .int v4]) C hR (shX12 G) (ltX12 hN) cwX12_519 (Nat.le_trans (by decide) hd) (by decide) rfl rfl (Nat.le_of_ble_eq_true rfl) dX12_chanceOf_137 (spX12_sums (Nat.le_refl _) hN hw) (fun v_ τ_ hw => ?_)
      obtain ⟨rfl, hw⟩ := hw
      obtain ⟨σ_2, rfl⟩ : ∃ z, z = τ_ := ⟨_, rfl⟩
      refine go_aload_n C 0 rfl rfl dX12_chanceOf_140 ?_
      refine go_iload_n C 1 rfl rfl dX12_chanceOf_141 ?_
      refine go_callV (as := [.int v3]) C hR (shX12 G) (ltX12 hN) cwX12_522 (Nat.le_trans (by decide) hd) (by decide) rfl rfl (Nat.le_of_ble_eq_true rfl) dX12_chanceOf_142 (spX12_isRare (Nat.le_refl _) hN hw) (fun v_ τ_ hw => ?_)
      obtain ⟨r_3, rfl, hw⟩ := hw
      obtain ⟨σ_4, rfl⟩ : ∃ z, z = τ_ := ⟨_, rfl⟩
      refine go_if_eq C 150 rfl dX12_chanceOf_145 (fun hc => ?_) (fun hc => ?_)
      · replace hw := hw.1 hc
        refine go_aload_n C 0 rfl rfl dX12_chanceOf_150 ?_
        refine go_iconst (v := 0) C rfl dX12_chanceOf_151 ?_
        refine go_iload C 3 rfl dX12_chanceOf_152 ?_
        refine go_callV (as := [.int 0, .int v7]) C hR (shX12 G) (ltX12 hN) cwX12_519 (Nat.le_trans (by decide) hd) (by decide) rfl rfl (Nat.le_of_ble_eq_true rfl) dX12_chanceOf_154 (spX12_sums (Nat.le_refl _) hN hw) (fun v_ τ_ hw => ?_)
        obtain ⟨rfl, hw⟩ := hw
        obtain ⟨σ_6, rfl⟩ : ∃ z, z = τ_ := ⟨_, rfl⟩
        refine go_aload_n C 0 rfl rfl dX12_chanceOf_157 ?_
        refine go_iload_n C 1 rfl rfl dX12_chanceOf_158 ?_
        refine go_callV (as := [.int v3]) C hR (shX12 G) (ltX12 hN) cwX12_522 (Nat.le_trans (by decide) hd) (by decide) rfl rfl (Nat.le_of_ble_eq_true rfl) dX12_chanceOf_159 (spX12_isRare (Nat.le_refl _) hN hw) (fun v_ τ_ hw => ?_)
        obtain ⟨r_7, rfl, hw⟩ := hw
        obtain ⟨σ_8, rfl⟩ : ∃ z, z = τ_ := ⟨_, rfl⟩
        refine go_if_eq C 169 rfl dX12_chanceOf_162 (fun hc => ?_) (fun hc => ?_)
        · replace hw := hw.1 hc
          refine go_iconst (v := 0) C rfl dX12_chanceOf_169 ?_
          exact go_iret C hr ⟨_, rfl, hw⟩ dX12_chanceOf_170
        · replace hw := hw.2 hc
          refine go_iconst (v := 2) C rfl dX12_chanceOf_165 ?_
          refine go_goto C 170 rfl dX12_chanceOf_166 ?_
          exact go_iret C hr ⟨_, rfl, hw⟩ dX12_chanceOf_170
      · replace hw := hw.2 hc
        refine go_iconst (v := 1) C rfl dX12_chanceOf_148 ?_
        exact go_iret C hr ⟨_, rfl, hw⟩ dX12_chanceOf_149
    · replace hw := hw.2 hc
      refine go_aload_n C 0 rfl rfl dX12_chanceOf_112 ?_
      refine go_get (v := .ref (G.2.2.1 116)) C (shX12 G) (ltX12 hN) lkX12_139 rfl dX12_chanceOf_113 ?_
      refine go_iload C 4 rfl dX12_chanceOf_116 ?_
      refine go_aload_n C 0 rfl rfl dX12_chanceOf_118 ?_
      refine go_get (v := .ref (G.2.2.1 115)) C (shX12 G) (ltX12 hN) lkX12_136 rfl dX12_chanceOf_119 ?_
      refine go_iload C 4 rfl dX12_chanceOf_122 ?_
      refine go_lald C (saX12_sum G) (laX12_sum hN) hw.1 dX12_chanceOf_124 ?_
      replace hw := hw.2
      refine go_last C (saX12_rows G) (laX12_rows hN) hw.1 dX12_chanceOf_125 (go_nm fun σ_9 eσ_9 => ?_)
      replace hw := hw.2 σ_9 eσ_9
      obtain ⟨v8_10, ev8_10⟩ : ∃ z : Int32, z = v8 + 1 := ⟨_, rfl⟩
      replace hw := hw v8_10 ev8_10
      refine go_iinc (v := v8_10) (lv2 := [(8, .int v8_10), (0, .ref (G.2.2.1 75)), (3, .int v3), (4, .int v4), (7, .int v7)]) C 4 rfl (by rw [ev8_10]; rfl) (by rw [hnl]; decide) rfl dX12_chanceOf_126 ?_
      refine go_goto C 105 rfl dX12_chanceOf_129 ?_
      refine go_sub [1, 2, 3, 4, 0] rfl ?_
      exact ih _ _ _ _ _ hw
set_option maxRecDepth 20000 in
set_option maxHeartbeats 4000000 in
theorem gbX12_chanceOf_69 {X : XT} {G : GT} {l : Launch} {d : Nat}  {post : Int32 → St → Prop} (C : Cx X G cX12_chanceOf RX12) (hr : Rt X G (some .int) (fun v τ => ∃ r : Int32, v = some (.int r) ∧ post r τ)) (hR : Rm X l d) (hnl : X.2.2.2.2.2.2.2.2.2.2.1 = 9)  (hd : 3 ≤ d) (hN : 119 ≤ G.2.2.2.2.2)   
    : ∀ (n : Nat) (v3 : Int32) (v4 : Int32) (v5 : Int32) (v6 : Int32) (v7 : Int32) (v8 : Int32) (σ : St), wbX12_chanceOf_69   post n v3 v4 v5 v6 v7 v8 σ → Go X G 69 [(0, .ref (G.2.2.1 75)), (3, .int v3), (4, .int v4), (5, .int v5), (6, .int v6), (7, .int v7), (8, .int v8)] [] σ := by
  intro n
  induction n with
  | zero => intro v3 v4 v5 v6 v7 v8 σ hw; exact hw.elim
  | succ n ih =>
    intro v3 v4 v5 v6 v7 v8 σ hw
    have hw : ((v4 < v8 →
      wpX12_sums 0 v4 σ (fun σ_2 =>
      ∃ m_105, wbX12_chanceOf_105 post m_105 v3 v4 v7 0 σ_2)) ∧
    (¬ v4 < v8 →
      wpX12_adds v8 v6 (v5 - v6) σ (fun σ_4 =>
      ∀ v8_5 : Int32, v8_5 = v8 + 1 →
      wbX12_chanceOf_69 post n v3 v4 v5 v6 v7 v8_5 σ_4))) := hw
    refine go_iload C 6 rfl dX12_chanceOf_69 ?_
    refine go_iload C 2 rfl dX12_chanceOf_71 ?_
    refine go_icmp_gt C 95 rfl dX12_chanceOf_73 (fun hc => ?_) (fun hc => ?_)
    · replace hw := hw.1 hc
      refine go_aload_n C 0 rfl rfl dX12_chanceOf_95 ?_
      refine go_iconst (v := 0) C rfl dX12_chanceOf_96 ?_
      refine go_iload C 2 rfl dX12_chanceOf_97 ?_
      refine go_callV (as := [.int 0, .int v4]) C hR (shX12 G) (ltX12 hN) cwX12_519 (Nat.le_trans (by decide) hd) (by decide) rfl rfl (Nat.le_of_ble_eq_true rfl) dX12_chanceOf_99 (spX12_sums (Nat.le_refl _) hN hw) (fun v_ τ_ hw => ?_)
      obtain ⟨rfl, hw⟩ := hw
      obtain ⟨σ_2, rfl⟩ : ∃ z, z = τ_ := ⟨_, rfl⟩
      refine go_iconst (v := 0) C rfl dX12_chanceOf_102 ?_
      refine go_istore (lv2 := [(8, .int 0), (0, .ref (G.2.2.1 75)), (3, .int v3), (4, .int v4), (5, .int v5), (6, .int v6), (7, .int v7)]) C (by rw [hnl]; decide) rfl dX12_chanceOf_103 ?_
      refine go_sub [1, 2, 3, 6, 0] rfl ?_
      obtain ⟨n_0, hw⟩ := hw
      exact (gbX12_chanceOf_105 C hr hR hnl hd hN) n_0 _ _ _ _ _ hw
    · replace hw := hw.2 hc
      refine go_aload_n C 0 rfl rfl dX12_chanceOf_76 ?_
      refine go_iload C 6 rfl dX12_chanceOf_77 ?_
      refine go_iload C 4 rfl dX12_chanceOf_79 ?_
      refine go_iload C 3 rfl dX12_chanceOf_81 ?_
      refine go_iload C 4 rfl dX12_chanceOf_83 ?_
      refine go_isub C dX12_chanceOf_85 ?_
      refine go_callV (as := [.int v8, .int v6, .int (v5 - v6)]) C hR (shX12 G) (ltX12 hN) cwX12_516 (Nat.le_trans (by decide) hd) (by decide) rfl rfl (Nat.le_of_ble_eq_true rfl) dX12_chanceOf_86 (spX12_adds (Nat.le_refl _) hN hw) (fun v_ τ_ hw => ?_)
      obtain ⟨rfl, hw⟩ := hw
      obtain ⟨σ_4, rfl⟩ : ∃ z, z = τ_ := ⟨_, rfl⟩
      obtain ⟨v8_5, ev8_5⟩ : ∃ z : Int32, z = v8 + 1 := ⟨_, rfl⟩
      replace hw := hw v8_5 ev8_5
      refine go_iinc (v := v8_5) (lv2 := [(8, .int v8_5), (0, .ref (G.2.2.1 75)), (3, .int v3), (4, .int v4), (5, .int v5), (6, .int v6), (7, .int v7)]) C 6 rfl (by rw [ev8_5]; rfl) (by rw [hnl]; decide) rfl dX12_chanceOf_89 ?_
      refine go_goto C 69 rfl dX12_chanceOf_92 ?_
      refine go_sub [1, 2, 3, 4, 5, 6, 0] rfl ?_
      exact ih _ _ _ _ _ _ _ hw
set_option maxRecDepth 20000 in
set_option maxHeartbeats 4000000 in
theorem gbX12_chanceOf_37 {X : XT} {G : GT} {l : Launch} {d : Nat}  {post : Int32 → St → Prop} (C : Cx X G cX12_chanceOf RX12) (hr : Rt X G (some .int) (fun v τ => ∃ r : Int32, v = some (.int r) ∧ post r τ)) (hR : Rm X l d) (hnl : X.2.2.2.2.2.2.2.2.2.2.1 = 9)  (hd : 3 ≤ d) (hN : 119 ≤ G.2.2.2.2.2)   
    : ∀ (n : Nat) (v3 : Int32) (v4 : Int32) (v5 : Int32) (v6 : Int32) (v7 : Int32) (v8 : Int32) (σ : St), wbX12_chanceOf_37   post n v3 v4 v5 v6 v7 v8 σ → Go X G 37 [(0, .ref (G.2.2.1 75)), (3, .int v3), (4, .int v4), (5, .int v5), (6, .int v6), (7, .int v7), (8, .int v8)] [] σ := by
  intro n
  induction n with
  | zero => intro v3 v4 v5 v6 v7 v8 σ hw; exact hw.elim
  | succ n ih =>
    intro v3 v4 v5 v6 v7 v8 σ hw
    have hw : ((2400 ≤ v8 →
      vp_in 0 2400 ∧ (
      ∀ σ_1 : St, σ_1 = sL σ 114 (0 : Int32).toNatClampNeg 1 →
      ∃ m_69, wbX12_chanceOf_69 post m_69 v3 v4 v5 v6 v7 1 σ_1)) ∧
    (¬ 2400 ≤ v8 →
      vp_in v8 2400 ∧ (
      ∀ σ_2 : St, σ_2 = sL σ 114 v8.toNatClampNeg 0 →
      ∀ v8_3 : Int32, v8_3 = v8 + 1 →
      wbX12_chanceOf_37 post n v3 v4 v5 v6 v7 v8_3 σ_2))) := hw
    refine go_iload C 6 rfl dX12_chanceOf_37 ?_
    refine go_sipush (v := 2400) C rfl dX12_chanceOf_39 ?_
    refine go_icmp_ge C 59 rfl dX12_chanceOf_42 (fun hc => ?_) (fun hc => ?_)
    · replace hw := hw.1 hc
      refine go_aload_n C 0 rfl rfl dX12_chanceOf_59 ?_
      refine go_get (v := .ref (G.2.2.1 114)) C (shX12 G) (ltX12 hN) lkX12_133 rfl dX12_chanceOf_60 ?_
      refine go_iconst (v := 0) C rfl dX12_chanceOf_63 ?_
      refine go_lconst (v := 1) C rfl dX12_chanceOf_64 ?_
      refine go_last C (saX12_ways G) (laX12_ways hN) hw.1 dX12_chanceOf_65 (go_nm fun σ_1 eσ_1 => ?_)
      replace hw := hw.2 σ_1 eσ_1
      refine go_iconst (v := 1) C rfl dX12_chanceOf_66 ?_
      refine go_istore (lv2 := [(8, .int 1), (0, .ref (G.2.2.1 75)), (3, .int v3), (4, .int v4), (5, .int v5), (6, .int v6), (7, .int v7)]) C (by rw [hnl]; decide) rfl dX12_chanceOf_67 ?_
      refine go_sub [1, 2, 3, 4, 5, 6, 0] rfl ?_
      obtain ⟨n_0, hw⟩ := hw
      exact (gbX12_chanceOf_69 C hr hR hnl hd hN) n_0 _ _ _ _ _ _ _ hw
    · replace hw := hw.2 hc
      refine go_aload_n C 0 rfl rfl dX12_chanceOf_45 ?_
      refine go_get (v := .ref (G.2.2.1 114)) C (shX12 G) (ltX12 hN) lkX12_133 rfl dX12_chanceOf_46 ?_
      refine go_iload C 6 rfl dX12_chanceOf_49 ?_
      refine go_lconst (v := 0) C rfl dX12_chanceOf_51 ?_
      refine go_last C (saX12_ways G) (laX12_ways hN) hw.1 dX12_chanceOf_52 (go_nm fun σ_2 eσ_2 => ?_)
      replace hw := hw.2 σ_2 eσ_2
      obtain ⟨v8_3, ev8_3⟩ : ∃ z : Int32, z = v8 + 1 := ⟨_, rfl⟩
      replace hw := hw v8_3 ev8_3
      refine go_iinc (v := v8_3) (lv2 := [(8, .int v8_3), (0, .ref (G.2.2.1 75)), (3, .int v3), (4, .int v4), (5, .int v5), (6, .int v6), (7, .int v7)]) C 6 rfl (by rw [ev8_3]; rfl) (by rw [hnl]; decide) rfl dX12_chanceOf_53 ?_
      refine go_goto C 37 rfl dX12_chanceOf_56 ?_
      refine go_sub [1, 2, 3, 4, 5, 6, 0] rfl ?_
      exact ih _ _ _ _ _ _ _ hw
set_option maxRecDepth 20000 in
set_option maxHeartbeats 4000000 in
theorem spX12_chanceOf {l : Launch} {G : GT} {d : Nat}  (hd : 3 ≤ d)  (hN : 119 ≤ G.2.2.2.2.2)  {a1 : Int32} {a2 : Int32} {a3 : Int32} {σ : St} {post : Int32 → St → Prop} (hw : wpX12_chanceOf  a1 a2 a3 σ post) : Sp l G d yX12_chanceOf cX12_chanceOf 9 (some .int) [.ref (G.2.2.1 75), .int a1, .int a2, .int a3] σ (fun v τ => ∃ r : Int32, v = some (.int r) ∧ post r τ) := by
  refine Sp.of (by decide) (Nat.le_of_ble_eq_true rfl) fun X C hr hR hnl => ?_
  show Go X G 0 [(0, .ref (G.2.2.1 75)), (1, .int a1), (2, .int a2), (3, .int a3)] [] σ
  have hw : wpX12_allOf a2 σ (fun r_1 σ_2 =>
  wpX12_allOf (a2 - 1) σ_2 (fun r_3 σ_4 =>
  wpX12_all (a2 - 1) a1 σ_4 (fun r_5 σ_6 =>
  wpX12_all a2 a1 σ_6 (fun r_7 σ_8 =>
  ∃ m_37, wbX12_chanceOf_37 post m_37 a3 r_1 r_3 r_5 r_7 0 σ_8)))) := hw
  refine go_aload_n C 0 rfl rfl dX12_chanceOf_0 ?_
  refine go_iload_n C 2 rfl rfl dX12_chanceOf_1 ?_
  refine go_callV (as := [.int a2]) C hR (shX12 G) (ltX12 hN) cwX12_513 (Nat.le_trans (by decide) hd) (by decide) rfl rfl (Nat.le_of_ble_eq_true rfl) dX12_chanceOf_2 (spX12_allOf (Nat.le_refl _) hN hw) (fun v_ τ_ hw => ?_)
  obtain ⟨r_1, rfl, hw⟩ := hw
  obtain ⟨σ_2, rfl⟩ : ∃ z, z = τ_ := ⟨_, rfl⟩
  refine go_istore (lv2 := [(4, .int r_1), (0, .ref (G.2.2.1 75)), (1, .int a1), (2, .int a2), (3, .int a3)]) C (by rw [hnl]; decide) rfl dX12_chanceOf_5 ?_
  refine go_aload_n C 1 rfl rfl dX12_chanceOf_7 ?_
  refine go_iload_n C 3 rfl rfl dX12_chanceOf_8 ?_
  refine go_iconst (v := 1) C rfl dX12_chanceOf_9 ?_
  refine go_isub C dX12_chanceOf_10 ?_
  refine go_callV (as := [.int (a2 - 1)]) C hR (shX12 G) (ltX12 hN) cwX12_513 (Nat.le_trans (by decide) hd) (by decide) rfl rfl (Nat.le_of_ble_eq_true rfl) dX12_chanceOf_11 (spX12_allOf (Nat.le_refl _) hN hw) (fun v_ τ_ hw => ?_)
  obtain ⟨r_3, rfl, hw⟩ := hw
  obtain ⟨σ_4, rfl⟩ : ∃ z, z = τ_ := ⟨_, rfl⟩
  refine go_istore (lv2 := [(5, .int r_3), (4, .int r_1), (0, .ref (G.2.2.1 75)), (1, .int a1), (2, .int a2), (3, .int a3)]) C (by rw [hnl]; decide) rfl dX12_chanceOf_14 ?_
  refine go_aload_n C 2 rfl rfl dX12_chanceOf_16 ?_
  refine go_iload_n C 4 rfl rfl dX12_chanceOf_17 ?_
  refine go_iconst (v := 1) C rfl dX12_chanceOf_18 ?_
  refine go_isub C dX12_chanceOf_19 ?_
  refine go_iload_n C 3 rfl rfl dX12_chanceOf_20 ?_
  refine go_callV (as := [.int (a2 - 1), .int a1]) C hR (shX12 G) (ltX12 hN) cwX12_407 (Nat.le_trans (by decide) hd) (by decide) rfl rfl (Nat.le_of_ble_eq_true rfl) dX12_chanceOf_21 (spX12_all (Nat.le_refl _) hN hw) (fun v_ τ_ hw => ?_)
  obtain ⟨r_5, rfl, hw⟩ := hw
  obtain ⟨σ_6, rfl⟩ : ∃ z, z = τ_ := ⟨_, rfl⟩
  refine go_istore (lv2 := [(6, .int r_5), (5, .int r_3), (4, .int r_1), (0, .ref (G.2.2.1 75)), (1, .int a1), (2, .int a2), (3, .int a3)]) C (by rw [hnl]; decide) rfl dX12_chanceOf_24 ?_
  refine go_aload_n C 3 rfl rfl dX12_chanceOf_26 ?_
  refine go_iload_n C 5 rfl rfl dX12_chanceOf_27 ?_
  refine go_iload_n C 4 rfl rfl dX12_chanceOf_28 ?_
  refine go_callV (as := [.int a2, .int a1]) C hR (shX12 G) (ltX12 hN) cwX12_407 (Nat.le_trans (by decide) hd) (by decide) rfl rfl (Nat.le_of_ble_eq_true rfl) dX12_chanceOf_29 (spX12_all (Nat.le_refl _) hN hw) (fun v_ τ_ hw => ?_)
  obtain ⟨r_7, rfl, hw⟩ := hw
  obtain ⟨σ_8, rfl⟩ : ∃ z, z = τ_ := ⟨_, rfl⟩
  refine go_istore (lv2 := [(7, .int r_7), (6, .int r_5), (5, .int r_3), (4, .int r_1), (0, .ref (G.2.2.1 75)), (1, .int a1), (2, .int a2), (3, .int a3)]) C (by rw [hnl]; decide) rfl dX12_chanceOf_32 ?_
  refine go_iconst (v := 0) C rfl dX12_chanceOf_34 ?_
  refine go_istore (lv2 := [(8, .int 0), (7, .int r_7), (6, .int r_5), (5, .int r_3), (4, .int r_1), (0, .ref (G.2.2.1 75)), (1, .int a1), (2, .int a2), (3, .int a3)]) C (by rw [hnl]; decide) rfl dX12_chanceOf_35 ?_
  refine go_sub [5, 8, 4, 3, 2, 1, 0] rfl ?_
  obtain ⟨n_0, hw⟩ := hw
  exact (gbX12_chanceOf_37 C hr hR hnl hd hN) n_0 _ _ _ _ _ _ _ hw
-- CradleNamesModel.chance(III)I
set_option maxRecDepth 20000 in
set_option maxHeartbeats 4000000 in
theorem gbX12_chance_85 {X : XT} {G : GT} {l : Launch} {d : Nat}  {post : Int32 → St → Prop} (C : Cx X G cX12_chance RX12) (hr : Rt X G (some .int) (fun v τ => ∃ r : Int32, v = some (.int r) ∧ post r τ)) (hR : Rm X l d) (hnl : X.2.2.2.2.2.2.2.2.2.2.1 = 6)  (hd : 10 ≤ d) (hN : 119 ≤ G.2.2.2.2.2)   
    : ∀ (n : Nat) (v2 : Int32) (v3 : Int32) (v4 : Int32) (v5 : Int32) (σ : St), wbX12_chance_85   post n v2 v3 v4 v5 σ → Go X G 85 [(0, .ref (G.2.2.1 75)), (2, .int v2), (3, .int v3), (4, .int v4), (5, .int v5)] [] σ := by
  intro n
  induction n with
  | zero => intro v2 v3 v4 v5 σ hw; exact hw.elim
  | succ n ih =>
    intro v2 v3 v4 v5 σ hw
    have hw : vp_in 1 9680 ∧ (
    (((gI σ 76 (1 : Int32).toNatClampNeg) ≤ v5 →
      post v4 σ) ∧
    (¬ (gI σ 76 (1 : Int32).toNatClampNeg) ≤ v5 →
      wpX12_chanceOf v5 v2 v3 σ (fun r_1 σ_2 =>
      ((r_1 ≤ 0 →
        ∀ v4_3 : Int32, v4_3 = (v4 + 0) →
        ∀ v5_4 : Int32, v5_4 = v5 + 1 →
        wbX12_chance_85 post n v2 v3 v4_3 v5_4 σ_2) ∧
      (¬ r_1 ≤ 0 →
        ∀ v4_5 : Int32, v4_5 = (v4 + 1) →
        ∀ v5_6 : Int32, v5_6 = v5 + 1 →
        wbX12_chance_85 post n v2 v3 v4_5 v5_6 σ_2)))))) := hw
    refine go_iload C 4 rfl dX12_chance_85 ?_
    refine go_aload_n C 0 rfl rfl dX12_chance_87 ?_
    refine go_get (v := .ref (G.2.2.1 76)) C (shX12 G) (ltX12 hN) lkX12_7 rfl dX12_chance_88 ?_
    refine go_iconst (v := 1) C rfl dX12_chance_91 ?_
    refine go_iald C (saX12_a G) (laX12_a hN) hw.1 dX12_chance_92 ?_
    replace hw := hw.2
    refine go_icmp_ge C 123 rfl dX12_chance_93 (fun hc => ?_) (fun hc => ?_)
    · replace hw := hw.1 hc
      refine go_iload C 3 rfl dX12_chance_123 ?_
      exact go_iret C hr ⟨_, rfl, hw⟩ dX12_chance_125
    · replace hw := hw.2 hc
      refine go_iload C 3 rfl dX12_chance_96 ?_
      refine go_aload_n C 0 rfl rfl dX12_chance_98 ?_
      refine go_iload C 4 rfl dX12_chance_99 ?_
      refine go_iload_n C 1 rfl rfl dX12_chance_101 ?_
      refine go_iload_n C 2 rfl rfl dX12_chance_102 ?_
      refine go_callV (as := [.int v5, .int v2, .int v3]) C hR (shX12 G) (ltX12 hN) cwX12_526 (Nat.le_trans (by decide) hd) (by decide) rfl rfl (Nat.le_of_ble_eq_true rfl) dX12_chance_103 (spX12_chanceOf (Nat.le_refl _) hN hw) (fun v_ τ_ hw => ?_)
      obtain ⟨r_1, rfl, hw⟩ := hw
      obtain ⟨σ_2, rfl⟩ : ∃ z, z = τ_ := ⟨_, rfl⟩
      refine go_if_le C 113 rfl dX12_chance_106 (fun hc => ?_) (fun hc => ?_)
      · replace hw := hw.1 hc
        refine go_iconst (v := 0) C rfl dX12_chance_113 ?_
        refine go_iadd C dX12_chance_114 ?_
        refine go_topi (fun v4_3 ev4_3 => ?_)
        replace hw := hw v4_3 ev4_3
        refine go_istore (lv2 := [(4, .int v4_3), (0, .ref (G.2.2.1 75)), (2, .int v2), (3, .int v3), (5, .int v5)]) C (by rw [hnl]; decide) rfl dX12_chance_115 ?_
        obtain ⟨v5_4, ev5_4⟩ : ∃ z : Int32, z = v5 + 1 := ⟨_, rfl⟩
        replace hw := hw v5_4 ev5_4
        refine go_iinc (v := v5_4) (lv2 := [(5, .int v5_4), (4, .int v4_3), (0, .ref (G.2.2.1 75)), (2, .int v2), (3, .int v3)]) C 4 rfl (by rw [ev5_4]; rfl) (by rw [hnl]; decide) rfl dX12_chance_117 ?_
        refine go_goto C 85 rfl dX12_chance_120 ?_
        refine go_sub [2, 3, 4, 1, 0] rfl ?_
        exact ih _ _ _ _ _ hw
      · replace hw := hw.2 hc
        refine go_iconst (v := 1) C rfl dX12_chance_109 ?_
        refine go_goto C 114 rfl dX12_chance_110 ?_
        refine go_iadd C dX12_chance_114 ?_
        refine go_topi (fun v4_5 ev4_5 => ?_)
        replace hw := hw v4_5 ev4_5
        refine go_istore (lv2 := [(4, .int v4_5), (0, .ref (G.2.2.1 75)), (2, .int v2), (3, .int v3), (5, .int v5)]) C (by rw [hnl]; decide) rfl dX12_chance_115 ?_
        obtain ⟨v5_6, ev5_6⟩ : ∃ z : Int32, z = v5 + 1 := ⟨_, rfl⟩
        replace hw := hw v5_6 ev5_6
        refine go_iinc (v := v5_6) (lv2 := [(5, .int v5_6), (4, .int v4_5), (0, .ref (G.2.2.1 75)), (2, .int v2), (3, .int v3)]) C 4 rfl (by rw [ev5_6]; rfl) (by rw [hnl]; decide) rfl dX12_chance_117 ?_
        refine go_goto C 85 rfl dX12_chance_120 ?_
        refine go_sub [2, 3, 4, 1, 0] rfl ?_
        exact ih _ _ _ _ _ hw
set_option maxRecDepth 20000 in
set_option maxHeartbeats 4000000 in
theorem gbX12_chance_13 {X : XT} {G : GT} {l : Launch} {d : Nat}  {post : Int32 → St → Prop} (C : Cx X G cX12_chance RX12) (hr : Rt X G (some .int) (fun v τ => ∃ r : Int32, v = some (.int r) ∧ post r τ)) (hR : Rm X l d) (hnl : X.2.2.2.2.2.2.2.2.2.2.1 = 6)  (hd : 10 ≤ d) (hN : 119 ≤ G.2.2.2.2.2)   
    : ∀ (v1 : Int32) (v2 : Int32) (v3 : Int32) (σ : St), wbX12_chance_13   post v1 v2 v3 σ → Go X G 13 [(0, .ref (G.2.2.1 75)), (1, .int v1), (2, .int v2), (3, .int v3)] [] σ := by
  intro v1 v2 v3 σ hw
  have hw : vp_in 0 9680 ∧ (
  wpX12_in v2 1 ((gI σ 76 (0 : Int32).toNatClampNeg) - 1) σ (fun r_1 σ_2 =>
  ((r_1 = 0 →
    post (-1) σ_2) ∧
  (¬ r_1 = 0 →
    wpX12_in v3 2 1000000 σ_2 (fun r_3 σ_4 =>
    ((¬ r_3 = 0 →
      wpX12_runsAll  σ_4 (fun σ_6 =>
      wpX12_allOf v2 σ_6 (fun r_7 σ_8 =>
      ((r_7 = 0 →
        post (-1) σ_8) ∧
      (¬ r_7 = 0 →
        wpX12_allOf (v2 - 1) σ_8 (fun r_9 σ_10 =>
        ((¬ r_9 = 0 →
          ((v1 = (-1) →
            ∃ m_85, wbX12_chance_85 post m_85 v2 v3 0 0 σ_10) ∧
          (¬ v1 = (-1) →
            wpX12_chanceOf v1 v2 v3 σ_10 (fun r_11 σ_12 =>
            post r_11 σ_12)))) ∧
        (r_9 = 0 →
          post (-1) σ_10)))))))) ∧
    (r_3 = 0 →
      post (-1) σ_4))))))) := hw
  refine go_iload_n C 2 rfl rfl dX12_chance_13 ?_
  refine go_iconst (v := 1) C rfl dX12_chance_14 ?_
  refine go_aload_n C 0 rfl rfl dX12_chance_15 ?_
  refine go_get (v := .ref (G.2.2.1 76)) C (shX12 G) (ltX12 hN) lkX12_7 rfl dX12_chance_16 ?_
  refine go_iconst (v := 0) C rfl dX12_chance_19 ?_
  refine go_iald C (saX12_a G) (laX12_a hN) hw.1 dX12_chance_20 ?_
  replace hw := hw.2
  refine go_iconst (v := 1) C rfl dX12_chance_21 ?_
  refine go_isub C dX12_chance_22 ?_
  refine go_callS (as := [.int v2, .int 1, .int ((gI σ 76 (0 : Int32).toNatClampNeg) - 1)]) C hR cwX12_152 (Nat.le_trans (by decide) hd) (by decide) rfl rfl (Nat.le_of_ble_eq_true rfl) dX12_chance_23 (spX12_in (Nat.le_refl _) hN hw) (fun v_ τ_ hw => ?_)
  obtain ⟨r_1, rfl, hw⟩ := hw
  obtain ⟨σ_2, rfl⟩ : ∃ z, z = τ_ := ⟨_, rfl⟩
  refine go_if_eq C 40 rfl dX12_chance_26 (fun hc => ?_) (fun hc => ?_)
  · replace hw := hw.1 hc
    refine go_iconst (v := (-1)) C rfl dX12_chance_40 ?_
    exact go_iret C hr ⟨_, rfl, hw⟩ dX12_chance_41
  · replace hw := hw.2 hc
    refine go_iload_n C 3 rfl rfl dX12_chance_29 ?_
    refine go_iconst (v := 2) C rfl dX12_chance_30 ?_
    refine go_ldcw (v := 1000000) C kcX12_525 dX12_chance_31 ?_
    refine go_callS (as := [.int v3, .int 2, .int 1000000]) C hR cwX12_152 (Nat.le_trans (by decide) hd) (by decide) rfl rfl (Nat.le_of_ble_eq_true rfl) dX12_chance_34 (spX12_in (Nat.le_refl _) hN hw) (fun v_ τ_ hw => ?_)
    obtain ⟨r_3, rfl, hw⟩ := hw
    obtain ⟨σ_4, rfl⟩ : ∃ z, z = τ_ := ⟨_, rfl⟩
    refine go_if_ne C 42 rfl dX12_chance_37 (fun hc => ?_) (fun hc => ?_)
    · replace hw := hw.1 hc
      refine go_aload_n C 0 rfl rfl dX12_chance_42 ?_
      refine go_callV (as := []) C hR (shX12 G) (ltX12 hN) cwX12_464 (Nat.le_trans (by decide) hd) (by decide) rfl rfl (Nat.le_of_ble_eq_true rfl) dX12_chance_43 (spX12_runsAll (Nat.le_refl _) hN hw) (fun v_ τ_ hw => ?_)
      obtain ⟨rfl, hw⟩ := hw
      obtain ⟨σ_6, rfl⟩ : ∃ z, z = τ_ := ⟨_, rfl⟩
      refine go_aload_n C 0 rfl rfl dX12_chance_46 ?_
      refine go_iload_n C 2 rfl rfl dX12_chance_47 ?_
      refine go_callV (as := [.int v2]) C hR (shX12 G) (ltX12 hN) cwX12_513 (Nat.le_trans (by decide) hd) (by decide) rfl rfl (Nat.le_of_ble_eq_true rfl) dX12_chance_48 (spX12_allOf (Nat.le_refl _) hN hw) (fun v_ τ_ hw => ?_)
      obtain ⟨r_7, rfl, hw⟩ := hw
      obtain ⟨σ_8, rfl⟩ : ∃ z, z = τ_ := ⟨_, rfl⟩
      refine go_if_eq C 64 rfl dX12_chance_51 (fun hc => ?_) (fun hc => ?_)
      · replace hw := hw.1 hc
        refine go_iconst (v := (-1)) C rfl dX12_chance_64 ?_
        exact go_iret C hr ⟨_, rfl, hw⟩ dX12_chance_65
      · replace hw := hw.2 hc
        refine go_aload_n C 0 rfl rfl dX12_chance_54 ?_
        refine go_iload_n C 2 rfl rfl dX12_chance_55 ?_
        refine go_iconst (v := 1) C rfl dX12_chance_56 ?_
        refine go_isub C dX12_chance_57 ?_
        refine go_callV (as := [.int (v2 - 1)]) C hR (shX12 G) (ltX12 hN) cwX12_513 (Nat.le_trans (by decide) hd) (by decide) rfl rfl (Nat.le_of_ble_eq_true rfl) dX12_chance_58 (spX12_allOf (Nat.le_refl _) hN hw) (fun v_ τ_ hw => ?_)
        obtain ⟨r_9, rfl, hw⟩ := hw
        obtain ⟨σ_10, rfl⟩ : ∃ z, z = τ_ := ⟨_, rfl⟩
        refine go_if_ne C 66 rfl dX12_chance_61 (fun hc => ?_) (fun hc => ?_)
        · replace hw := hw.1 hc
          refine go_iload_n C 1 rfl rfl dX12_chance_66 ?_
          refine go_iconst (v := (-1)) C rfl dX12_chance_67 ?_
          refine go_icmp_eq C 79 rfl dX12_chance_68 (fun hc => ?_) (fun hc => ?_)
          · replace hw := hw.1 hc
            refine go_iconst (v := 0) C rfl dX12_chance_79 ?_
            refine go_istore (lv2 := [(4, .int 0), (0, .ref (G.2.2.1 75)), (1, .int v1), (2, .int v2), (3, .int v3)]) C (by rw [hnl]; decide) rfl dX12_chance_80 ?_
            refine go_iconst (v := 0) C rfl dX12_chance_82 ?_
            refine go_istore (lv2 := [(5, .int 0), (4, .int 0), (0, .ref (G.2.2.1 75)), (1, .int v1), (2, .int v2), (3, .int v3)]) C (by rw [hnl]; decide) rfl dX12_chance_83 ?_
            refine go_sub [2, 4, 5, 1, 0] rfl ?_
            obtain ⟨n_0, hw⟩ := hw
            exact (gbX12_chance_85 C hr hR hnl hd hN) n_0 _ _ _ _ _ hw
          · replace hw := hw.2 hc
            refine go_aload_n C 0 rfl rfl dX12_chance_71 ?_
            refine go_iload_n C 1 rfl rfl dX12_chance_72 ?_
            refine go_iload_n C 2 rfl rfl dX12_chance_73 ?_
            refine go_iload_n C 3 rfl rfl dX12_chance_74 ?_
            refine go_callV (as := [.int v1, .int v2, .int v3]) C hR (shX12 G) (ltX12 hN) cwX12_526 (Nat.le_trans (by decide) hd) (by decide) rfl rfl (Nat.le_of_ble_eq_true rfl) dX12_chance_75 (spX12_chanceOf (Nat.le_refl _) hN hw) (fun v_ τ_ hw => ?_)
            obtain ⟨r_11, rfl, hw⟩ := hw
            obtain ⟨σ_12, rfl⟩ : ∃ z, z = τ_ := ⟨_, rfl⟩
            exact go_iret C hr ⟨_, rfl, hw⟩ dX12_chance_78
        · replace hw := hw.2 hc
          refine go_iconst (v := (-1)) C rfl dX12_chance_64 ?_
          exact go_iret C hr ⟨_, rfl, hw⟩ dX12_chance_65
    · replace hw := hw.2 hc
      refine go_iconst (v := (-1)) C rfl dX12_chance_40 ?_
      exact go_iret C hr ⟨_, rfl, hw⟩ dX12_chance_41
set_option maxRecDepth 20000 in
set_option maxHeartbeats 4000000 in
theorem spX12_chance {l : Launch} {G : GT} {d : Nat}  (hd : 10 ≤ d)  (hN : 119 ≤ G.2.2.2.2.2)  {a1 : Int32} {a2 : Int32} {a3 : Int32} {σ : St} {post : Int32 → St → Prop} (hw : wpX12_chance  a1 a2 a3 σ post) : Sp l G d yX12_chance cX12_chance 6 (some .int) [.ref (G.2.2.1 75), .int a1, .int a2, .int a3] σ (fun v τ => ∃ r : Int32, v = some (.int r) ∧ post r τ) := by
  refine Sp.of (by decide) (Nat.le_of_ble_eq_true rfl) fun X C hr hR hnl => ?_
  show Go X G 0 [(0, .ref (G.2.2.1 75)), (1, .int a1), (2, .int a2), (3, .int a3)] [] σ
  have hw : ((a1 = (-1) →
    wbX12_chance_13 post a1 a2 a3 σ) ∧
  (¬ a1 = (-1) →
    wpX12_isName a1 σ (fun r_1 σ_2 =>
    ((r_1 = 0 →
      post (-1) σ_2) ∧
    (¬ r_1 = 0 →
      wbX12_chance_13 post a1 a2 a3 σ_2))))) := hw
  refine go_iload_n C 1 rfl rfl dX12_chance_0 ?_
  refine go_iconst (v := (-1)) C rfl dX12_chance_1 ?_
  refine go_icmp_eq C 13 rfl dX12_chance_2 (fun hc => ?_) (fun hc => ?_)
  · replace hw := hw.1 hc
    exact (gbX12_chance_13 C hr hR hnl hd hN) _ _ _ _ hw
  · replace hw := hw.2 hc
    refine go_aload_n C 0 rfl rfl dX12_chance_5 ?_
    refine go_iload_n C 1 rfl rfl dX12_chance_6 ?_
    refine go_callV (as := [.int a1]) C hR (shX12 G) (ltX12 hN) cwX12_182 (Nat.le_trans (by decide) hd) (by decide) rfl rfl (Nat.le_of_ble_eq_true rfl) dX12_chance_7 (spX12_isName (Nat.le_refl _) hN hw) (fun v_ τ_ hw => ?_)
    obtain ⟨r_1, rfl, hw⟩ := hw
    obtain ⟨σ_2, rfl⟩ : ∃ z, z = τ_ := ⟨_, rfl⟩
    refine go_if_eq C 40 rfl dX12_chance_10 (fun hc => ?_) (fun hc => ?_)
    · replace hw := hw.1 hc
      refine go_iconst (v := (-1)) C rfl dX12_chance_40 ?_
      exact go_iret C hr ⟨_, rfl, hw⟩ dX12_chance_41
    · replace hw := hw.2 hc
      exact (gbX12_chance_13 C hr hR hnl hd hN) _ _ _ _ hw
-- CradleNamesModel.aheadOf(II)I
set_option maxRecDepth 20000 in
set_option maxHeartbeats 4000000 in
theorem gbX12_aheadOf_5 {X : XT} {G : GT} {l : Launch} {d : Nat}  {post : Int32 → St → Prop} (C : Cx X G cX12_aheadOf RX12) (hr : Rt X G (some .int) (fun v τ => ∃ r : Int32, v = some (.int r) ∧ post r τ)) (hR : Rm X l d) (hnl : X.2.2.2.2.2.2.2.2.2.2.1 = 5)  (hd : 2 ≤ d) (hN : 119 ≤ G.2.2.2.2.2)   
    : ∀ (n : Nat) (v1 : Int32) (v2 : Int32) (v3 : Int32) (v4 : Int32) (σ : St), wbX12_aheadOf_5   post n v1 v2 v3 v4 σ → Go X G 5 [(0, .ref (G.2.2.1 75)), (1, .int v1), (2, .int v2), (3, .int v3), (4, .int v4)] [] σ := by
  intro n
  induction n with
  | zero => intro v1 v2 v3 v4 σ hw; exact hw.elim
  | succ n ih =>
    intro v1 v2 v3 v4 σ hw
    have hw : vp_in 1 9680 ∧ (
    (((gI σ 76 (1 : Int32).toNatClampNeg) ≤ v4 →
      post v3 σ) ∧
    (¬ (gI σ 76 (1 : Int32).toNatClampNeg) ≤ v4 →
      wpX12_all v1 v4 σ (fun r_1 σ_2 =>
      wpX12_all v1 v2 σ_2 (fun r_3 σ_4 =>
      ((r_3 < r_1 →
        ∀ v3_5 : Int32, v3_5 = (v3 + 1) →
        ∀ v4_6 : Int32, v4_6 = v4 + 1 →
        wbX12_aheadOf_5 post n v1 v2 v3_5 v4_6 σ_4) ∧
      (¬ r_3 < r_1 →
        wpX12_all v1 v4 σ_4 (fun r_7 σ_8 =>
        wpX12_all v1 v2 σ_8 (fun r_9 σ_10 =>
        ((¬ r_7 = r_9 →
          ∀ v3_11 : Int32, v3_11 = (v3 + 0) →
          ∀ v4_12 : Int32, v4_12 = v4 + 1 →
          wbX12_aheadOf_5 post n v1 v2 v3_11 v4_12 σ_10) ∧
        (r_7 = r_9 →
          ((v2 ≤ v4 →
            ∀ v3_13 : Int32, v3_13 = (v3 + 0) →
            ∀ v4_14 : Int32, v4_14 = v4 + 1 →
            wbX12_aheadOf_5 post n v1 v2 v3_13 v4_14 σ_10) ∧
          (¬ v2 ≤ v4 →
            ∀ v3_15 : Int32, v3_15 = (v3 + 1) →
            ∀ v4_16 : Int32, v4_16 = v4 + 1 →
            wbX12_aheadOf_5 post n v1 v2 v3_15 v4_16 σ_10))))))))))))) := hw
    refine go_iload C 4 rfl dX12_aheadOf_5 ?_
    refine go_aload_n C 0 rfl rfl dX12_aheadOf_7 ?_
    refine go_get (v := .ref (G.2.2.1 76)) C (shX12 G) (ltX12 hN) lkX12_7 rfl dX12_aheadOf_8 ?_
    refine go_iconst (v := 1) C rfl dX12_aheadOf_11 ?_
    refine go_iald C (saX12_a G) (laX12_a hN) hw.1 dX12_aheadOf_12 ?_
    replace hw := hw.2
    refine go_icmp_ge C 68 rfl dX12_aheadOf_13 (fun hc => ?_) (fun hc => ?_)
    · replace hw := hw.1 hc
      refine go_iload_n C 3 rfl rfl dX12_aheadOf_68 ?_
      exact go_iret C hr ⟨_, rfl, hw⟩ dX12_aheadOf_69
    · replace hw := hw.2 hc
      refine go_iload_n C 3 rfl rfl dX12_aheadOf_16 ?_
      refine go_aload_n C 0 rfl rfl dX12_aheadOf_17 ?_
      refine go_iload_n C 1 rfl rfl dX12_aheadOf_18 ?_
      refine go_iload C 4 rfl dX12_aheadOf_19 ?_
      refine go_callV (as := [.int v1, .int v4]) C hR (shX12 G) (ltX12 hN) cwX12_407 (Nat.le_trans (by decide) hd) (by decide) rfl rfl (Nat.le_of_ble_eq_true rfl) dX12_aheadOf_21 (spX12_all (Nat.le_refl _) hN hw) (fun v_ τ_ hw => ?_)
      obtain ⟨r_1, rfl, hw⟩ := hw
      obtain ⟨σ_2, rfl⟩ : ∃ z, z = τ_ := ⟨_, rfl⟩
      refine go_aload_n C 0 rfl rfl dX12_aheadOf_24 ?_
      refine go_iload_n C 1 rfl rfl dX12_aheadOf_25 ?_
      refine go_iload_n C 2 rfl rfl dX12_aheadOf_26 ?_
      refine go_callV (as := [.int v1, .int v2]) C hR (shX12 G) (ltX12 hN) cwX12_407 (Nat.le_trans (by decide) hd) (by decide) rfl rfl (Nat.le_of_ble_eq_true rfl) dX12_aheadOf_27 (spX12_all (Nat.le_refl _) hN hw) (fun v_ τ_ hw => ?_)
      obtain ⟨r_3, rfl, hw⟩ := hw
      obtain ⟨σ_4, rfl⟩ : ∃ z, z = τ_ := ⟨_, rfl⟩
      refine go_icmp_gt C 55 rfl dX12_aheadOf_30 (fun hc => ?_) (fun hc => ?_)
      · replace hw := hw.1 hc
        refine go_iconst (v := 1) C rfl dX12_aheadOf_55 ?_
        refine go_goto C 60 rfl dX12_aheadOf_56 ?_
        refine go_iadd C dX12_aheadOf_60 ?_
        refine go_topi (fun v3_5 ev3_5 => ?_)
        replace hw := hw v3_5 ev3_5
        refine go_istore_n (lv2 := [(3, .int v3_5), (0, .ref (G.2.2.1 75)), (1, .int v1), (2, .int v2), (4, .int v4)]) C rfl (by rw [hnl]; decide) rfl dX12_aheadOf_61 ?_
        obtain ⟨v4_6, ev4_6⟩ : ∃ z : Int32, z = v4 + 1 := ⟨_, rfl⟩
        replace hw := hw v4_6 ev4_6
        refine go_iinc (v := v4_6) (lv2 := [(4, .int v4_6), (3, .int v3_5), (0, .ref (G.2.2.1 75)), (1, .int v1), (2, .int v2)]) C 4 rfl (by rw [ev4_6]; rfl) (by rw [hnl]; decide) rfl dX12_aheadOf_62 ?_
        refine go_goto C 5 rfl dX12_aheadOf_65 ?_
        refine go_sub [2, 3, 4, 1, 0] rfl ?_
        exact ih _ _ _ _ _ hw
      · replace hw := hw.2 hc
        refine go_aload_n C 0 rfl rfl dX12_aheadOf_33 ?_
        refine go_iload_n C 1 rfl rfl dX12_aheadOf_34 ?_
        refine go_iload C 4 rfl dX12_aheadOf_35 ?_
        refine go_callV (as := [.int v1, .int v4]) C hR (shX12 G) (ltX12 hN) cwX12_407 (Nat.le_trans (by decide) hd) (by decide) rfl rfl (Nat.le_of_ble_eq_true rfl) dX12_aheadOf_37 (spX12_all (Nat.le_refl _) hN hw) (fun v_ τ_ hw => ?_)
        obtain ⟨r_7, rfl, hw⟩ := hw
        obtain ⟨σ_8, rfl⟩ : ∃ z, z = τ_ := ⟨_, rfl⟩
        refine go_aload_n C 0 rfl rfl dX12_aheadOf_40 ?_
        refine go_iload_n C 1 rfl rfl dX12_aheadOf_41 ?_
        refine go_iload_n C 2 rfl rfl dX12_aheadOf_42 ?_
        refine go_callV (as := [.int v1, .int v2]) C hR (shX12 G) (ltX12 hN) cwX12_407 (Nat.le_trans (by decide) hd) (by decide) rfl rfl (Nat.le_of_ble_eq_true rfl) dX12_aheadOf_43 (spX12_all (Nat.le_refl _) hN hw) (fun v_ τ_ hw => ?_)
        obtain ⟨r_9, rfl, hw⟩ := hw
        obtain ⟨σ_10, rfl⟩ : ∃ z, z = τ_ := ⟨_, rfl⟩
        refine go_icmp_ne C 59 rfl dX12_aheadOf_46 (fun hc => ?_) (fun hc => ?_)
        · replace hw := hw.1 hc
          refine go_iconst (v := 0) C rfl dX12_aheadOf_59 ?_
          refine go_iadd C dX12_aheadOf_60 ?_
          refine go_topi (fun v3_11 ev3_11 => ?_)
          replace hw := hw v3_11 ev3_11
          refine go_istore_n (lv2 := [(3, .int v3_11), (0, .ref (G.2.2.1 75)), (1, .int v1), (2, .int v2), (4, .int v4)]) C rfl (by rw [hnl]; decide) rfl dX12_aheadOf_61 ?_
          obtain ⟨v4_12, ev4_12⟩ : ∃ z : Int32, z = v4 + 1 := ⟨_, rfl⟩
          replace hw := hw v4_12 ev4_12
          refine go_iinc (v := v4_12) (lv2 := [(4, .int v4_12), (3, .int v3_11), (0, .ref (G.2.2.1 75)), (1, .int v1), (2, .int v2)]) C 4 rfl (by rw [ev4_12]; rfl) (by rw [hnl]; decide) rfl dX12_aheadOf_62 ?_
          refine go_goto C 5 rfl dX12_aheadOf_65 ?_
          refine go_sub [2, 3, 4, 1, 0] rfl ?_
          exact ih _ _ _ _ _ hw
        · replace hw := hw.2 hc
          refine go_iload C 4 rfl dX12_aheadOf_49 ?_
          refine go_iload_n C 2 rfl rfl dX12_aheadOf_51 ?_
          refine go_icmp_ge C 59 rfl dX12_aheadOf_52 (fun hc => ?_) (fun hc => ?_)
          · replace hw := hw.1 hc
            refine go_iconst (v := 0) C rfl dX12_aheadOf_59 ?_
            refine go_iadd C dX12_aheadOf_60 ?_
            refine go_topi (fun v3_13 ev3_13 => ?_)
            replace hw := hw v3_13 ev3_13
            refine go_istore_n (lv2 := [(3, .int v3_13), (0, .ref (G.2.2.1 75)), (1, .int v1), (2, .int v2), (4, .int v4)]) C rfl (by rw [hnl]; decide) rfl dX12_aheadOf_61 ?_
            obtain ⟨v4_14, ev4_14⟩ : ∃ z : Int32, z = v4 + 1 := ⟨_, rfl⟩
            replace hw := hw v4_14 ev4_14
            refine go_iinc (v := v4_14) (lv2 := [(4, .int v4_14), (3, .int v3_13), (0, .ref (G.2.2.1 75)), (1, .int v1), (2, .int v2)]) C 4 rfl (by rw [ev4_14]; rfl) (by rw [hnl]; decide) rfl dX12_aheadOf_62 ?_
            refine go_goto C 5 rfl dX12_aheadOf_65 ?_
            refine go_sub [2, 3, 4, 1, 0] rfl ?_
            exact ih _ _ _ _ _ hw
          · replace hw := hw.2 hc
            refine go_iconst (v := 1) C rfl dX12_aheadOf_55 ?_
            refine go_goto C 60 rfl dX12_aheadOf_56 ?_
            refine go_iadd C dX12_aheadOf_60 ?_
            refine go_topi (fun v3_15 ev3_15 => ?_)
            replace hw := hw v3_15 ev3_15
            refine go_istore_n (lv2 := [(3, .int v3_15), (0, .ref (G.2.2.1 75)), (1, .int v1), (2, .int v2), (4, .int v4)]) C rfl (by rw [hnl]; decide) rfl dX12_aheadOf_61 ?_
            obtain ⟨v4_16, ev4_16⟩ : ∃ z : Int32, z = v4 + 1 := ⟨_, rfl⟩
            replace hw := hw v4_16 ev4_16
            refine go_iinc (v := v4_16) (lv2 := [(4, .int v4_16), (3, .int v3_15), (0, .ref (G.2.2.1 75)), (1, .int v1), (2, .int v2)]) C 4 rfl (by rw [ev4_16]; rfl) (by rw [hnl]; decide) rfl dX12_aheadOf_62 ?_
            refine go_goto C 5 rfl dX12_aheadOf_65 ?_
            refine go_sub [2, 3, 4, 1, 0] rfl ?_
            exact ih _ _ _ _ _ hw
set_option maxRecDepth 20000 in
set_option maxHeartbeats 4000000 in
theorem spX12_aheadOf {l : Launch} {G : GT} {d : Nat}  (hd : 2 ≤ d)  (hN : 119 ≤ G.2.2.2.2.2)  {a1 : Int32} {a2 : Int32} {σ : St} {post : Int32 → St → Prop} (hw : wpX12_aheadOf  a1 a2 σ post) : Sp l G d yX12_aheadOf cX12_aheadOf 5 (some .int) [.ref (G.2.2.1 75), .int a1, .int a2] σ (fun v τ => ∃ r : Int32, v = some (.int r) ∧ post r τ) := by
  refine Sp.of (by decide) (Nat.le_of_ble_eq_true rfl) fun X C hr hR hnl => ?_
  show Go X G 0 [(0, .ref (G.2.2.1 75)), (1, .int a1), (2, .int a2)] [] σ
  have hw : ∃ m_5, wbX12_aheadOf_5 post m_5 a1 a2 0 0 σ := hw
  refine go_iconst (v := 0) C rfl dX12_aheadOf_0 ?_
  refine go_istore_n (lv2 := [(3, .int 0), (0, .ref (G.2.2.1 75)), (1, .int a1), (2, .int a2)]) C rfl (by rw [hnl]; decide) rfl dX12_aheadOf_1 ?_
  refine go_iconst (v := 0) C rfl dX12_aheadOf_2 ?_
  refine go_istore (lv2 := [(4, .int 0), (3, .int 0), (0, .ref (G.2.2.1 75)), (1, .int a1), (2, .int a2)]) C (by rw [hnl]; decide) rfl dX12_aheadOf_3 ?_
  refine go_sub [2, 3, 4, 1, 0] rfl ?_
  obtain ⟨n_0, hw⟩ := hw
  exact (gbX12_aheadOf_5 C hr hR hnl hd hN) n_0 _ _ _ _ _ hw
-- CradleNamesModel.turnover(II)I
set_option maxRecDepth 20000 in
set_option maxHeartbeats 4000000 in
theorem gbX12_turnover_98 {X : XT} {G : GT} {l : Launch} {d : Nat}  {post : Int32 → St → Prop} (C : Cx X G cX12_turnover RX12) (hr : Rt X G (some .int) (fun v τ => ∃ r : Int32, v = some (.int r) ∧ post r τ)) (hR : Rm X l d) (hnl : X.2.2.2.2.2.2.2.2.2.2.1 = 7)  (hd : 10 ≤ d) (hN : 119 ≤ G.2.2.2.2.2)  {K29 : Int32 → Int32 → Int32 → Int32 → St → Prop} (hK29 : ∀ (v1 : Int32) (v2 : Int32) (v3 : Int32) (v4 : Int32) (σ : St), K29 v1 v2 v3 v4 σ → Go X G 29 [(0, .ref (G.2.2.1 75)), (1, .int v1), (2, .int v2), (3, .int v3), (4, .int v4)] [] σ)
    : ∀ (v1 : Int32) (v2 : Int32) (v3 : Int32) (v4 : Int32) (v5 : Int32) (s0 : Int32) (σ : St), wbX12_turnover_98  K29 post v1 v2 v3 v4 v5 s0 σ → Go X G 98 [(0, .ref (G.2.2.1 75)), (1, .int v1), (2, .int v2), (3, .int v3), (4, .int v4), (5, .int v5)] [.int s0] σ := by
  intro v1 v2 v3 v4 v5 s0 σ hw
  have hw : ((v5 = 0 →
    ∀ v3_1 : Int32, v3_1 = (v3 + 0) →
    ∀ v4_2 : Int32, v4_2 = v4 + 1 →
    K29 v1 v2 v3_1 v4_2 σ) ∧
  (¬ v5 = 0 →
    ((¬ s0 = 0 →
      ∀ v3_3 : Int32, v3_3 = (v3 + 0) →
      ∀ v4_4 : Int32, v4_4 = v4 + 1 →
      K29 v1 v2 v3_3 v4_4 σ) ∧
    (s0 = 0 →
      ∀ v3_5 : Int32, v3_5 = (v3 + 1) →
      ∀ v4_6 : Int32, v4_6 = v4 + 1 →
      K29 v1 v2 v3_5 v4_6 σ)))) := hw
  refine go_istore (lv2 := [(6, .int s0), (0, .ref (G.2.2.1 75)), (1, .int v1), (2, .int v2), (3, .int v3), (4, .int v4), (5, .int v5)]) C (by rw [hnl]; decide) rfl dX12_turnover_98 ?_
  refine go_iload_n C 4 rfl rfl dX12_turnover_100 ?_
  refine go_iload C 6 rfl dX12_turnover_101 ?_
  refine go_if_eq C 115 rfl dX12_turnover_103 (fun hc => ?_) (fun hc => ?_)
  · replace hw := hw.1 hc
    refine go_iconst (v := 0) C rfl dX12_turnover_115 ?_
    refine go_iadd C dX12_turnover_116 ?_
    refine go_topi (fun v3_1 ev3_1 => ?_)
    replace hw := hw v3_1 ev3_1
    refine go_istore_n (lv2 := [(3, .int v3_1), (6, .int s0), (0, .ref (G.2.2.1 75)), (1, .int v1), (2, .int v2), (4, .int v4), (5, .int v5)]) C rfl (by rw [hnl]; decide) rfl dX12_turnover_117 ?_
    obtain ⟨v4_2, ev4_2⟩ : ∃ z : Int32, z = v4 + 1 := ⟨_, rfl⟩
    replace hw := hw v4_2 ev4_2
    refine go_iinc (v := v4_2) (lv2 := [(4, .int v4_2), (3, .int v3_1), (6, .int s0), (0, .ref (G.2.2.1 75)), (1, .int v1), (2, .int v2), (5, .int v5)]) C 5 rfl (by rw [ev4_2]; rfl) (by rw [hnl]; decide) rfl dX12_turnover_118 ?_
    refine go_goto C 29 rfl dX12_turnover_121 ?_
    refine go_sub [3, 4, 5, 1, 0] rfl ?_
    exact hK29 _ _ _ _ _ hw
  · replace hw := hw.2 hc
    refine go_iload C 0 rfl dX12_turnover_106 ?_
    refine go_if_ne C 115 rfl dX12_turnover_108 (fun hc => ?_) (fun hc => ?_)
    · replace hw := hw.1 hc
      refine go_iconst (v := 0) C rfl dX12_turnover_115 ?_
      refine go_iadd C dX12_turnover_116 ?_
      refine go_topi (fun v3_3 ev3_3 => ?_)
      replace hw := hw v3_3 ev3_3
      refine go_istore_n (lv2 := [(3, .int v3_3), (6, .int s0), (0, .ref (G.2.2.1 75)), (1, .int v1), (2, .int v2), (4, .int v4), (5, .int v5)]) C rfl (by rw [hnl]; decide) rfl dX12_turnover_117 ?_
      obtain ⟨v4_4, ev4_4⟩ : ∃ z : Int32, z = v4 + 1 := ⟨_, rfl⟩
      replace hw := hw v4_4 ev4_4
      refine go_iinc (v := v4_4) (lv2 := [(4, .int v4_4), (3, .int v3_3), (6, .int s0), (0, .ref (G.2.2.1 75)), (1, .int v1), (2, .int v2), (5, .int v5)]) C 5 rfl (by rw [ev4_4]; rfl) (by rw [hnl]; decide) rfl dX12_turnover_118 ?_
      refine go_goto C 29 rfl dX12_turnover_121 ?_
      refine go_sub [3, 4, 5, 1, 0] rfl ?_
      exact hK29 _ _ _ _ _ hw
    · replace hw := hw.2 hc
      refine go_iconst (v := 1) C rfl dX12_turnover_111 ?_
      refine go_goto C 116 rfl dX12_turnover_112 ?_
      refine go_iadd C dX12_turnover_116 ?_
      refine go_topi (fun v3_5 ev3_5 => ?_)
      replace hw := hw v3_5 ev3_5
      refine go_istore_n (lv2 := [(3, .int v3_5), (6, .int s0), (0, .ref (G.2.2.1 75)), (1, .int v1), (2, .int v2), (4, .int v4), (5, .int v5)]) C rfl (by rw [hnl]; decide) rfl dX12_turnover_117 ?_
      obtain ⟨v4_6, ev4_6⟩ : ∃ z : Int32, z = v4 + 1 := ⟨_, rfl⟩
      replace hw := hw v4_6 ev4_6
      refine go_iinc (v := v4_6) (lv2 := [(4, .int v4_6), (3, .int v3_5), (6, .int s0), (0, .ref (G.2.2.1 75)), (1, .int v1), (2, .int v2), (5, .int v5)]) C 5 rfl (by rw [ev4_6]; rfl) (by rw [hnl]; decide) rfl dX12_turnover_118 ?_
      refine go_goto C 29 rfl dX12_turnover_121 ?_
      refine go_sub [3, 4, 5, 1, 0] rfl ?_
      exact hK29 _ _ _ _ _ hw
set_option maxRecDepth 20000 in
set_option maxHeartbeats 4000000 in
theorem gbX12_turnover_66 {X : XT} {G : GT} {l : Launch} {d : Nat}  {post : Int32 → St → Prop} (C : Cx X G cX12_turnover RX12) (hr : Rt X G (some .int) (fun v τ => ∃ r : Int32, v = some (.int r) ∧ post r τ)) (hR : Rm X l d) (hnl : X.2.2.2.2.2.2.2.2.2.2.1 = 7)  (hd : 10 ≤ d) (hN : 119 ≤ G.2.2.2.2.2)  {K29 : Int32 → Int32 → Int32 → Int32 → St → Prop} (hK29 : ∀ (v1 : Int32) (v2 : Int32) (v3 : Int32) (v4 : Int32) (σ : St), K29 v1 v2 v3 v4 σ → Go X G 29 [(0, .ref (G.2.2.1 75)), (1, .int v1), (2, .int v2), (3, .int v3), (4, .int v4)] [] σ)
    : ∀ (v1 : Int32) (v2 : Int32) (v3 : Int32) (v4 : Int32) (s0 : Int32) (σ : St), wbX12_turnover_66  K29 post v1 v2 v3 v4 s0 σ → Go X G 66 [(0, .ref (G.2.2.1 75)), (1, .int v1), (2, .int v2), (3, .int v3), (4, .int v4)] [.int s0] σ := by
  intro v1 v2 v3 v4 s0 σ hw
  have hw : wpX12_all (v1 - 1) v4 σ (fun r_1 σ_2 =>
  ((r_1 ≤ 0 →
    wbX12_turnover_98 K29 post v1 v2 v3 v4 s0 0 σ_2) ∧
  (¬ r_1 ≤ 0 →
    wpX12_aheadOf (v1 - 1) v4 σ_2 (fun r_3 σ_4 =>
    ((v2 ≤ r_3 →
      wbX12_turnover_98 K29 post v1 v2 v3 v4 s0 0 σ_4) ∧
    (¬ v2 ≤ r_3 →
      wbX12_turnover_98 K29 post v1 v2 v3 v4 s0 1 σ_4)))))) := hw
  refine go_istore (lv2 := [(5, .int s0), (0, .ref (G.2.2.1 75)), (1, .int v1), (2, .int v2), (3, .int v3), (4, .int v4)]) C (by rw [hnl]; decide) rfl dX12_turnover_66 ?_
  refine go_aload_n C 1 rfl rfl dX12_turnover_68 ?_
  refine go_iload_n C 2 rfl rfl dX12_turnover_69 ?_
  refine go_iconst (v := 1) C rfl dX12_turnover_70 ?_
  refine go_isub C dX12_turnover_71 ?_
  refine go_iload C 5 rfl dX12_turnover_72 ?_
  refine go_callV (as := [.int (v1 - 1), .int v4]) C hR (shX12 G) (ltX12 hN) cwX12_407 (Nat.le_trans (by decide) hd) (by decide) rfl rfl (Nat.le_of_ble_eq_true rfl) dX12_turnover_74 (spX12_all (Nat.le_refl _) hN hw) (fun v_ τ_ hw => ?_)
  obtain ⟨r_1, rfl, hw⟩ := hw
  obtain ⟨σ_2, rfl⟩ : ∃ z, z = τ_ := ⟨_, rfl⟩
  refine go_if_le C 97 rfl dX12_turnover_77 (fun hc => ?_) (fun hc => ?_)
  · replace hw := hw.1 hc
    refine go_iconst (v := 0) C rfl dX12_turnover_97 ?_
    refine go_sub [1, 2, 3, 4, 5, 0] rfl ?_
    exact (gbX12_turnover_98 C hr hR hnl hd hN hK29) _ _ _ _ _ _ _ hw
  · replace hw := hw.2 hc
    refine go_aload_n C 1 rfl rfl dX12_turnover_80 ?_
    refine go_iload_n C 2 rfl rfl dX12_turnover_81 ?_
    refine go_iconst (v := 1) C rfl dX12_turnover_82 ?_
    refine go_isub C dX12_turnover_83 ?_
    refine go_iload C 5 rfl dX12_turnover_84 ?_
    refine go_callV (as := [.int (v1 - 1), .int v4]) C hR (shX12 G) (ltX12 hN) cwX12_529 (Nat.le_trans (by decide) hd) (by decide) rfl rfl (Nat.le_of_ble_eq_true rfl) dX12_turnover_86 (spX12_aheadOf (Nat.le_refl _) hN hw) (fun v_ τ_ hw => ?_)
    obtain ⟨r_3, rfl, hw⟩ := hw
    obtain ⟨σ_4, rfl⟩ : ∃ z, z = τ_ := ⟨_, rfl⟩
    refine go_iload_n C 3 rfl rfl dX12_turnover_89 ?_
    refine go_icmp_ge C 97 rfl dX12_turnover_90 (fun hc => ?_) (fun hc => ?_)
    · replace hw := hw.1 hc
      refine go_iconst (v := 0) C rfl dX12_turnover_97 ?_
      refine go_sub [1, 2, 3, 4, 5, 0] rfl ?_
      exact (gbX12_turnover_98 C hr hR hnl hd hN hK29) _ _ _ _ _ _ _ hw
    · replace hw := hw.2 hc
      refine go_iconst (v := 1) C rfl dX12_turnover_93 ?_
      refine go_goto C 98 rfl dX12_turnover_94 ?_
      refine go_sub [1, 2, 3, 4, 5, 0] rfl ?_
      exact (gbX12_turnover_98 C hr hR hnl hd hN hK29) _ _ _ _ _ _ _ hw
set_option maxRecDepth 20000 in
set_option maxHeartbeats 4000000 in
theorem gbX12_turnover_29 {X : XT} {G : GT} {l : Launch} {d : Nat}  {post : Int32 → St → Prop} (C : Cx X G cX12_turnover RX12) (hr : Rt X G (some .int) (fun v τ => ∃ r : Int32, v = some (.int r) ∧ post r τ)) (hR : Rm X l d) (hnl : X.2.2.2.2.2.2.2.2.2.2.1 = 7)  (hd : 10 ≤ d) (hN : 119 ≤ G.2.2.2.2.2)   
    : ∀ (n : Nat) (v1 : Int32) (v2 : Int32) (v3 : Int32) (v4 : Int32) (σ : St), wbX12_turnover_29   post n v1 v2 v3 v4 σ → Go X G 29 [(0, .ref (G.2.2.1 75)), (1, .int v1), (2, .int v2), (3, .int v3), (4, .int v4)] [] σ := by
  intro n
  induction n with
  | zero => intro v1 v2 v3 v4 σ hw; exact hw.elim
  | succ n ih =>
    intro v1 v2 v3 v4 σ hw
    have hw : vp_in 1 9680 ∧ (
    (((gI σ 76 (1 : Int32).toNatClampNeg) ≤ v4 →
      post v3 σ) ∧
    (¬ (gI σ 76 (1 : Int32).toNatClampNeg) ≤ v4 →
      wpX12_all v1 v4 σ (fun r_1 σ_2 =>
      ((r_1 ≤ 0 →
        wbX12_turnover_66 (wbX12_turnover_29 post n) post v1 v2 v3 v4 0 σ_2) ∧
      (¬ r_1 ≤ 0 →
        wpX12_aheadOf v1 v4 σ_2 (fun r_3 σ_4 =>
        ((v2 ≤ r_3 →
          wbX12_turnover_66 (wbX12_turnover_29 post n) post v1 v2 v3 v4 0 σ_4) ∧
        (¬ v2 ≤ r_3 →
          wbX12_turnover_66 (wbX12_turnover_29 post n) post v1 v2 v3 v4 1 σ_4))))))))) := hw
    refine go_iload C 4 rfl dX12_turnover_29 ?_
    refine go_aload_n C 0 rfl rfl dX12_turnover_31 ?_
    refine go_get (v := .ref (G.2.2.1 76)) C (shX12 G) (ltX12 hN) lkX12_7 rfl dX12_turnover_32 ?_
    refine go_iconst (v := 1) C rfl dX12_turnover_35 ?_
    refine go_iald C (saX12_a G) (laX12_a hN) hw.1 dX12_turnover_36 ?_
    replace hw := hw.2
    refine go_icmp_ge C 124 rfl dX12_turnover_37 (fun hc => ?_) (fun hc => ?_)
    · replace hw := hw.1 hc
      refine go_iload_n C 3 rfl rfl dX12_turnover_124 ?_
      exact go_iret C hr ⟨_, rfl, hw⟩ dX12_turnover_125
    · replace hw := hw.2 hc
      refine go_aload_n C 0 rfl rfl dX12_turnover_40 ?_
      refine go_iload_n C 1 rfl rfl dX12_turnover_41 ?_
      refine go_iload C 4 rfl dX12_turnover_42 ?_
      refine go_callV (as := [.int v1, .int v4]) C hR (shX12 G) (ltX12 hN) cwX12_407 (Nat.le_trans (by decide) hd) (by decide) rfl rfl (Nat.le_of_ble_eq_true rfl) dX12_turnover_44 (spX12_all (Nat.le_refl _) hN hw) (fun v_ τ_ hw => ?_)
      obtain ⟨r_1, rfl, hw⟩ := hw
      obtain ⟨σ_2, rfl⟩ : ∃ z, z = τ_ := ⟨_, rfl⟩
      refine go_if_le C 65 rfl dX12_turnover_47 (fun hc => ?_) (fun hc => ?_)
      · replace hw := hw.1 hc
        refine go_iconst (v := 0) C rfl dX12_turnover_65 ?_
        exact (gbX12_turnover_66 C hr hR hnl hd hN ih) _ _ _ _ _ _ hw
      · replace hw := hw.2 hc
        refine go_aload_n C 0 rfl rfl dX12_turnover_50 ?_
        refine go_iload_n C 1 rfl rfl dX12_turnover_51 ?_
        refine go_iload C 4 rfl dX12_turnover_52 ?_
        refine go_callV (as := [.int v1, .int v4]) C hR (shX12 G) (ltX12 hN) cwX12_529 (Nat.le_trans (by decide) hd) (by decide) rfl rfl (Nat.le_of_ble_eq_true rfl) dX12_turnover_54 (spX12_aheadOf (Nat.le_refl _) hN hw) (fun v_ τ_ hw => ?_)
        obtain ⟨r_3, rfl, hw⟩ := hw
        obtain ⟨σ_4, rfl⟩ : ∃ z, z = τ_ := ⟨_, rfl⟩
        refine go_iload_n C 2 rfl rfl dX12_turnover_57 ?_
        refine go_icmp_ge C 65 rfl dX12_turnover_58 (fun hc => ?_) (fun hc => ?_)
        · replace hw := hw.1 hc
          refine go_iconst (v := 0) C rfl dX12_turnover_65 ?_
          exact (gbX12_turnover_66 C hr hR hnl hd hN ih) _ _ _ _ _ _ hw
        · replace hw := hw.2 hc
          refine go_iconst (v := 1) C rfl dX12_turnover_61 ?_
          refine go_goto C 66 rfl dX12_turnover_62 ?_
          exact (gbX12_turnover_66 C hr hR hnl hd hN ih) _ _ _ _ _ _ hw
set_option maxRecDepth 20000 in
set_option maxHeartbeats 4000000 in
theorem spX12_turnover {l : Launch} {G : GT} {d : Nat}  (hd : 10 ≤ d)  (hN : 119 ≤ G.2.2.2.2.2)  {a1 : Int32} {a2 : Int32} {σ : St} {post : Int32 → St → Prop} (hw : wpX12_turnover  a1 a2 σ post) : Sp l G d yX12_turnover cX12_turnover 7 (some .int) [.ref (G.2.2.1 75), .int a1, .int a2] σ (fun v τ => ∃ r : Int32, v = some (.int r) ∧ post r τ) := by
  refine Sp.of (by decide) (Nat.le_of_ble_eq_true rfl) fun X C hr hR hnl => ?_
  show Go X G 0 [(0, .ref (G.2.2.1 75)), (1, .int a1), (2, .int a2)] [] σ
  have hw : wpX12_isGone a1 σ (fun r_1 σ_2 =>
  ((r_1 = 0 →
    post (-1) σ_2) ∧
  (¬ r_1 = 0 →
    wpX12_in a2 1 16 σ_2 (fun r_3 σ_4 =>
    ((¬ r_3 = 0 →
      wpX12_runsAll  σ_4 (fun σ_6 =>
      ∃ m_29, wbX12_turnover_29 post m_29 a1 a2 0 0 σ_6)) ∧
    (r_3 = 0 →
      post (-1) σ_4)))))) := hw
  refine go_aload_n C 0 rfl rfl dX12_turnover_0 ?_
  refine go_iload_n C 1 rfl rfl dX12_turnover_1 ?_
  refine go_callV (as := [.int a1]) C hR (shX12 G) (ltX12 hN) cwX12_475 (Nat.le_trans (by decide) hd) (by decide) rfl rfl (Nat.le_of_ble_eq_true rfl) dX12_turnover_2 (spX12_isGone (Nat.le_refl _) hN hw) (fun v_ τ_ hw => ?_)
  obtain ⟨r_1, rfl, hw⟩ := hw
  obtain ⟨σ_2, rfl⟩ : ∃ z, z = τ_ := ⟨_, rfl⟩
  refine go_if_eq C 18 rfl dX12_turnover_5 (fun hc => ?_) (fun hc => ?_)
  · replace hw := hw.1 hc
    refine go_iconst (v := (-1)) C rfl dX12_turnover_18 ?_
    exact go_iret C hr ⟨_, rfl, hw⟩ dX12_turnover_19
  · replace hw := hw.2 hc
    refine go_iload_n C 2 rfl rfl dX12_turnover_8 ?_
    refine go_iconst (v := 1) C rfl dX12_turnover_9 ?_
    refine go_bipush (v := 16) C rfl dX12_turnover_10 ?_
    refine go_callS (as := [.int a2, .int 1, .int 16]) C hR cwX12_152 (Nat.le_trans (by decide) hd) (by decide) rfl rfl (Nat.le_of_ble_eq_true rfl) dX12_turnover_12 (spX12_in (Nat.le_refl _) hN hw) (fun v_ τ_ hw => ?_)
    obtain ⟨r_3, rfl, hw⟩ := hw
    obtain ⟨σ_4, rfl⟩ : ∃ z, z = τ_ := ⟨_, rfl⟩
    refine go_if_ne C 20 rfl dX12_turnover_15 (fun hc => ?_) (fun hc => ?_)
    · replace hw := hw.1 hc
      refine go_aload_n C 0 rfl rfl dX12_turnover_20 ?_
      refine go_callV (as := []) C hR (shX12 G) (ltX12 hN) cwX12_464 (Nat.le_trans (by decide) hd) (by decide) rfl rfl (Nat.le_of_ble_eq_true rfl) dX12_turnover_21 (spX12_runsAll (Nat.le_refl _) hN hw) (fun v_ τ_ hw => ?_)
      obtain ⟨rfl, hw⟩ := hw
      obtain ⟨σ_6, rfl⟩ : ∃ z, z = τ_ := ⟨_, rfl⟩
      refine go_iconst (v := 0) C rfl dX12_turnover_24 ?_
      refine go_istore_n (lv2 := [(3, .int 0), (0, .ref (G.2.2.1 75)), (1, .int a1), (2, .int a2)]) C rfl (by rw [hnl]; decide) rfl dX12_turnover_25 ?_
      refine go_iconst (v := 0) C rfl dX12_turnover_26 ?_
      refine go_istore (lv2 := [(4, .int 0), (3, .int 0), (0, .ref (G.2.2.1 75)), (1, .int a1), (2, .int a2)]) C (by rw [hnl]; decide) rfl dX12_turnover_27 ?_
      refine go_sub [2, 3, 4, 1, 0] rfl ?_
      obtain ⟨n_0, hw⟩ := hw
      exact (gbX12_turnover_29 C hr hR hnl hd hN) n_0 _ _ _ _ _ hw
    · replace hw := hw.2 hc
      refine go_iconst (v := (-1)) C rfl dX12_turnover_18 ?_
      exact go_iret C hr ⟨_, rfl, hw⟩ dX12_turnover_19
-- CradleNamesModel.print(IIIII)I
set_option maxRecDepth 20000 in
set_option maxHeartbeats 4000000 in
theorem spX12_print {l : Launch} {G : GT} {d : Nat}  (hd : 3 ≤ d)  (hN : 119 ≤ G.2.2.2.2.2)  {a1 : Int32} {a2 : Int32} {a3 : Int32} {a4 : Int32} {a5 : Int32} {σ : St} {post : Int32 → St → Prop} (hw : wpX12_print  a1 a2 a3 a4 a5 σ post) : Sp l G d yX12_print cX12_print 7 (some .int) [.ref (G.2.2.1 75), .int a1, .int a2, .int a3, .int a4, .int a5] σ (fun v τ => ∃ r : Int32, v = some (.int r) ∧ post r τ) := by
  refine Sp.of (by decide) (Nat.le_of_ble_eq_true rfl) fun X C hr hR hnl => ?_
  show Go X G 0 [(0, .ref (G.2.2.1 75)), (1, .int a1), (2, .int a2), (3, .int a3), (4, .int a4), (5, .int a5)] [] σ
  have hw : wpX12_in a1 0 60 σ (fun r_1 σ_2 =>
  ((r_1 = 0 →
    post (-1) σ_2) ∧
  (¬ r_1 = 0 →
    wpX12_in a2 0 2 σ_2 (fun r_3 σ_4 =>
    ((r_3 = 0 →
      post (-1) σ_4) ∧
    (¬ r_3 = 0 →
      wpX12_in a3 0 1 σ_4 (fun r_5 σ_6 =>
      ((r_5 = 0 →
        post (-1) σ_6) ∧
      (¬ r_5 = 0 →
        wpX12_isName a4 σ_6 (fun r_7 σ_8 =>
        ((r_7 = 0 →
          post (-1) σ_8) ∧
        (¬ r_7 = 0 →
          wpX12_in a5 0 99 σ_8 (fun r_9 σ_10 =>
          ((r_9 = 0 →
            post (-1) σ_10) ∧
          (¬ r_9 = 0 →
            vp_in 5 9680 ∧ (
            ((¬ (gI σ_10 76 (5 : Int32).toNatClampNeg) = 150 →
              vp_in 5 9680 ∧ (
              ∀ v6_11 : Int32, v6_11 = (100 + (6 * (gI σ_10 76 (5 : Int32).toNatClampNeg))) →
              vp_in v6_11 9680 ∧ (
              ∀ σ_12 : St, σ_12 = sI σ_10 76 v6_11.toNatClampNeg a1 →
              vp_in (v6_11 + 1) 9680 ∧ (
              ∀ σ_13 : St, σ_13 = sI σ_12 76 (v6_11 + 1).toNatClampNeg a2 →
              vp_in (v6_11 + 2) 9680 ∧ (
              ∀ σ_14 : St, σ_14 = sI σ_13 76 (v6_11 + 2).toNatClampNeg a3 →
              vp_in (v6_11 + 3) 9680 ∧ (
              ∀ σ_15 : St, σ_15 = sI σ_14 76 (v6_11 + 3).toNatClampNeg a4 →
              vp_in (v6_11 + 4) 9680 ∧ (
              ∀ σ_16 : St, σ_16 = sI σ_15 76 (v6_11 + 4).toNatClampNeg a5 →
              vp_in 0 9680 ∧ (
              vp_in (v6_11 + 5) 9680 ∧ (
              ∀ σ_17 : St, σ_17 = sI σ_16 76 (v6_11 + 5).toNatClampNeg (gI σ_16 76 (0 : Int32).toNatClampNeg) →
              vp_in 5 9680 ∧ (
              vp_in 5 9680 ∧ (
              ∀ σ_18 : St, σ_18 = sI σ_17 76 (5 : Int32).toNatClampNeg ((gI σ_17 76 (5 : Int32).toNatClampNeg) + 1) →
              vp_in 5 9680 ∧ (
              post (gI σ_18 76 (5 : Int32).toNatClampNeg) σ_18)))))))))))) ∧
            ((gI σ_10 76 (5 : Int32).toNatClampNeg) = 150 →
              post (-1) σ_10)))))))))))))))))) := hw
  refine go_iload_n C 1 rfl rfl dX12_print_0 ?_
  refine go_iconst (v := 0) C rfl dX12_print_1 ?_
  refine go_bipush (v := 60) C rfl dX12_print_2 ?_
  refine go_callS (as := [.int a1, .int 0, .int 60]) C hR cwX12_152 (Nat.le_trans (by decide) hd) (by decide) rfl rfl (Nat.le_of_ble_eq_true rfl) dX12_print_4 (spX12_in (Nat.le_refl _) hN hw) (fun v_ τ_ hw => ?_)
  obtain ⟨r_1, rfl, hw⟩ := hw
  obtain ⟨σ_2, rfl⟩ : ∃ z, z = τ_ := ⟨_, rfl⟩
  refine go_if_eq C 60 rfl dX12_print_7 (fun hc => ?_) (fun hc => ?_)
  · replace hw := hw.1 hc
    refine go_iconst (v := (-1)) C rfl dX12_print_60 ?_
    exact go_iret C hr ⟨_, rfl, hw⟩ dX12_print_61
  · replace hw := hw.2 hc
    refine go_iload_n C 2 rfl rfl dX12_print_10 ?_
    refine go_iconst (v := 0) C rfl dX12_print_11 ?_
    refine go_iconst (v := 2) C rfl dX12_print_12 ?_
    refine go_callS (as := [.int a2, .int 0, .int 2]) C hR cwX12_152 (Nat.le_trans (by decide) hd) (by decide) rfl rfl (Nat.le_of_ble_eq_true rfl) dX12_print_13 (spX12_in (Nat.le_refl _) hN hw) (fun v_ τ_ hw => ?_)
    obtain ⟨r_3, rfl, hw⟩ := hw
    obtain ⟨σ_4, rfl⟩ : ∃ z, z = τ_ := ⟨_, rfl⟩
    refine go_if_eq C 60 rfl dX12_print_16 (fun hc => ?_) (fun hc => ?_)
    · replace hw := hw.1 hc
      refine go_iconst (v := (-1)) C rfl dX12_print_60 ?_
      exact go_iret C hr ⟨_, rfl, hw⟩ dX12_print_61
    · replace hw := hw.2 hc
      refine go_iload_n C 3 rfl rfl dX12_print_19 ?_
      refine go_iconst (v := 0) C rfl dX12_print_20 ?_
      refine go_iconst (v := 1) C rfl dX12_print_21 ?_
      refine go_callS (as := [.int a3, .int 0, .int 1]) C hR cwX12_152 (Nat.le_trans (by decide) hd) (by decide) rfl rfl (Nat.le_of_ble_eq_true rfl) dX12_print_22 (spX12_in (Nat.le_refl _) hN hw) (fun v_ τ_ hw => ?_)
      obtain ⟨r_5, rfl, hw⟩ := hw
      obtain ⟨σ_6, rfl⟩ : ∃ z, z = τ_ := ⟨_, rfl⟩
      refine go_if_eq C 60 rfl dX12_print_25 (fun hc => ?_) (fun hc => ?_)
      · replace hw := hw.1 hc
        refine go_iconst (v := (-1)) C rfl dX12_print_60 ?_
        exact go_iret C hr ⟨_, rfl, hw⟩ dX12_print_61
      · replace hw := hw.2 hc
        refine go_aload_n C 0 rfl rfl dX12_print_28 ?_
        refine go_iload C 4 rfl dX12_print_29 ?_
        refine go_callV (as := [.int a4]) C hR (shX12 G) (ltX12 hN) cwX12_182 (Nat.le_trans (by decide) hd) (by decide) rfl rfl (Nat.le_of_ble_eq_true rfl) dX12_print_31 (spX12_isName (Nat.le_refl _) hN hw) (fun v_ τ_ hw => ?_)
        obtain ⟨r_7, rfl, hw⟩ := hw
        obtain ⟨σ_8, rfl⟩ : ∃ z, z = τ_ := ⟨_, rfl⟩
        refine go_if_eq C 60 rfl dX12_print_34 (fun hc => ?_) (fun hc => ?_)
        · replace hw := hw.1 hc
          refine go_iconst (v := (-1)) C rfl dX12_print_60 ?_
          exact go_iret C hr ⟨_, rfl, hw⟩ dX12_print_61
        · replace hw := hw.2 hc
          refine go_iload C 5 rfl dX12_print_37 ?_
          refine go_iconst (v := 0) C rfl dX12_print_39 ?_
          refine go_bipush (v := 99) C rfl dX12_print_40 ?_
          refine go_callS (as := [.int a5, .int 0, .int 99]) C hR cwX12_152 (Nat.le_trans (by decide) hd) (by decide) rfl rfl (Nat.le_of_ble_eq_true rfl) dX12_print_42 (spX12_in (Nat.le_refl _) hN hw) (fun v_ τ_ hw => ?_)
          obtain ⟨r_9, rfl, hw⟩ := hw
          obtain ⟨σ_10, rfl⟩ : ∃ z, z = τ_ := ⟨_, rfl⟩
          refine go_if_eq C 60 rfl dX12_print_45 (fun hc => ?_) (fun hc => ?_)
          · replace hw := hw.1 hc
            refine go_iconst (v := (-1)) C rfl dX12_print_60 ?_
            exact go_iret C hr ⟨_, rfl, hw⟩ dX12_print_61
          · replace hw := hw.2 hc
            refine go_aload_n C 0 rfl rfl dX12_print_48 ?_
            refine go_get (v := .ref (G.2.2.1 76)) C (shX12 G) (ltX12 hN) lkX12_7 rfl dX12_print_49 ?_
            refine go_iconst (v := 5) C rfl dX12_print_52 ?_
            refine go_iald C (saX12_a G) (laX12_a hN) hw.1 dX12_print_53 ?_
            replace hw := hw.2
            refine go_sipush (v := 150) C rfl dX12_print_54 ?_
            refine go_icmp_ne C 62 rfl dX12_print_57 (fun hc => ?_) (fun hc => ?_)
            · replace hw := hw.1 hc
              refine go_bipush (v := 100) C rfl dX12_print_62 ?_
              refine go_bipush (v := 6) C rfl dX12_print_64 ?_
              refine go_aload_n C 0 rfl rfl dX12_print_66 ?_
              refine go_get (v := .ref (G.2.2.1 76)) C (shX12 G) (ltX12 hN) lkX12_7 rfl dX12_print_67 ?_
              refine go_iconst (v := 5) C rfl dX12_print_70 ?_
              refine go_iald C (saX12_a G) (laX12_a hN) hw.1 dX12_print_71 ?_
              replace hw := hw.2
              refine go_imul C dX12_print_72 ?_
              refine go_iadd C dX12_print_73 ?_
              refine go_topi (fun v6_11 ev6_11 => ?_)
              replace hw := hw v6_11 ev6_11
              refine go_istore (lv2 := [(6, .int v6_11), (0, .ref (G.2.2.1 75)), (1, .int a1), (2, .int a2), (3, .int a3), (4, .int a4), (5, .int a5)]) C (by rw [hnl]; decide) rfl dX12_print_74 ?_
              refine go_aload_n C 1 rfl rfl dX12_print_76 ?_
              refine go_get (v := .ref (G.2.2.1 76)) C (shX12 G) (ltX12 hN) lkX12_7 rfl dX12_print_77 ?_
              refine go_iload C 0 rfl dX12_print_80 ?_
              refine go_iload_n C 2 rfl rfl dX12_print_82 ?_
              refine go_iast C (saX12_a G) (laX12_a hN) hw.1 dX12_print_83 (go_nm fun σ_12 eσ_12 => ?_)
              replace hw := hw.2 σ_12 eσ_12
              refine go_aload_n C 1 rfl rfl dX12_print_84 ?_
              refine go_get (v := .ref (G.2.2.1 76)) C (shX12 G) (ltX12 hN) lkX12_7 rfl dX12_print_85 ?_
              refine go_iload C 0 rfl dX12_print_88 ?_
              refine go_iconst (v := 1) C rfl dX12_print_90 ?_
              refine go_iadd C dX12_print_91 ?_
              refine go_iload_n C 3 rfl rfl dX12_print_92 ?_
              refine go_iast C (saX12_a G) (laX12_a hN) hw.1 dX12_print_93 (go_nm fun σ_13 eσ_13 => ?_)
              replace hw := hw.2 σ_13 eσ_13
              refine go_aload_n C 1 rfl rfl dX12_print_94 ?_
              refine go_get (v := .ref (G.2.2.1 76)) C (shX12 G) (ltX12 hN) lkX12_7 rfl dX12_print_95 ?_
              refine go_iload C 0 rfl dX12_print_98 ?_
              refine go_iconst (v := 2) C rfl dX12_print_100 ?_
              refine go_iadd C dX12_print_101 ?_
              refine go_iload_n C 4 rfl rfl dX12_print_102 ?_
              refine go_iast C (saX12_a G) (laX12_a hN) hw.1 dX12_print_103 (go_nm fun σ_14 eσ_14 => ?_)
              replace hw := hw.2 σ_14 eσ_14
              refine go_aload_n C 1 rfl rfl dX12_print_104 ?_
              refine go_get (v := .ref (G.2.2.1 76)) C (shX12 G) (ltX12 hN) lkX12_7 rfl dX12_print_105 ?_
              refine go_iload C 0 rfl dX12_print_108 ?_
              refine go_iconst (v := 3) C rfl dX12_print_110 ?_
              refine go_iadd C dX12_print_111 ?_
              refine go_iload C 5 rfl dX12_print_112 ?_
              refine go_iast C (saX12_a G) (laX12_a hN) hw.1 dX12_print_114 (go_nm fun σ_15 eσ_15 => ?_)
              replace hw := hw.2 σ_15 eσ_15
              refine go_aload_n C 1 rfl rfl dX12_print_115 ?_
              refine go_get (v := .ref (G.2.2.1 76)) C (shX12 G) (ltX12 hN) lkX12_7 rfl dX12_print_116 ?_
              refine go_iload C 0 rfl dX12_print_119 ?_
              refine go_iconst (v := 4) C rfl dX12_print_121 ?_
              refine go_iadd C dX12_print_122 ?_
              refine go_iload C 6 rfl dX12_print_123 ?_
              refine go_iast C (saX12_a G) (laX12_a hN) hw.1 dX12_print_125 (go_nm fun σ_16 eσ_16 => ?_)
              replace hw := hw.2 σ_16 eσ_16
              refine go_aload_n C 1 rfl rfl dX12_print_126 ?_
              refine go_get (v := .ref (G.2.2.1 76)) C (shX12 G) (ltX12 hN) lkX12_7 rfl dX12_print_127 ?_
              refine go_iload C 0 rfl dX12_print_130 ?_
              refine go_iconst (v := 5) C rfl dX12_print_132 ?_
              refine go_iadd C dX12_print_133 ?_
              refine go_aload_n C 1 rfl rfl dX12_print_134 ?_
              refine go_get (v := .ref (G.2.2.1 76)) C (shX12 G) (ltX12 hN) lkX12_7 rfl dX12_print_135 ?_
              refine go_iconst (v := 0) C rfl dX12_print_138 ?_
              refine go_iald C (saX12_a G) (laX12_a hN) hw.1 dX12_print_139 ?_
              replace hw := hw.2
              refine go_iast C (saX12_a G) (laX12_a hN) hw.1 dX12_print_140 (go_nm fun σ_17 eσ_17 => ?_)
              replace hw := hw.2 σ_17 eσ_17
              refine go_aload_n C 1 rfl rfl dX12_print_141 ?_
              refine go_get (v := .ref (G.2.2.1 76)) C (shX12 G) (ltX12 hN) lkX12_7 rfl dX12_print_142 ?_
              refine go_iconst (v := 5) C rfl dX12_print_145 ?_
              refine go_dup2 C rfl rfl dX12_print_146 ?_
              refine go_iald C (saX12_a G) (laX12_a hN) hw.1 dX12_print_147 ?_
              replace hw := hw.2
              refine go_iconst (v := 1) C rfl dX12_print_148 ?_
              refine go_iadd C dX12_print_149 ?_
              refine go_iast C (saX12_a G) (laX12_a hN) hw.1 dX12_print_150 (go_nm fun σ_18 eσ_18 => ?_)
              replace hw := hw.2 σ_18 eσ_18
              refine go_aload_n C 1 rfl rfl dX12_print_151 ?_
              refine go_get (v := .ref (G.2.2.1 76)) C (shX12 G) (ltX12 hN) lkX12_7 rfl dX12_print_152 ?_
              refine go_iconst (v := 5) C rfl dX12_print_155 ?_
              refine go_iald C (saX12_a G) (laX12_a hN) hw.1 dX12_print_156 ?_
              replace hw := hw.2
              exact go_iret C hr ⟨_, rfl, hw⟩ dX12_print_157
            · replace hw := hw.2 hc
              refine go_iconst (v := (-1)) C rfl dX12_print_60 ?_
              exact go_iret C hr ⟨_, rfl, hw⟩ dX12_print_61
-- CradleNamesModel.isLet(II)Z
set_option maxRecDepth 20000 in
set_option maxHeartbeats 4000000 in
theorem gbX12_isLet_77 {X : XT} {G : GT} {l : Launch} {d : Nat}  {post : Int32 → St → Prop} (C : Cx X G cX12_isLet RX12) (hr : Rt X G (some .boolean) (fun v τ => ∃ r : Int32, v = some (.int r) ∧ post r τ)) (hR : Rm X l d) (hnl : X.2.2.2.2.2.2.2.2.2.2.1 = 7)  (hd : 9 ≤ d) (hN : 119 ≤ G.2.2.2.2.2)   
    : ∀ (n : Nat) (v2 : Int32) (v4 : Int32) (v5 : Int32) (σ : St), wbX12_isLet_77   post n v2 v4 v5 σ → Go X G 77 [(0, .ref (G.2.2.1 75)), (2, .int v2), (4, .int v4), (5, .int v5)] [] σ := by
  intro n
  induction n with
  | zero => intro v2 v4 v5 σ hw; exact hw.elim
  | succ n ih =>
    intro v2 v4 v5 σ hw
    have hw : vp_in 5 9680 ∧ (
    (((gI σ 76 (5 : Int32).toNatClampNeg) ≤ v5 →
      (v4 = 0 ∨ v4 = 1) ∧ post v4 σ) ∧
    (¬ (gI σ 76 (5 : Int32).toNatClampNeg) ≤ v5 →
      ((v4 = 0 →
        (v4 = 0 ∨ v4 = 1) ∧ post v4 σ) ∧
      (¬ v4 = 0 →
        ∀ v6_1 : Int32, v6_1 = (100 + (6 * v5)) →
        vp_in (v6_1 + 5) 9680 ∧ (
        ((v2 < (gI σ 76 (v6_1 + 5).toNatClampNeg) →
          ∀ v5_2 : Int32, v5_2 = v5 + 1 →
          wbX12_isLet_77 post n v2 1 v5_2 σ) ∧
        (¬ v2 < (gI σ 76 (v6_1 + 5).toNatClampNeg) →
          vp_in v6_1 9680 ∧ (
          vp_in (v6_1 + 1) 9680 ∧ (
          vp_in (v6_1 + 2) 9680 ∧ (
          vp_in (v6_1 + 3) 9680 ∧ (
          wpX12_sumOf (gI σ 76 v6_1.toNatClampNeg) (gI σ 76 (v6_1 + 1).toNatClampNeg) (-1) (gI σ 76 (v6_1 + 2).toNatClampNeg) (gI σ 76 (v6_1 + 3).toNatClampNeg) σ (fun r_3 σ_4 =>
          vp_in (v6_1 + 4) 9680 ∧ (
          ((¬ r_3 = (gI σ_4 76 (v6_1 + 4).toNatClampNeg) →
            ∀ v5_5 : Int32, v5_5 = v5 + 1 →
            wbX12_isLet_77 post n v2 0 v5_5 σ_4) ∧
          (r_3 = (gI σ_4 76 (v6_1 + 4).toNatClampNeg) →
            ∀ v5_6 : Int32, v5_6 = v5 + 1 →
            wbX12_isLet_77 post n v2 1 v5_6 σ_4)))))))))))))))) := hw
    refine go_iload C 3 rfl dX12_isLet_77 ?_
    refine go_aload_n C 0 rfl rfl dX12_isLet_79 ?_
    refine go_get (v := .ref (G.2.2.1 76)) C (shX12 G) (ltX12 hN) lkX12_7 rfl dX12_isLet_80 ?_
    refine go_iconst (v := 5) C rfl dX12_isLet_83 ?_
    refine go_iald C (saX12_a G) (laX12_a hN) hw.1 dX12_isLet_84 ?_
    replace hw := hw.2
    refine go_icmp_ge C 180 rfl dX12_isLet_85 (fun hc => ?_) (fun hc => ?_)
    · replace hw := hw.1 hc
      refine go_iload C 2 rfl dX12_isLet_180 ?_
      exact go_zret C hr (bool_nar hw.1) ⟨_, rfl, hw.2⟩ dX12_isLet_182
    · replace hw := hw.2 hc
      refine go_iload C 2 rfl dX12_isLet_88 ?_
      refine go_if_eq C 180 rfl dX12_isLet_90 (fun hc => ?_) (fun hc => ?_)
      · replace hw := hw.1 hc
        refine go_iload C 2 rfl dX12_isLet_180 ?_
        exact go_zret C hr (bool_nar hw.1) ⟨_, rfl, hw.2⟩ dX12_isLet_182
      · replace hw := hw.2 hc
        refine go_bipush (v := 100) C rfl dX12_isLet_93 ?_
        refine go_bipush (v := 6) C rfl dX12_isLet_95 ?_
        refine go_iload C 3 rfl dX12_isLet_97 ?_
        refine go_imul C dX12_isLet_99 ?_
        refine go_iadd C dX12_isLet_100 ?_
        refine go_topi (fun v6_1 ev6_1 => ?_)
        replace hw := hw v6_1 ev6_1
        refine go_istore (lv2 := [(6, .int v6_1), (0, .ref (G.2.2.1 75)), (2, .int v2), (4, .int v4), (5, .int v5)]) C (by rw [hnl]; decide) rfl dX12_isLet_101 ?_
        refine go_aload_n C 1 rfl rfl dX12_isLet_103 ?_
        refine go_get (v := .ref (G.2.2.1 76)) C (shX12 G) (ltX12 hN) lkX12_7 rfl dX12_isLet_104 ?_
        refine go_iload C 0 rfl dX12_isLet_107 ?_
        refine go_iconst (v := 5) C rfl dX12_isLet_109 ?_
        refine go_iadd C dX12_isLet_110 ?_
        refine go_iald C (saX12_a G) (laX12_a hN) hw.1 dX12_isLet_111 ?_
        replace hw := hw.2
        refine go_iload_n C 2 rfl rfl dX12_isLet_112 ?_
        refine go_icmp_gt C 167 rfl dX12_isLet_113 (fun hc => ?_) (fun hc => ?_)
        · replace hw := hw.1 hc
          refine go_iconst (v := 1) C rfl dX12_isLet_167 ?_
          refine go_goto C 172 rfl dX12_isLet_168 ?_
          refine go_istore (lv2 := [(4, .int 1), (6, .int v6_1), (0, .ref (G.2.2.1 75)), (2, .int v2), (5, .int v5)]) C (by rw [hnl]; decide) rfl dX12_isLet_172 ?_
          obtain ⟨v5_2, ev5_2⟩ : ∃ z : Int32, z = v5 + 1 := ⟨_, rfl⟩
          replace hw := hw v5_2 ev5_2
          refine go_iinc (v := v5_2) (lv2 := [(5, .int v5_2), (4, .int 1), (6, .int v6_1), (0, .ref (G.2.2.1 75)), (2, .int v2)]) C 4 rfl (by rw [ev5_2]; rfl) (by rw [hnl]; decide) rfl dX12_isLet_174 ?_
          refine go_goto C 77 rfl dX12_isLet_177 ?_
          refine go_sub [3, 4, 1, 0] rfl ?_
          exact ih _ _ _ _ hw
        · replace hw := hw.2 hc
          refine go_aload_n C 1 rfl rfl dX12_isLet_116 ?_
          refine go_aload_n C 1 rfl rfl dX12_isLet_117 ?_
          refine go_get (v := .ref (G.2.2.1 76)) C (shX12 G) (ltX12 hN) lkX12_7 rfl dX12_isLet_118 ?_
          refine go_iload C 0 rfl dX12_isLet_121 ?_
          refine go_iald C (saX12_a G) (laX12_a hN) hw.1 dX12_isLet_123 ?_
          replace hw := hw.2
          refine go_aload_n C 1 rfl rfl dX12_isLet_124 ?_
          refine go_get (v := .ref (G.2.2.1 76)) C (shX12 G) (ltX12 hN) lkX12_7 rfl dX12_isLet_125 ?_
          refine go_iload C 0 rfl dX12_isLet_128 ?_
          refine go_iconst (v := 1) C rfl dX12_isLet_130 ?_
          refine go_iadd C dX12_isLet_131 ?_
          refine go_iald C (saX12_a G) (laX12_a hN) hw.1 dX12_isLet_132 ?_
          replace hw := hw.2
          refine go_iconst (v := (-1)) C rfl dX12_isLet_133 ?_
          refine go_aload_n C 1 rfl rfl dX12_isLet_134 ?_
          refine go_get (v := .ref (G.2.2.1 76)) C (shX12 G) (ltX12 hN) lkX12_7 rfl dX12_isLet_135 ?_
          refine go_iload C 0 rfl dX12_isLet_138 ?_
          refine go_iconst (v := 2) C rfl dX12_isLet_140 ?_
          refine go_iadd C dX12_isLet_141 ?_
          refine go_iald C (saX12_a G) (laX12_a hN) hw.1 dX12_isLet_142 ?_
          replace hw := hw.2
          refine go_aload_n C 1 rfl rfl dX12_isLet_143 ?_
          refine go_get (v := .ref (G.2.2.1 76)) C (shX12 G) (ltX12 hN) lkX12_7 rfl dX12_isLet_144 ?_
          refine go_iload C 0 rfl dX12_isLet_147 ?_
          refine go_iconst (v := 3) C rfl dX12_isLet_149 ?_
          refine go_iadd C dX12_isLet_150 ?_
          refine go_iald C (saX12_a G) (laX12_a hN) hw.1 dX12_isLet_151 ?_
          replace hw := hw.2
          refine go_callV (as := [.int (gI σ 76 v6_1.toNatClampNeg), .int (gI σ 76 (v6_1 + 1).toNatClampNeg), .int (-1), .int (gI σ 76 (v6_1 + 2).toNatClampNeg), .int (gI σ 76 (v6_1 + 3).toNatClampNeg)]) C hR (shX12 G) (ltX12 hN) cwX12_471 (Nat.le_trans (by decide) hd) (by decide) rfl rfl (Nat.le_of_ble_eq_true rfl) dX12_isLet_152 (spX12_sumOf (Nat.le_refl _) hN hw) (fun v_ τ_ hw => ?_)
          obtain ⟨r_3, rfl, hw⟩ := hw
          obtain ⟨σ_4, rfl⟩ : ∃ z, z = τ_ := ⟨_, rfl⟩
          refine go_aload_n C 1 rfl rfl dX12_isLet_155 ?_
          refine go_get (v := .ref (G.2.2.1 76)) C (shX12 G) (ltX12 hN) lkX12_7 rfl dX12_isLet_156 ?_
          refine go_iload C 0 rfl dX12_isLet_159 ?_
          refine go_iconst (v := 4) C rfl dX12_isLet_161 ?_
          refine go_iadd C dX12_isLet_162 ?_
          refine go_iald C (saX12_a G) (laX12_a hN) hw.1 dX12_isLet_163 ?_
          replace hw := hw.2
          refine go_icmp_ne C 171 rfl dX12_isLet_164 (fun hc => ?_) (fun hc => ?_)
          · replace hw := hw.1 hc
            refine go_iconst (v := 0) C rfl dX12_isLet_171 ?_
            refine go_istore (lv2 := [(4, .int 0), (6, .int v6_1), (0, .ref (G.2.2.1 75)), (2, .int v2), (5, .int v5)]) C (by rw [hnl]; decide) rfl dX12_isLet_172 ?_
            obtain ⟨v5_5, ev5_5⟩ : ∃ z : Int32, z = v5 + 1 := ⟨_, rfl⟩
            replace hw := hw v5_5 ev5_5
            refine go_iinc (v := v5_5) (lv2 := [(5, .int v5_5), (4, .int 0), (6, .int v6_1), (0, .ref (G.2.2.1 75)), (2, .int v2)]) C 4 rfl (by rw [ev5_5]; rfl) (by rw [hnl]; decide) rfl dX12_isLet_174 ?_
            refine go_goto C 77 rfl dX12_isLet_177 ?_
            refine go_sub [3, 4, 1, 0] rfl ?_
            exact ih _ _ _ _ hw
          · replace hw := hw.2 hc
            refine go_iconst (v := 1) C rfl dX12_isLet_167 ?_
            refine go_goto C 172 rfl dX12_isLet_168 ?_
            refine go_istore (lv2 := [(4, .int 1), (6, .int v6_1), (0, .ref (G.2.2.1 75)), (2, .int v2), (5, .int v5)]) C (by rw [hnl]; decide) rfl dX12_isLet_172 ?_
            obtain ⟨v5_6, ev5_6⟩ : ∃ z : Int32, z = v5 + 1 := ⟨_, rfl⟩
            replace hw := hw v5_6 ev5_6
            refine go_iinc (v := v5_6) (lv2 := [(5, .int v5_6), (4, .int 1), (6, .int v6_1), (0, .ref (G.2.2.1 75)), (2, .int v2)]) C 4 rfl (by rw [ev5_6]; rfl) (by rw [hnl]; decide) rfl dX12_isLet_174 ?_
            refine go_goto C 77 rfl dX12_isLet_177 ?_
            refine go_sub [3, 4, 1, 0] rfl ?_
            exact ih _ _ _ _ hw
set_option maxRecDepth 20000 in
set_option maxHeartbeats 4000000 in
theorem gbX12_isLet_5 {X : XT} {G : GT} {l : Launch} {d : Nat}  {post : Int32 → St → Prop} (C : Cx X G cX12_isLet RX12) (hr : Rt X G (some .boolean) (fun v τ => ∃ r : Int32, v = some (.int r) ∧ post r τ)) (hR : Rm X l d) (hnl : X.2.2.2.2.2.2.2.2.2.2.1 = 7)  (hd : 9 ≤ d) (hN : 119 ≤ G.2.2.2.2.2)   
    : ∀ (n : Nat) (v1 : Int32) (v2 : Int32) (v3 : Int32) (v4 : Int32) (σ : St), wbX12_isLet_5   post n v1 v2 v3 v4 σ → Go X G 5 [(0, .ref (G.2.2.1 75)), (1, .int v1), (2, .int v2), (3, .int v3), (4, .int v4)] [] σ := by
  intro n
  induction n with
  | zero => intro v1 v2 v3 v4 σ hw; exact hw.elim
  | succ n ih =>
    intro v1 v2 v3 v4 σ hw
    have hw : vp_in 5 9680 ∧ (
    (((gI σ 76 (5 : Int32).toNatClampNeg) ≤ v4 →
      wpX12_runs (v3 + 1) (-1) 0 v1 σ (fun σ_2 =>
      ∃ m_77, wbX12_isLet_77 post m_77 v2 1 0 σ_2)) ∧
    (¬ (gI σ 76 (5 : Int32).toNatClampNeg) ≤ v4 →
      ∀ v5_3 : Int32, v5_3 = (100 + (6 * v4)) →
      vp_in (v5_3 + 5) 9680 ∧ (
      ((v2 < (gI σ 76 (v5_3 + 5).toNatClampNeg) →
        ∀ v4_4 : Int32, v4_4 = v4 + 1 →
        wbX12_isLet_5 post n v1 v2 v3 v4_4 σ) ∧
      (¬ v2 < (gI σ 76 (v5_3 + 5).toNatClampNeg) →
        vp_in v5_3 9680 ∧ (
        wpX12_greater v3 (gI σ 76 v5_3.toNatClampNeg) σ (fun r_5 σ_6 =>
        ∀ v4_7 : Int32, v4_7 = v4 + 1 →
        wbX12_isLet_5 post n v1 v2 r_5 v4_7 σ_6)))))))) := hw
    refine go_iload C 4 rfl dX12_isLet_5 ?_
    refine go_aload_n C 0 rfl rfl dX12_isLet_7 ?_
    refine go_get (v := .ref (G.2.2.1 76)) C (shX12 G) (ltX12 hN) lkX12_7 rfl dX12_isLet_8 ?_
    refine go_iconst (v := 5) C rfl dX12_isLet_11 ?_
    refine go_iald C (saX12_a G) (laX12_a hN) hw.1 dX12_isLet_12 ?_
    replace hw := hw.2
    refine go_icmp_ge C 61 rfl dX12_isLet_13 (fun hc => ?_) (fun hc => ?_)
    · replace hw := hw.1 hc
      refine go_aload_n C 0 rfl rfl dX12_isLet_61 ?_
      refine go_iload_n C 3 rfl rfl dX12_isLet_62 ?_
      refine go_iconst (v := 1) C rfl dX12_isLet_63 ?_
      refine go_iadd C dX12_isLet_64 ?_
      refine go_iconst (v := (-1)) C rfl dX12_isLet_65 ?_
      refine go_iconst (v := 0) C rfl dX12_isLet_66 ?_
      refine go_iload_n C 1 rfl rfl dX12_isLet_67 ?_
      refine go_callV (as := [.int (v3 + 1), .int (-1), .int 0, .int v1]) C hR (shX12 G) (ltX12 hN) cwX12_188 (Nat.le_trans (by decide) hd) (by decide) rfl rfl (Nat.le_of_ble_eq_true rfl) dX12_isLet_68 (spX12_runs (Nat.le_refl _) hN hw) (fun v_ τ_ hw => ?_)
      obtain ⟨rfl, hw⟩ := hw
      obtain ⟨σ_2, rfl⟩ : ∃ z, z = τ_ := ⟨_, rfl⟩
      refine go_iconst (v := 1) C rfl dX12_isLet_71 ?_
      refine go_istore (lv2 := [(4, .int 1), (0, .ref (G.2.2.1 75)), (1, .int v1), (2, .int v2), (3, .int v3)]) C (by rw [hnl]; decide) rfl dX12_isLet_72 ?_
      refine go_iconst (v := 0) C rfl dX12_isLet_74 ?_
      refine go_istore (lv2 := [(5, .int 0), (4, .int 1), (0, .ref (G.2.2.1 75)), (1, .int v1), (2, .int v2), (3, .int v3)]) C (by rw [hnl]; decide) rfl dX12_isLet_75 ?_
      refine go_sub [2, 4, 1, 0] rfl ?_
      obtain ⟨n_0, hw⟩ := hw
      exact (gbX12_isLet_77 C hr hR hnl hd hN) n_0 _ _ _ _ hw
    · replace hw := hw.2 hc
      refine go_bipush (v := 100) C rfl dX12_isLet_16 ?_
      refine go_bipush (v := 6) C rfl dX12_isLet_18 ?_
      refine go_iload C 4 rfl dX12_isLet_20 ?_
      refine go_imul C dX12_isLet_22 ?_
      refine go_iadd C dX12_isLet_23 ?_
      refine go_topi (fun v5_3 ev5_3 => ?_)
      replace hw := hw v5_3 ev5_3
      refine go_istore (lv2 := [(5, .int v5_3), (0, .ref (G.2.2.1 75)), (1, .int v1), (2, .int v2), (3, .int v3), (4, .int v4)]) C (by rw [hnl]; decide) rfl dX12_isLet_24 ?_
      refine go_aload_n C 1 rfl rfl dX12_isLet_26 ?_
      refine go_get (v := .ref (G.2.2.1 76)) C (shX12 G) (ltX12 hN) lkX12_7 rfl dX12_isLet_27 ?_
      refine go_iload C 0 rfl dX12_isLet_30 ?_
      refine go_iconst (v := 5) C rfl dX12_isLet_32 ?_
      refine go_iadd C dX12_isLet_33 ?_
      refine go_iald C (saX12_a G) (laX12_a hN) hw.1 dX12_isLet_34 ?_
      replace hw := hw.2
      refine go_iload_n C 3 rfl rfl dX12_isLet_35 ?_
      refine go_icmp_gt C 53 rfl dX12_isLet_36 (fun hc => ?_) (fun hc => ?_)
      · replace hw := hw.1 hc
        refine go_iload_n C 4 rfl rfl dX12_isLet_53 ?_
        refine go_istore_n (lv2 := [(3, .int v3), (5, .int v5_3), (0, .ref (G.2.2.1 75)), (1, .int v1), (2, .int v2), (4, .int v4)]) C rfl (by rw [hnl]; decide) rfl dX12_isLet_54 ?_
        obtain ⟨v4_4, ev4_4⟩ : ∃ z : Int32, z = v4 + 1 := ⟨_, rfl⟩
        replace hw := hw v4_4 ev4_4
        refine go_iinc (v := v4_4) (lv2 := [(4, .int v4_4), (3, .int v3), (5, .int v5_3), (0, .ref (G.2.2.1 75)), (1, .int v1), (2, .int v2)]) C 5 rfl (by rw [ev4_4]; rfl) (by rw [hnl]; decide) rfl dX12_isLet_55 ?_
        refine go_goto C 5 rfl dX12_isLet_58 ?_
        refine go_sub [3, 4, 5, 1, 0] rfl ?_
        exact ih _ _ _ _ _ hw
      · replace hw := hw.2 hc
        refine go_iload_n C 4 rfl rfl dX12_isLet_39 ?_
        refine go_aload_n C 1 rfl rfl dX12_isLet_40 ?_
        refine go_get (v := .ref (G.2.2.1 76)) C (shX12 G) (ltX12 hN) lkX12_7 rfl dX12_isLet_41 ?_
        refine go_iload C 0 rfl dX12_isLet_44 ?_
        refine go_iald C (saX12_a G) (laX12_a hN) hw.1 dX12_isLet_46 ?_
        replace hw := hw.2
        refine go_callS (as := [.int v3, .int (gI σ 76 v5_3.toNatClampNeg)]) C hR cwX12_410 (Nat.le_trans (by decide) hd) (by decide) rfl rfl (Nat.le_of_ble_eq_true rfl) dX12_isLet_47 (spX12_greater (Nat.le_refl _) hN hw) (fun v_ τ_ hw => ?_)
        obtain ⟨r_5, rfl, hw⟩ := hw
        obtain ⟨σ_6, rfl⟩ : ∃ z, z = τ_ := ⟨_, rfl⟩
        refine go_goto C 54 rfl dX12_isLet_50 ?_
        refine go_istore_n (lv2 := [(3, .int r_5), (5, .int v5_3), (0, .ref (G.2.2.1 75)), (1, .int v1), (2, .int v2), (4, .int v4)]) C rfl (by rw [hnl]; decide) rfl dX12_isLet_54 ?_
        obtain ⟨v4_7, ev4_7⟩ : ∃ z : Int32, z = v4 + 1 := ⟨_, rfl⟩
        replace hw := hw v4_7 ev4_7
        refine go_iinc (v := v4_7) (lv2 := [(4, .int v4_7), (3, .int r_5), (5, .int v5_3), (0, .ref (G.2.2.1 75)), (1, .int v1), (2, .int v2)]) C 5 rfl (by rw [ev4_7]; rfl) (by rw [hnl]; decide) rfl dX12_isLet_55 ?_
        refine go_goto C 5 rfl dX12_isLet_58 ?_
        refine go_sub [3, 4, 5, 1, 0] rfl ?_
        exact ih _ _ _ _ _ hw
set_option maxRecDepth 20000 in
set_option maxHeartbeats 4000000 in
theorem spX12_isLet {l : Launch} {G : GT} {d : Nat}  (hd : 9 ≤ d)  (hN : 119 ≤ G.2.2.2.2.2)  {a1 : Int32} {a2 : Int32} {σ : St} {post : Int32 → St → Prop} (hw : wpX12_isLet  a1 a2 σ post) : Sp l G d yX12_isLet cX12_isLet 7 (some .boolean) [.ref (G.2.2.1 75), .int a1, .int a2] σ (fun v τ => ∃ r : Int32, v = some (.int r) ∧ post r τ) := by
  refine Sp.of (by decide) (Nat.le_of_ble_eq_true rfl) fun X C hr hR hnl => ?_
  show Go X G 0 [(0, .ref (G.2.2.1 75)), (1, .int a1), (2, .int a2)] [] σ
  have hw : ∃ m_5, wbX12_isLet_5 post m_5 a1 a2 (-1) 0 σ := hw
  refine go_iconst (v := (-1)) C rfl dX12_isLet_0 ?_
  refine go_istore_n (lv2 := [(3, .int (-1)), (0, .ref (G.2.2.1 75)), (1, .int a1), (2, .int a2)]) C rfl (by rw [hnl]; decide) rfl dX12_isLet_1 ?_
  refine go_iconst (v := 0) C rfl dX12_isLet_2 ?_
  refine go_istore (lv2 := [(4, .int 0), (3, .int (-1)), (0, .ref (G.2.2.1 75)), (1, .int a1), (2, .int a2)]) C (by rw [hnl]; decide) rfl dX12_isLet_3 ?_
  refine go_sub [2, 3, 4, 1, 0] rfl ?_
  obtain ⟨n_0, hw⟩ := hw
  exact (gbX12_isLet_5 C hr hR hnl hd hN) n_0 _ _ _ _ _ hw
