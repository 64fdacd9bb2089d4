-- CradleNames.unnamed(I)I
set_option maxRecDepth 20000 in
set_option maxHeartbeats 4000000 in
theorem gbX11_unnamed_9 {X : XT} {G : GT} {l : Launch} {d : Nat}  {post : Int32 → St → Prop} (C : Cx X G cX11_unnamed RX11) (hr : Rt X G (some .int) (fun v τ => ∃ r : Int32, v = some (.int r) ∧ post r τ)) (hR : Rm X l d) (hnl : X.2.2.2.2.2.2.2.2.2.2.1 = 4)  (hd : 2 ≤ d) (hN : 75 ≤ G.2.2.2.2.2)   
    : ∀ (n : Nat) (v2 : Int32) (v3 : Int32) (σ : St), wbX11_unnamed_9   post n v2 v3 σ → Go X G 9 [(0, .ref (G.2.2.1 0)), (2, .int v2), (3, .int v3)] [] σ := by
  intro n
  induction n with
  | zero => intro v2 v3 σ hw; exact hw.elim
  | succ n ih =>
    intro v2 v3 σ hw
    have hw : (((gI σ 9 0) ≤ v3 →
      post v2 σ) ∧
    (¬ (gI σ 9 0) ≤ v3 →
      vp_in v3 61 ∧ (
      ∀ v2_1 : Int32, v2_1 = (v2 + (gI σ 15 v3.toNatClampNeg)) →
      ∀ v3_2 : Int32, v3_2 = v3 + 1 →
      wbX11_unnamed_9 post n v2_1 v3_2 σ))) := hw
    refine go_iload_n C 2 rfl rfl dX11_unnamed_9 ?_
    refine go_aload_n C 0 rfl rfl dX11_unnamed_10 ?_
    refine go_get (v := .ref (G.2.2.1 9)) C (shX11 G) (ltX11 hN) lkX11_19 rfl dX11_unnamed_11 ?_
    refine go_get (v := .int (gI σ 9 0)) C (shX4 G) (ltX4 hN) lkX11_120 rfl dX11_unnamed_14 ?_
    refine go_icmp_ge C 38 rfl dX11_unnamed_17 (fun hc => ?_) (fun hc => ?_)
    · replace hw := hw.1 hc
      refine go_iload_n C 1 rfl rfl dX11_unnamed_38 ?_
      exact go_iret C hr ⟨_, rfl, hw⟩ dX11_unnamed_39
    · replace hw := hw.2 hc
      refine go_iload_n C 1 rfl rfl dX11_unnamed_20 ?_
      refine go_aload_n C 0 rfl rfl dX11_unnamed_21 ?_
      refine go_get (v := .ref (G.2.2.1 9)) C (shX11 G) (ltX11 hN) lkX11_19 rfl dX11_unnamed_22 ?_
      refine go_get (v := .ref (G.2.2.1 15)) C (shX4 G) (ltX4 hN) lkX11_240 rfl dX11_unnamed_25 ?_
      refine go_iload_n C 2 rfl rfl dX11_unnamed_28 ?_
      refine go_iald C (saX4_unnamedThen G) (laX4_unnamedThen hN) hw.1 dX11_unnamed_29 ?_
      replace hw := hw.2
      refine go_iadd C dX11_unnamed_30 ?_
      refine go_topi (fun v2_1 ev2_1 => ?_)
      replace hw := hw v2_1 ev2_1
      refine go_istore_n (lv2 := [(2, .int v2_1), (0, .ref (G.2.2.1 0)), (3, .int v3)]) C rfl (by rw [hnl]; decide) rfl dX11_unnamed_31 ?_
      obtain ⟨v3_2, ev3_2⟩ : ∃ z : Int32, z = v3 + 1 := ⟨_, rfl⟩
      replace hw := hw v3_2 ev3_2
      refine go_iinc (v := v3_2) (lv2 := [(3, .int v3_2), (2, .int v2_1), (0, .ref (G.2.2.1 0))]) C 2 rfl (by rw [ev3_2]; rfl) (by rw [hnl]; decide) rfl dX11_unnamed_32 ?_
      refine go_goto C 9 rfl dX11_unnamed_35 ?_
      refine go_sub [2, 1, 0] rfl ?_
      exact ih _ _ _ hw
set_option maxRecDepth 20000 in
set_option maxHeartbeats 4000000 in
theorem spX11_unnamed {l : Launch} {G : GT} {d : Nat}  (hd : 2 ≤ d)  (hN : 75 ≤ G.2.2.2.2.2)  {a1 : Int32} {σ : St} {post : Int32 → St → Prop} (hw : wpX11_unnamed  a1 σ post) : Sp l G d yX11_unnamed cX11_unnamed 4 (some .int) [.ref (G.2.2.1 0), .int a1] σ (fun v τ => ∃ r : Int32, v = some (.int r) ∧ post r τ) := by
  refine Sp.of (by decide) (Nat.le_of_ble_eq_true rfl) fun X C hr hR hnl => ?_
  show Go X G 0 [(0, .ref (G.2.2.1 0)), (1, .int a1)] [] σ
  have hw : ((¬ a1 = (-1) →
    wpX4_wentBy a1 σ (fun r_1 σ_2 =>
    ((r_1 = 0 →
      post (-1) σ_2) ∧
    (¬ r_1 = 0 →
      vp_in a1 61 ∧ (
      post (gI σ_2 15 a1.toNatClampNeg) σ_2))))) ∧
  (a1 = (-1) →
    ∃ m_9, wbX11_unnamed_9 post m_9 0 0 σ)) := hw
  refine go_iload_n C 1 rfl rfl dX11_unnamed_0 ?_
  refine go_iconst (v := (-1)) C rfl dX11_unnamed_1 ?_
  refine go_icmp_ne C 40 rfl dX11_unnamed_2 (fun hc => ?_) (fun hc => ?_)
  · replace hw := hw.1 hc
    refine go_aload_n C 0 rfl rfl dX11_unnamed_40 ?_
    refine go_get (v := .ref (G.2.2.1 9)) C (shX11 G) (ltX11 hN) lkX11_19 rfl dX11_unnamed_41 ?_
    refine go_iload_n C 1 rfl rfl dX11_unnamed_44 ?_
    refine go_callV (as := [.int a1]) C hR (shX4 G) (ltX4 hN) cwX11_243 (Nat.le_trans (by decide) hd) (by decide) rfl rfl (Nat.le_of_ble_eq_true rfl) dX11_unnamed_45 (spX4_wentBy (Nat.le_refl _) hN hw) (fun v_ τ_ hw => ?_)
    obtain ⟨r_1, rfl, hw⟩ := hw
    obtain ⟨σ_2, rfl⟩ : ∃ z, z = τ_ := ⟨_, rfl⟩
    refine go_if_eq C 63 rfl dX11_unnamed_48 (fun hc => ?_) (fun hc => ?_)
    · replace hw := hw.1 hc
      refine go_iconst (v := (-1)) C rfl dX11_unnamed_63 ?_
      exact go_iret C hr ⟨_, rfl, hw⟩ dX11_unnamed_64
    · replace hw := hw.2 hc
      refine go_aload_n C 0 rfl rfl dX11_unnamed_51 ?_
      refine go_get (v := .ref (G.2.2.1 9)) C (shX11 G) (ltX11 hN) lkX11_19 rfl dX11_unnamed_52 ?_
      refine go_get (v := .ref (G.2.2.1 15)) C (shX4 G) (ltX4 hN) lkX11_240 rfl dX11_unnamed_55 ?_
      refine go_iload_n C 1 rfl rfl dX11_unnamed_58 ?_
      refine go_iald C (saX4_unnamedThen G) (laX4_unnamedThen hN) hw.1 dX11_unnamed_59 ?_
      replace hw := hw.2
      refine go_goto C 64 rfl dX11_unnamed_60 ?_
      exact go_iret C hr ⟨_, rfl, hw⟩ dX11_unnamed_64
  · replace hw := hw.2 hc
    refine go_iconst (v := 0) C rfl dX11_unnamed_5 ?_
    refine go_istore_n (lv2 := [(2, .int 0), (0, .ref (G.2.2.1 0)), (1, .int a1)]) C rfl (by rw [hnl]; decide) rfl dX11_unnamed_6 ?_
    refine go_iconst (v := 0) C rfl dX11_unnamed_7 ?_
    refine go_istore_n (lv2 := [(3, .int 0), (2, .int 0), (0, .ref (G.2.2.1 0)), (1, .int a1)]) C rfl (by rw [hnl]; decide) rfl dX11_unnamed_8 ?_
    refine go_sub [2, 1, 0] rfl ?_
    obtain ⟨n_0, hw⟩ := hw
    exact (gbX11_unnamed_9 C hr hR hnl hd hN) n_0 _ _ _ hw
-- CradleNames.weighAll(III)Z
set_option maxRecDepth 20000 in
set_option maxHeartbeats 4000000 in
theorem gbX11_weighAll_69 {X : XT} {G : GT} {l : Launch} {d : Nat}  {post : Int32 → St → Prop} (C : Cx X G cX11_weighAll RX11) (hr : Rt X G (some .boolean) (fun v τ => ∃ r : Int32, v = some (.int r) ∧ post r τ)) (hR : Rm X l d) (hnl : X.2.2.2.2.2.2.2.2.2.2.1 = 6)  (hd : 5 ≤ d) (hN : 75 ≤ G.2.2.2.2.2)   
    : ∀ (n : Nat) (v5 : Int32) (σ : St), wbX11_weighAll_69   post n v5 σ → Go X G 69 [(0, .ref (G.2.2.1 0)), (5, .int v5)] [] σ := by
  intro n
  induction n with
  | zero => intro v5 σ hw; exact hw.elim
  | succ n ih =>
    intro v5 σ hw
    have hw : (((gI σ 1 0) ≤ v5 →
      post 1 σ) ∧
    (¬ (gI σ 1 0) ≤ v5 →
      wpX3_weigh v5 σ (fun σ_2 =>
      ∀ v5_3 : Int32, v5_3 = v5 + 1 →
      wbX11_weighAll_69 post n v5_3 σ_2))) := hw
    refine go_iload C 1 rfl dX11_weighAll_69 ?_
    refine go_aload_n C 0 rfl rfl dX11_weighAll_71 ?_
    refine go_get (v := .ref (G.2.2.1 1)) C (shX11 G) (ltX11 hN) lkX11_10 rfl dX11_weighAll_72 ?_
    refine go_get (v := .int (gI σ 1 0)) C (shX5 G) (ltX5 hN) lkX11_109 rfl dX11_weighAll_75 ?_
    refine go_icmp_ge C 96 rfl dX11_weighAll_78 (fun hc => ?_) (fun hc => ?_)
    · replace hw := hw.1 hc
      refine go_iconst (v := 1) C rfl dX11_weighAll_96 ?_
      exact go_zret C hr rfl ⟨_, rfl, hw⟩ dX11_weighAll_97
    · replace hw := hw.2 hc
      refine go_aload_n C 0 rfl rfl dX11_weighAll_81 ?_
      refine go_get (v := .ref (G.2.2.1 47)) C (shX11 G) (ltX11 hN) lkX11_54 rfl dX11_weighAll_82 ?_
      refine go_iload C 1 rfl dX11_weighAll_85 ?_
      refine go_callV (as := [.int v5]) C hR (shX3 G) (ltX3 hN) cwX11_381 (Nat.le_trans (by decide) hd) (by decide) rfl rfl (Nat.le_of_ble_eq_true rfl) dX11_weighAll_87 (spX3_weigh (Nat.le_refl _) hN hw) (fun v_ τ_ hw => ?_)
      obtain ⟨rfl, hw⟩ := hw
      obtain ⟨σ_2, rfl⟩ : ∃ z, z = τ_ := ⟨_, rfl⟩
      obtain ⟨v5_3, ev5_3⟩ : ∃ z : Int32, z = v5 + 1 := ⟨_, rfl⟩
      replace hw := hw v5_3 ev5_3
      refine go_iinc (v := v5_3) (lv2 := [(5, .int v5_3), (0, .ref (G.2.2.1 0))]) C 1 rfl (by rw [ev5_3]; rfl) (by rw [hnl]; decide) rfl dX11_weighAll_90 ?_
      refine go_goto C 69 rfl dX11_weighAll_93 ?_
      refine go_sub [1, 0] rfl ?_
      exact ih _ _ hw
set_option maxRecDepth 20000 in
set_option maxHeartbeats 4000000 in
theorem spX11_weighAll {l : Launch} {G : GT} {d : Nat}  (hd : 5 ≤ d)  (hN : 75 ≤ G.2.2.2.2.2)  {a1 : Int32} {a2 : Int32} {a3 : Int32} {σ : St} {post : Int32 → St → Prop} (hw : wpX11_weighAll  a1 a2 a3 σ post) : Sp l G d yX11_weighAll cX11_weighAll 6 (some .boolean) [.ref (G.2.2.1 0), .int a1, .int a2, .int a3] σ (fun v τ => ∃ r : Int32, v = some (.int r) ∧ post r τ) := by
  refine Sp.of (by decide) (Nat.le_of_ble_eq_true rfl) fun X C hr hR hnl => ?_
  show Go X G 0 [(0, .ref (G.2.2.1 0)), (1, .int a1), (2, .int a2), (3, .int a3)] [] σ
  have hw : vp_in a2 2 ∧ (
  ∀ v4_1 : Int32, v4_1 = (gI σ 13 a2.toNatClampNeg) →
  ((v4_1 = (-1) →
    post 0 σ) ∧
  (¬ v4_1 = (-1) →
    (((gI σ 9 0) ≤ 60 →
      wpX3_stand 0 (gI σ 9 0) a1 a2 a3 σ (fun σ_3 =>
      vp_in v4_1 6 ∧ (
      ∀ σ_5 : St, σ_5 = sR σ_3 47 5 (some (30 + 2 * v4_1.toNatClampNeg)) →
      ∃ m_69, wbX11_weighAll_69 post m_69 0 σ_5))) ∧
    (¬ (gI σ 9 0) ≤ 60 →
      post 0 σ))))) := hw
  refine go_aload_n C 0 rfl rfl dX11_weighAll_0 ?_
  refine go_get (v := .ref (G.2.2.1 9)) C (shX11 G) (ltX11 hN) lkX11_19 rfl dX11_weighAll_1 ?_
  refine go_get (v := .ref (G.2.2.1 13)) C (shX4 G) (ltX4 hN) lkX11_212 rfl dX11_weighAll_4 ?_
  refine go_iload_n C 2 rfl rfl dX11_weighAll_7 ?_
  refine go_iald C (saX4_heldNow G) (laX4_heldNow hN) hw.1 dX11_weighAll_8 ?_
  replace hw := hw.2
  refine go_topi (fun v4_1 ev4_1 => ?_)
  replace hw := hw v4_1 ev4_1
  refine go_istore (lv2 := [(4, .int v4_1), (0, .ref (G.2.2.1 0)), (1, .int a1), (2, .int a2), (3, .int a3)]) C (by rw [hnl]; decide) rfl dX11_weighAll_9 ?_
  refine go_iload C 0 rfl dX11_weighAll_11 ?_
  refine go_iconst (v := (-1)) C rfl dX11_weighAll_13 ?_
  refine go_icmp_eq C 29 rfl dX11_weighAll_14 (fun hc => ?_) (fun hc => ?_)
  · replace hw := hw.1 hc
    refine go_iconst (v := 0) C rfl dX11_weighAll_29 ?_
    exact go_zret C hr rfl ⟨_, rfl, hw⟩ dX11_weighAll_30
  · replace hw := hw.2 hc
    refine go_aload_n C 1 rfl rfl dX11_weighAll_17 ?_
    refine go_get (v := .ref (G.2.2.1 9)) C (shX11 G) (ltX11 hN) lkX11_19 rfl dX11_weighAll_18 ?_
    refine go_get (v := .int (gI σ 9 0)) C (shX4 G) (ltX4 hN) lkX11_120 rfl dX11_weighAll_21 ?_
    refine go_bipush (v := 60) C rfl dX11_weighAll_24 ?_
    refine go_icmp_le C 31 rfl dX11_weighAll_26 (fun hc => ?_) (fun hc => ?_)
    · replace hw := hw.1 hc
      refine go_aload_n C 1 rfl rfl dX11_weighAll_31 ?_
      refine go_get (v := .ref (G.2.2.1 47)) C (shX11 G) (ltX11 hN) lkX11_54 rfl dX11_weighAll_32 ?_
      refine go_aload_n C 1 rfl rfl dX11_weighAll_35 ?_
      refine go_get (v := .ref (G.2.2.1 (21 + 4 * 0))) C (shX11 G) (ltX11 hN) lkX11_26 rfl dX11_weighAll_36 ?_
      refine go_aload_n C 1 rfl rfl dX11_weighAll_39 ?_
      refine go_get (v := .ref (G.2.2.1 9)) C (shX11 G) (ltX11 hN) lkX11_19 rfl dX11_weighAll_40 ?_
      refine go_get (v := .int (gI σ 9 0)) C (shX4 G) (ltX4 hN) lkX11_120 rfl dX11_weighAll_43 ?_
      refine go_iload_n C 2 rfl rfl dX11_weighAll_46 ?_
      refine go_iload_n C 3 rfl rfl dX11_weighAll_47 ?_
      refine go_iload_n C 4 rfl rfl dX11_weighAll_48 ?_
      refine go_callV (as := [.ref (G.2.2.1 (21 + 4 * 0)), .int (gI σ 9 0), .int a1, .int a2, .int a3]) C hR (shX3 G) (ltX3 hN) cwX11_373 (Nat.le_trans (by decide) hd) (by decide) rfl rfl (Nat.le_of_ble_eq_true rfl) dX11_weighAll_49 (spX3_stand (Nat.le_refl _) hN (show 0 < 2 by decide) hw) (fun v_ τ_ hw => ?_)
      obtain ⟨rfl, hw⟩ := hw
      obtain ⟨σ_3, rfl⟩ : ∃ z, z = τ_ := ⟨_, rfl⟩
      refine go_aload_n C 1 rfl rfl dX11_weighAll_52 ?_
      refine go_get (v := .ref (G.2.2.1 47)) C (shX11 G) (ltX11 hN) lkX11_54 rfl dX11_weighAll_53 ?_
      refine go_aload_n C 1 rfl rfl dX11_weighAll_56 ?_
      refine go_get (v := .ref (G.2.2.1 29)) C (shX11 G) (ltX11 hN) lkX11_35 rfl dX11_weighAll_57 ?_
      refine go_iload C 0 rfl dX11_weighAll_60 ?_
      have ht_4 := vp_in_lt hw.1
      refine go_tald C hN hw.1 dX11_weighAll_62 ?_
      replace hw := hw.2
      refine go_putr C (shX3 G) (ltX3 hN) lpX11_377 (show 5 < 14 by decide) (pxX3_5 G _ _) dX11_weighAll_63 (go_nm fun σ_5 eσ_5 => ?_)
      replace hw := hw σ_5 eσ_5
      refine go_iconst (v := 0) C rfl dX11_weighAll_66 ?_
      refine go_istore (lv2 := [(5, .int 0), (4, .int v4_1), (0, .ref (G.2.2.1 0)), (1, .int a1), (2, .int a2), (3, .int a3)]) C (by rw [hnl]; decide) rfl dX11_weighAll_67 ?_
      refine go_sub [2, 0] rfl ?_
      obtain ⟨n_0, hw⟩ := hw
      exact (gbX11_weighAll_69 C hr hR hnl hd hN) n_0 _ _ hw
    · replace hw := hw.2 hc
      refine go_iconst (v := 0) C rfl dX11_weighAll_29 ?_
      exact go_zret C hr rfl ⟨_, rfl, hw⟩ dX11_weighAll_30
-- CradleNames.now(IIII)I
set_option maxRecDepth 20000 in
set_option maxHeartbeats 4000000 in
theorem spX11_now {l : Launch} {G : GT} {d : Nat}  (hd : 6 ≤ d)  (hN : 75 ≤ G.2.2.2.2.2)  {a1 : Int32} {a2 : Int32} {a3 : Int32} {a4 : Int32} {σ : St} {post : Int32 → St → Prop} (hw : wpX11_now  a1 a2 a3 a4 σ post) : Sp l G d yX11_now cX11_now 6 (some .int) [.ref (G.2.2.1 0), .int a1, .int a2, .int a3, .int a4] σ (fun v τ => ∃ r : Int32, v = some (.int r) ∧ post r τ) := by
  refine Sp.of (by decide) (Nat.le_of_ble_eq_true rfl) fun X C hr hR hnl => ?_
  show Go X G 0 [(0, .ref (G.2.2.1 0)), (1, .int a1), (2, .int a2), (3, .int a3), (4, .int a4)] [] σ
  have hw : wpX11_isRow a1 a2 a3 σ (fun r_1 σ_2 =>
  ((r_1 = 0 →
    post (-2000000000) σ_2) ∧
  (¬ r_1 = 0 →
    wpX11_weighAll a1 a2 a3 σ_2 (fun r_3 σ_4 =>
    ((¬ r_3 = 0 →
      ((¬ a4 = 0 →
        ((¬ a4 = 1 →
          wpX11_within a4 100 (99 + (gI σ_4 1 0)) σ_4 (fun r_5 σ_6 =>
          ((r_5 = 0 →
            wpX11_within a4 200 (199 + (gI σ_6 1 0)) σ_6 (fun r_7 σ_8 =>
            ((r_7 = 0 →
              post (-2000000000) σ_8) ∧
            (¬ r_7 = 0 →
              vp_in (a4 - 200) 16 ∧ (
              (((gI σ_8 50 (a4 - 200).toNatClampNeg) = 0 →
                post 0 σ_8) ∧
              (¬ (gI σ_8 50 (a4 - 200).toNatClampNeg) = 0 →
                post 1 σ_8))))))) ∧
          (¬ r_5 = 0 →
            vp_in (a4 - 100) 16 ∧ (
            post (gI σ_6 49 (a4 - 100).toNatClampNeg) σ_6))))) ∧
        (a4 = 1 →
          wpX3_pick  σ_4 (fun r_9 σ_10 =>
          ((¬ r_9 = (-1) →
            vp_in r_9 16 ∧ (
            post (gI σ_10 49 r_9.toNatClampNeg) σ_10)) ∧
          (r_9 = (-1) →
            post (-2000000000) σ_10)))))) ∧
      (a4 = 0 →
        wpX3_pick  σ_4 (fun r_11 σ_12 =>
        post r_11 σ_12)))) ∧
    (r_3 = 0 →
      post (-2000000000) σ_4)))))) := hw
  refine go_iload_n C 1 rfl rfl dX11_now_0 ?_
  refine go_iload_n C 2 rfl rfl dX11_now_1 ?_
  refine go_iload_n C 3 rfl rfl dX11_now_2 ?_
  refine go_callS (as := [.int a1, .int a2, .int a3]) C hR cwX11_153 (Nat.le_trans (by decide) hd) (by decide) rfl rfl (Nat.le_of_ble_eq_true rfl) dX11_now_3 (spX11_isRow (Nat.le_refl _) hN hw) (fun v_ τ_ hw => ?_)
  obtain ⟨r_1, rfl, hw⟩ := hw
  obtain ⟨σ_2, rfl⟩ : ∃ z, z = τ_ := ⟨_, rfl⟩
  refine go_if_eq C 19 rfl dX11_now_6 (fun hc => ?_) (fun hc => ?_)
  · replace hw := hw.1 hc
    refine go_ldc (v := (-2000000000)) C kcX11_249 dX11_now_19 ?_
    exact go_iret C hr ⟨_, rfl, hw⟩ dX11_now_21
  · replace hw := hw.2 hc
    refine go_aload_n C 0 rfl rfl dX11_now_9 ?_
    refine go_iload_n C 1 rfl rfl dX11_now_10 ?_
    refine go_iload_n C 2 rfl rfl dX11_now_11 ?_
    refine go_iload_n C 3 rfl rfl dX11_now_12 ?_
    refine go_callV (as := [.int a1, .int a2, .int a3]) C hR (shX11 G) (ltX11 hN) cwX11_246 (Nat.le_trans (by decide) hd) (by decide) rfl rfl (Nat.le_of_ble_eq_true rfl) dX11_now_13 (spX11_weighAll (Nat.le_refl _) hN hw) (fun v_ τ_ hw => ?_)
    obtain ⟨r_3, rfl, hw⟩ := hw
    obtain ⟨σ_4, rfl⟩ : ∃ z, z = τ_ := ⟨_, rfl⟩
    refine go_if_ne C 22 rfl dX11_now_16 (fun hc => ?_) (fun hc => ?_)
    · replace hw := hw.1 hc
      refine go_iload C 4 rfl dX11_now_22 ?_
      refine go_if_ne C 35 rfl dX11_now_24 (fun hc => ?_) (fun hc => ?_)
      · replace hw := hw.1 hc
        refine go_iload C 4 rfl dX11_now_35 ?_
        refine go_iconst (v := 1) C rfl dX11_now_37 ?_
        refine go_icmp_ne C 72 rfl dX11_now_38 (fun hc => ?_) (fun hc => ?_)
        · replace hw := hw.1 hc
          refine go_iload C 4 rfl dX11_now_72 ?_
          refine go_bipush (v := 100) C rfl dX11_now_74 ?_
          refine go_bipush (v := 99) C rfl dX11_now_76 ?_
          refine go_aload_n C 0 rfl rfl dX11_now_78 ?_
          refine go_get (v := .ref (G.2.2.1 1)) C (shX11 G) (ltX11 hN) lkX11_10 rfl dX11_now_79 ?_
          refine go_get (v := .int (gI σ_4 1 0)) C (shX5 G) (ltX5 hN) lkX11_109 rfl dX11_now_82 ?_
          refine go_iadd C dX11_now_85 ?_
          refine go_callS (as := [.int a4, .int 100, .int (99 + (gI σ_4 1 0))]) C hR cwX11_105 (Nat.le_trans (by decide) hd) (by decide) rfl rfl (Nat.le_of_ble_eq_true rfl) dX11_now_86 (spX11_within (Nat.le_refl _) hN hw) (fun v_ τ_ hw => ?_)
          obtain ⟨r_5, rfl, hw⟩ := hw
          obtain ⟨σ_6, rfl⟩ : ∃ z, z = τ_ := ⟨_, rfl⟩
          refine go_if_eq C 106 rfl dX11_now_89 (fun hc => ?_) (fun hc => ?_)
          · replace hw := hw.1 hc
            refine go_iload C 4 rfl dX11_now_106 ?_
            refine go_sipush (v := 200) C rfl dX11_now_108 ?_
            refine go_sipush (v := 199) C rfl dX11_now_111 ?_
            refine go_aload_n C 0 rfl rfl dX11_now_114 ?_
            refine go_get (v := .ref (G.2.2.1 1)) C (shX11 G) (ltX11 hN) lkX11_10 rfl dX11_now_115 ?_
            refine go_get (v := .int (gI σ_6 1 0)) C (shX5 G) (ltX5 hN) lkX11_109 rfl dX11_now_118 ?_
            refine go_iadd C dX11_now_121 ?_
            refine go_callS (as := [.int a4, .int 200, .int (199 + (gI σ_6 1 0))]) C hR cwX11_105 (Nat.le_trans (by decide) hd) (by decide) rfl rfl (Nat.le_of_ble_eq_true rfl) dX11_now_122 (spX11_within (Nat.le_refl _) hN hw) (fun v_ τ_ hw => ?_)
            obtain ⟨r_7, rfl, hw⟩ := hw
            obtain ⟨σ_8, rfl⟩ : ∃ z, z = τ_ := ⟨_, rfl⟩
            refine go_if_eq C 151 rfl dX11_now_125 (fun hc => ?_) (fun hc => ?_)
            · replace hw := hw.1 hc
              refine go_ldc (v := (-2000000000)) C kcX11_249 dX11_now_151 ?_
              exact go_iret C hr ⟨_, rfl, hw⟩ dX11_now_153
            · replace hw := hw.2 hc
              refine go_aload_n C 0 rfl rfl dX11_now_128 ?_
              refine go_get (v := .ref (G.2.2.1 47)) C (shX11 G) (ltX11 hN) lkX11_54 rfl dX11_now_129 ?_
              refine go_get (v := .ref (G.2.2.1 50)) C (shX3 G) (ltX3 hN) lkX11_257 rfl dX11_now_132 ?_
              refine go_iload C 4 rfl dX11_now_135 ?_
              refine go_sipush (v := 200) C rfl dX11_now_137 ?_
              refine go_isub C dX11_now_140 ?_
              refine go_zald C (saX3_mays G) (laX3_mays hN) hw.1 dX11_now_141 ?_
              replace hw := hw.2
              refine go_if_eq C 149 rfl dX11_now_142 (fun hc => ?_) (fun hc => ?_)
              · replace hw := hw.1 hc
                refine go_iconst (v := 0) C rfl dX11_now_149 ?_
                exact go_iret C hr ⟨_, rfl, hw⟩ dX11_now_150
              · replace hw := hw.2 hc
                refine go_iconst (v := 1) C rfl dX11_now_145 ?_
                refine go_goto C 150 rfl dX11_now_146 ?_
                exact go_iret C hr ⟨_, rfl, hw⟩ dX11_now_150
          · replace hw := hw.2 hc
            refine go_aload_n C 0 rfl rfl dX11_now_92 ?_
            refine go_get (v := .ref (G.2.2.1 47)) C (shX11 G) (ltX11 hN) lkX11_54 rfl dX11_now_93 ?_
            refine go_get (v := .ref (G.2.2.1 49)) C (shX3 G) (ltX3 hN) lkX11_254 rfl dX11_now_96 ?_
            refine go_iload C 4 rfl dX11_now_99 ?_
            refine go_bipush (v := 100) C rfl dX11_now_101 ?_
            refine go_isub C dX11_now_103 ?_
            refine go_iald C (saX3_worths G) (laX3_worths hN) hw.1 dX11_now_104 ?_
            replace hw := hw.2
            exact go_iret C hr ⟨_, rfl, hw⟩ dX11_now_105
        · replace hw := hw.2 hc
          refine go_aload_n C 0 rfl rfl dX11_now_41 ?_
          refine go_get (v := .ref (G.2.2.1 47)) C (shX11 G) (ltX11 hN) lkX11_54 rfl dX11_now_42 ?_
          refine go_callV (as := []) C hR (shX3 G) (ltX3 hN) cwX11_250 (Nat.le_trans (by decide) hd) (by decide) rfl rfl (Nat.le_of_ble_eq_true rfl) dX11_now_45 (spX3_pick (Nat.le_refl _) hN hw) (fun v_ τ_ hw => ?_)
          obtain ⟨r_9, rfl, hw⟩ := hw
          obtain ⟨σ_10, rfl⟩ : ∃ z, z = τ_ := ⟨_, rfl⟩
          refine go_istore (lv2 := [(5, .int r_9), (0, .ref (G.2.2.1 0)), (1, .int a1), (2, .int a2), (3, .int a3), (4, .int a4)]) C (by rw [hnl]; decide) rfl dX11_now_48 ?_
          refine go_iload C 0 rfl dX11_now_50 ?_
          refine go_iconst (v := (-1)) C rfl dX11_now_52 ?_
          refine go_icmp_ne C 61 rfl dX11_now_53 (fun hc => ?_) (fun hc => ?_)
          · replace hw := hw.1 hc
            refine go_aload_n C 1 rfl rfl dX11_now_61 ?_
            refine go_get (v := .ref (G.2.2.1 47)) C (shX11 G) (ltX11 hN) lkX11_54 rfl dX11_now_62 ?_
            refine go_get (v := .ref (G.2.2.1 49)) C (shX3 G) (ltX3 hN) lkX11_254 rfl dX11_now_65 ?_
            refine go_iload C 0 rfl dX11_now_68 ?_
            refine go_iald C (saX3_worths G) (laX3_worths hN) hw.1 dX11_now_70 ?_
            replace hw := hw.2
            exact go_iret C hr ⟨_, rfl, hw⟩ dX11_now_71
          · replace hw := hw.2 hc
            refine go_ldc (v := (-2000000000)) C kcX11_249 dX11_now_56 ?_
            refine go_goto C 71 rfl dX11_now_58 ?_
            exact go_iret C hr ⟨_, rfl, hw⟩ dX11_now_71
      · replace hw := hw.2 hc
        refine go_aload_n C 0 rfl rfl dX11_now_27 ?_
        refine go_get (v := .ref (G.2.2.1 47)) C (shX11 G) (ltX11 hN) lkX11_54 rfl dX11_now_28 ?_
        refine go_callV (as := []) C hR (shX3 G) (ltX3 hN) cwX11_250 (Nat.le_trans (by decide) hd) (by decide) rfl rfl (Nat.le_of_ble_eq_true rfl) dX11_now_31 (spX3_pick (Nat.le_refl _) hN hw) (fun v_ τ_ hw => ?_)
        obtain ⟨r_11, rfl, hw⟩ := hw
        obtain ⟨σ_12, rfl⟩ : ∃ z, z = τ_ := ⟨_, rfl⟩
        exact go_iret C hr ⟨_, rfl, hw⟩ dX11_now_34
    · replace hw := hw.2 hc
      refine go_ldc (v := (-2000000000)) C kcX11_249 dX11_now_19 ?_
      exact go_iret C hr ⟨_, rfl, hw⟩ dX11_now_21
-- CradleNames.shape(II)I
set_option maxRecDepth 20000 in
set_option maxHeartbeats 4000000 in
theorem gbX11_shape_73 {X : XT} {G : GT} {l : Launch} {d : Nat}  {post : Int32 → St → Prop} (C : Cx X G cX11_shape RX11) (hr : Rt X G (some .int) (fun v τ => ∃ r : Int32, v = some (.int r) ∧ post r τ)) (hR : Rm X l d) (hnl : X.2.2.2.2.2.2.2.2.2.2.1 = 4)  (hd : 4 ≤ d) (hN : 75 ≤ G.2.2.2.2.2)   
    : ∀ (s0 : Int32) (s1 : Int32) (s2 : Int32) (σ : St), wbX11_shape_73   post s0 s1 s2 σ → Go X G 73 [] [.int s0, .int s1, .int s2, .ref (G.2.2.1 52)] σ := by
  intro s0 s1 s2 σ hw
  have hw : wpX10_slope s2 s1 s0 σ (fun r_1 σ_2 =>
  post r_1 σ_2) := hw
  refine go_callV (as := [.int s2, .int s1, .int s0]) C hR (shX10 G) (ltX10 hN) cwX11_267 (Nat.le_trans (by decide) hd) (by decide) rfl rfl (Nat.le_of_ble_eq_true rfl) dX11_shape_73 (spX10_slope (Nat.le_refl _) hN hw) (fun v_ τ_ hw => ?_)
  obtain ⟨r_1, rfl, hw⟩ := hw
  obtain ⟨σ_2, rfl⟩ : ∃ z, z = τ_ := ⟨_, rfl⟩
  exact go_iret C hr ⟨_, rfl, hw⟩ dX11_shape_76
set_option maxRecDepth 20000 in
set_option maxHeartbeats 4000000 in
theorem spX11_shape {l : Launch} {G : GT} {d : Nat}  (hd : 4 ≤ d)  (hN : 75 ≤ G.2.2.2.2.2)  {a1 : Int32} {a2 : Int32} {σ : St} {post : Int32 → St → Prop} (hw : wpX11_shape  a1 a2 σ post) : Sp l G d yX11_shape cX11_shape 4 (some .int) [.ref (G.2.2.1 0), .int a1, .int a2] σ (fun v τ => ∃ r : Int32, v = some (.int r) ∧ post r τ) := by
  refine Sp.of (by decide) (Nat.le_of_ble_eq_true rfl) fun X C hr hR hnl => ?_
  show Go X G 0 [(0, .ref (G.2.2.1 0)), (1, .int a1), (2, .int a2)] [] σ
  have hw : wpX5_has a1 σ (fun r_1 σ_2 =>
  ((r_1 = 0 →
    post (-1) σ_2) ∧
  (¬ r_1 = 0 →
    wpX11_within a2 0 3 σ_2 (fun r_3 σ_4 =>
    ((¬ r_3 = 0 →
      wpX10_peak a1 σ_4 (fun r_5 σ_6 =>
      ((r_5 = (-1) →
        post r_5 σ_6) ∧
      (¬ r_5 = (-1) →
        ((¬ a2 = 0 →
          ((¬ a2 = 1 →
            ((¬ a2 = 2 →
              wbX11_shape_73 post 1 r_5 a1 σ_6) ∧
            (a2 = 2 →
              wbX11_shape_73 post (-1) r_5 a1 σ_6))) ∧
          (a2 = 1 →
            wpX10_in a1 r_5 σ_6 (fun r_7 σ_8 =>
            post r_7 σ_8)))) ∧
        (a2 = 0 →
          post r_5 σ_6)))))) ∧
    (r_3 = 0 →
      post (-1) σ_4)))))) := hw
  refine go_aload_n C 0 rfl rfl dX11_shape_0 ?_
  refine go_get (v := .ref (G.2.2.1 1)) C (shX11 G) (ltX11 hN) lkX11_10 rfl dX11_shape_1 ?_
  refine go_iload_n C 1 rfl rfl dX11_shape_4 ?_
  refine go_callV (as := [.int a1]) C hR (shX5 G) (ltX5 hN) cwX11_127 (Nat.le_trans (by decide) hd) (by decide) rfl rfl (Nat.le_of_ble_eq_true rfl) dX11_shape_5 (spX5_has (Nat.le_refl _) hN hw) (fun v_ τ_ hw => ?_)
  obtain ⟨r_1, rfl, hw⟩ := hw
  obtain ⟨σ_2, rfl⟩ : ∃ z, z = τ_ := ⟨_, rfl⟩
  refine go_if_eq C 20 rfl dX11_shape_8 (fun hc => ?_) (fun hc => ?_)
  · replace hw := hw.1 hc
    refine go_iconst (v := (-1)) C rfl dX11_shape_20 ?_
    exact go_iret C hr ⟨_, rfl, hw⟩ dX11_shape_21
  · replace hw := hw.2 hc
    refine go_iload_n C 2 rfl rfl dX11_shape_11 ?_
    refine go_iconst (v := 0) C rfl dX11_shape_12 ?_
    refine go_iconst (v := 3) C rfl dX11_shape_13 ?_
    refine go_callS (as := [.int a2, .int 0, .int 3]) C hR cwX11_105 (Nat.le_trans (by decide) hd) (by decide) rfl rfl (Nat.le_of_ble_eq_true rfl) dX11_shape_14 (spX11_within (Nat.le_refl _) hN hw) (fun v_ τ_ hw => ?_)
    obtain ⟨r_3, rfl, hw⟩ := hw
    obtain ⟨σ_4, rfl⟩ : ∃ z, z = τ_ := ⟨_, rfl⟩
    refine go_if_ne C 22 rfl dX11_shape_17 (fun hc => ?_) (fun hc => ?_)
    · replace hw := hw.1 hc
      refine go_aload_n C 0 rfl rfl dX11_shape_22 ?_
      refine go_get (v := .ref (G.2.2.1 52)) C (shX11 G) (ltX11 hN) lkX11_72 rfl dX11_shape_23 ?_
      refine go_iload_n C 1 rfl rfl dX11_shape_26 ?_
      refine go_callV (as := [.int a1]) C hR (shX10 G) (ltX10 hN) cwX11_261 (Nat.le_trans (by decide) hd) (by decide) rfl rfl (Nat.le_of_ble_eq_true rfl) dX11_shape_27 (spX10_peak (Nat.le_refl _) hN hw) (fun v_ τ_ hw => ?_)
      obtain ⟨r_5, rfl, hw⟩ := hw
      obtain ⟨σ_6, rfl⟩ : ∃ z, z = τ_ := ⟨_, rfl⟩
      refine go_istore_n (lv2 := [(3, .int r_5), (0, .ref (G.2.2.1 0)), (1, .int a1), (2, .int a2)]) C rfl (by rw [hnl]; decide) rfl dX11_shape_30 ?_
      refine go_iload_n C 0 rfl rfl dX11_shape_31 ?_
      refine go_iconst (v := (-1)) C rfl dX11_shape_32 ?_
      refine go_icmp_eq C 40 rfl dX11_shape_33 (fun hc => ?_) (fun hc => ?_)
      · replace hw := hw.1 hc
        refine go_iload_n C 0 rfl rfl dX11_shape_40 ?_
        exact go_iret C hr ⟨_, rfl, hw⟩ dX11_shape_41
      · replace hw := hw.2 hc
        refine go_iload_n C 3 rfl rfl dX11_shape_36 ?_
        refine go_if_ne C 42 rfl dX11_shape_37 (fun hc => ?_) (fun hc => ?_)
        · replace hw := hw.1 hc
          refine go_iload_n C 3 rfl rfl dX11_shape_42 ?_
          refine go_iconst (v := 1) C rfl dX11_shape_43 ?_
          refine go_icmp_ne C 57 rfl dX11_shape_44 (fun hc => ?_) (fun hc => ?_)
          · replace hw := hw.1 hc
            refine go_aload_n C 1 rfl rfl dX11_shape_57 ?_
            refine go_get (v := .ref (G.2.2.1 52)) C (shX11 G) (ltX11 hN) lkX11_72 rfl dX11_shape_58 ?_
            refine go_iload_n C 2 rfl rfl dX11_shape_61 ?_
            refine go_iload_n C 0 rfl rfl dX11_shape_62 ?_
            refine go_iload_n C 3 rfl rfl dX11_shape_63 ?_
            refine go_iconst (v := 2) C rfl dX11_shape_64 ?_
            refine go_icmp_ne C 72 rfl dX11_shape_65 (fun hc => ?_) (fun hc => ?_)
            · replace hw := hw.1 hc
              refine go_iconst (v := 1) C rfl dX11_shape_72 ?_
              refine go_sub [] rfl ?_
              exact (gbX11_shape_73 C hr hR hnl hd hN) _ _ _ _ hw
            · replace hw := hw.2 hc
              refine go_iconst (v := (-1)) C rfl dX11_shape_68 ?_
              refine go_goto C 73 rfl dX11_shape_69 ?_
              refine go_sub [] rfl ?_
              exact (gbX11_shape_73 C hr hR hnl hd hN) _ _ _ _ hw
          · replace hw := hw.2 hc
            refine go_aload_n C 1 rfl rfl dX11_shape_47 ?_
            refine go_get (v := .ref (G.2.2.1 52)) C (shX11 G) (ltX11 hN) lkX11_72 rfl dX11_shape_48 ?_
            refine go_iload_n C 2 rfl rfl dX11_shape_51 ?_
            refine go_iload_n C 0 rfl rfl dX11_shape_52 ?_
            refine go_callV (as := [.int a1, .int r_5]) C hR (shX10 G) (ltX10 hN) cwX11_264 (Nat.le_trans (by decide) hd) (by decide) rfl rfl (Nat.le_of_ble_eq_true rfl) dX11_shape_53 (spX10_in (Nat.le_refl _) hN hw) (fun v_ τ_ hw => ?_)
            obtain ⟨r_7, rfl, hw⟩ := hw
            obtain ⟨σ_8, rfl⟩ : ∃ z, z = τ_ := ⟨_, rfl⟩
            exact go_iret C hr ⟨_, rfl, hw⟩ dX11_shape_56
        · replace hw := hw.2 hc
          refine go_iload_n C 0 rfl rfl dX11_shape_40 ?_
          exact go_iret C hr ⟨_, rfl, hw⟩ dX11_shape_41
    · replace hw := hw.2 hc
      refine go_iconst (v := (-1)) C rfl dX11_shape_20 ?_
      exact go_iret C hr ⟨_, rfl, hw⟩ dX11_shape_21
-- CradleNames.shapes(I)I
set_option maxRecDepth 20000 in
set_option maxHeartbeats 4000000 in
theorem gbX11_shapes_22 {X : XT} {G : GT} {l : Launch} {d : Nat}  {post : Int32 → St → Prop} (C : Cx X G cX11_shapes RX11) (hr : Rt X G (some .int) (fun v τ => ∃ r : Int32, v = some (.int r) ∧ post r τ)) (hR : Rm X l d) (hnl : X.2.2.2.2.2.2.2.2.2.2.1 = 2)  (hd : 5 ≤ d) (hN : 75 ≤ G.2.2.2.2.2)   
    : ∀ (s0 : Int32) (σ : St), wbX11_shapes_22   post s0 σ → Go X G 22 [] [.int s0, .ref (G.2.2.1 52)] σ := by
  intro s0 σ hw
  have hw : wpX10_pairs s0 σ (fun r_1 σ_2 =>
  post r_1 σ_2) := hw
  refine go_callV (as := [.int s0]) C hR (shX10 G) (ltX10 hN) cwX11_270 (Nat.le_trans (by decide) hd) (by decide) rfl rfl (Nat.le_of_ble_eq_true rfl) dX11_shapes_22 (spX10_pairs (Nat.le_refl _) hN hw) (fun v_ τ_ hw => ?_)
  obtain ⟨r_1, rfl, hw⟩ := hw
  obtain ⟨σ_2, rfl⟩ : ∃ z, z = τ_ := ⟨_, rfl⟩
  refine go_goto C 29 rfl dX11_shapes_25 ?_
  exact go_iret C hr ⟨_, rfl, hw⟩ dX11_shapes_29
set_option maxRecDepth 20000 in
set_option maxHeartbeats 4000000 in
theorem spX11_shapes {l : Launch} {G : GT} {d : Nat}  (hd : 5 ≤ d)  (hN : 75 ≤ G.2.2.2.2.2)  {a1 : Int32} {σ : St} {post : Int32 → St → Prop} (hw : wpX11_shapes  a1 σ post) : Sp l G d yX11_shapes cX11_shapes 2 (some .int) [.ref (G.2.2.1 0), .int a1] σ (fun v τ => ∃ r : Int32, v = some (.int r) ∧ post r τ) := by
  refine Sp.of (by decide) (Nat.le_of_ble_eq_true rfl) fun X C hr hR hnl => ?_
  show Go X G 0 [(0, .ref (G.2.2.1 0)), (1, .int a1)] [] σ
  have hw : wpX11_within a1 0 1 σ (fun r_1 σ_2 =>
  ((r_1 = 0 →
    post (-1) σ_2) ∧
  (¬ r_1 = 0 →
    ((¬ a1 = 0 →
      wbX11_shapes_22 post 0 σ_2) ∧
    (a1 = 0 →
      wbX11_shapes_22 post 1 σ_2))))) := hw
  refine go_iload_n C 1 rfl rfl dX11_shapes_0 ?_
  refine go_iconst (v := 0) C rfl dX11_shapes_1 ?_
  refine go_iconst (v := 1) C rfl dX11_shapes_2 ?_
  refine go_callS (as := [.int a1, .int 0, .int 1]) C hR cwX11_105 (Nat.le_trans (by decide) hd) (by decide) rfl rfl (Nat.le_of_ble_eq_true rfl) dX11_shapes_3 (spX11_within (Nat.le_refl _) hN hw) (fun v_ τ_ hw => ?_)
  obtain ⟨r_1, rfl, hw⟩ := hw
  obtain ⟨σ_2, rfl⟩ : ∃ z, z = τ_ := ⟨_, rfl⟩
  refine go_if_eq C 28 rfl dX11_shapes_6 (fun hc => ?_) (fun hc => ?_)
  · replace hw := hw.1 hc
    refine go_iconst (v := (-1)) C rfl dX11_shapes_28 ?_
    exact go_iret C hr ⟨_, rfl, hw⟩ dX11_shapes_29
  · replace hw := hw.2 hc
    refine go_aload_n C 0 rfl rfl dX11_shapes_9 ?_
    refine go_get (v := .ref (G.2.2.1 52)) C (shX11 G) (ltX11 hN) lkX11_72 rfl dX11_shapes_10 ?_
    refine go_iload_n C 1 rfl rfl dX11_shapes_13 ?_
    refine go_if_ne C 21 rfl dX11_shapes_14 (fun hc => ?_) (fun hc => ?_)
    · replace hw := hw.1 hc
      refine go_iconst (v := 0) C rfl dX11_shapes_21 ?_
      refine go_sub [] rfl ?_
      exact (gbX11_shapes_22 C hr hR hnl hd hN) _ _ hw
    · replace hw := hw.2 hc
      refine go_iconst (v := 1) C rfl dX11_shapes_17 ?_
      refine go_goto C 22 rfl dX11_shapes_18 ?_
      refine go_sub [] rfl ?_
      exact (gbX11_shapes_22 C hr hR hnl hd hN) _ _ hw
-- CradleNames.lag(I)I
set_option maxRecDepth 20000 in
set_option maxHeartbeats 4000000 in
theorem spX11_lag {l : Launch} {G : GT} {d : Nat}  (hd : 4 ≤ d)  (hN : 75 ≤ G.2.2.2.2.2)  {a1 : Int32} {σ : St} {post : Int32 → St → Prop} (hw : wpX11_lag  a1 σ post) : Sp l G d yX11_lag cX11_lag 3 (some .int) [.ref (G.2.2.1 0), .int a1] σ (fun v τ => ∃ r : Int32, v = some (.int r) ∧ post r τ) := by
  refine Sp.of (by decide) (Nat.le_of_ble_eq_true rfl) fun X C hr hR hnl => ?_
  show Go X G 0 [(0, .ref (G.2.2.1 0)), (1, .int a1)] [] σ
  have hw : ((¬ (gI σ 9 0) = 0 →
    wpX10_findThousandths  σ (fun σ_2 =>
    wpX11_within a1 10 30 σ_2 (fun r_3 σ_4 =>
    ((r_3 = 0 →
      wpX11_within a1 0 1 σ_4 (fun r_5 σ_6 =>
      ((¬ r_5 = 0 →
        wpX10_leastLag  σ_6 (fun r_7 σ_8 =>
        ((¬ a1 = 0 →
          wpX10_apartBy r_7 σ_8 (fun r_9 σ_10 =>
          post r_9 σ_10)) ∧
        (a1 = 0 →
          post r_7 σ_8)))) ∧
      (r_5 = 0 →
        post (-1) σ_6)))) ∧
    (¬ r_3 = 0 →
      wpX10_apartBy (a1 - 10) σ_4 (fun r_11 σ_12 =>
      post r_11 σ_12)))))) ∧
  ((gI σ 9 0) = 0 →
    post (-1) σ)) := hw
  refine go_aload_n C 0 rfl rfl dX11_lag_0 ?_
  refine go_get (v := .ref (G.2.2.1 9)) C (shX11 G) (ltX11 hN) lkX11_19 rfl dX11_lag_1 ?_
  refine go_get (v := .int (gI σ 9 0)) C (shX4 G) (ltX4 hN) lkX11_120 rfl dX11_lag_4 ?_
  refine go_if_ne C 12 rfl dX11_lag_7 (fun hc => ?_) (fun hc => ?_)
  · replace hw := hw.1 hc
    refine go_aload_n C 0 rfl rfl dX11_lag_12 ?_
    refine go_get (v := .ref (G.2.2.1 52)) C (shX11 G) (ltX11 hN) lkX11_72 rfl dX11_lag_13 ?_
    refine go_callV (as := []) C hR (shX10 G) (ltX10 hN) cwX11_274 (Nat.le_trans (by decide) hd) (by decide) rfl rfl (Nat.le_of_ble_eq_true rfl) dX11_lag_16 (spX10_findThousandths (Nat.le_refl _) hN hw) (fun v_ τ_ hw => ?_)
    obtain ⟨rfl, hw⟩ := hw
    obtain ⟨σ_2, rfl⟩ : ∃ z, z = τ_ := ⟨_, rfl⟩
    refine go_iload_n C 1 rfl rfl dX11_lag_19 ?_
    refine go_bipush (v := 10) C rfl dX11_lag_20 ?_
    refine go_bipush (v := 30) C rfl dX11_lag_22 ?_
    refine go_callS (as := [.int a1, .int 10, .int 30]) C hR cwX11_105 (Nat.le_trans (by decide) hd) (by decide) rfl rfl (Nat.le_of_ble_eq_true rfl) dX11_lag_24 (spX11_within (Nat.le_refl _) hN hw) (fun v_ τ_ hw => ?_)
    obtain ⟨r_3, rfl, hw⟩ := hw
    obtain ⟨σ_4, rfl⟩ : ∃ z, z = τ_ := ⟨_, rfl⟩
    refine go_if_eq C 42 rfl dX11_lag_27 (fun hc => ?_) (fun hc => ?_)
    · replace hw := hw.1 hc
      refine go_iload_n C 1 rfl rfl dX11_lag_42 ?_
      refine go_iconst (v := 0) C rfl dX11_lag_43 ?_
      refine go_iconst (v := 1) C rfl dX11_lag_44 ?_
      refine go_callS (as := [.int a1, .int 0, .int 1]) C hR cwX11_105 (Nat.le_trans (by decide) hd) (by decide) rfl rfl (Nat.le_of_ble_eq_true rfl) dX11_lag_45 (spX11_within (Nat.le_refl _) hN hw) (fun v_ τ_ hw => ?_)
      obtain ⟨r_5, rfl, hw⟩ := hw
      obtain ⟨σ_6, rfl⟩ : ∃ z, z = τ_ := ⟨_, rfl⟩
      refine go_if_ne C 53 rfl dX11_lag_48 (fun hc => ?_) (fun hc => ?_)
      · replace hw := hw.1 hc
        refine go_aload_n C 0 rfl rfl dX11_lag_53 ?_
        refine go_get (v := .ref (G.2.2.1 52)) C (shX11 G) (ltX11 hN) lkX11_72 rfl dX11_lag_54 ?_
        refine go_callV (as := []) C hR (shX10 G) (ltX10 hN) cwX11_280 (Nat.le_trans (by decide) hd) (by decide) rfl rfl (Nat.le_of_ble_eq_true rfl) dX11_lag_57 (spX10_leastLag (Nat.le_refl _) hN hw) (fun v_ τ_ hw => ?_)
        obtain ⟨r_7, rfl, hw⟩ := hw
        obtain ⟨σ_8, rfl⟩ : ∃ z, z = τ_ := ⟨_, rfl⟩
        refine go_istore_n (lv2 := [(2, .int r_7), (0, .ref (G.2.2.1 0)), (1, .int a1)]) C rfl (by rw [hnl]; decide) rfl dX11_lag_60 ?_
        refine go_iload_n C 2 rfl rfl dX11_lag_61 ?_
        refine go_if_ne C 69 rfl dX11_lag_62 (fun hc => ?_) (fun hc => ?_)
        · replace hw := hw.1 hc
          refine go_aload_n C 1 rfl rfl dX11_lag_69 ?_
          refine go_get (v := .ref (G.2.2.1 52)) C (shX11 G) (ltX11 hN) lkX11_72 rfl dX11_lag_70 ?_
          refine go_iload_n C 0 rfl rfl dX11_lag_73 ?_
          refine go_callV (as := [.int r_7]) C hR (shX10 G) (ltX10 hN) cwX11_277 (Nat.le_trans (by decide) hd) (by decide) rfl rfl (Nat.le_of_ble_eq_true rfl) dX11_lag_74 (spX10_apartBy (Nat.le_refl _) hN hw) (fun v_ τ_ hw => ?_)
          obtain ⟨r_9, rfl, hw⟩ := hw
          obtain ⟨σ_10, rfl⟩ : ∃ z, z = τ_ := ⟨_, rfl⟩
          exact go_iret C hr ⟨_, rfl, hw⟩ dX11_lag_77
        · replace hw := hw.2 hc
          refine go_iload_n C 0 rfl rfl dX11_lag_65 ?_
          refine go_goto C 77 rfl dX11_lag_66 ?_
          exact go_iret C hr ⟨_, rfl, hw⟩ dX11_lag_77
      · replace hw := hw.2 hc
        refine go_iconst (v := (-1)) C rfl dX11_lag_51 ?_
        exact go_iret C hr ⟨_, rfl, hw⟩ dX11_lag_52
    · replace hw := hw.2 hc
      refine go_aload_n C 0 rfl rfl dX11_lag_30 ?_
      refine go_get (v := .ref (G.2.2.1 52)) C (shX11 G) (ltX11 hN) lkX11_72 rfl dX11_lag_31 ?_
      refine go_iload_n C 1 rfl rfl dX11_lag_34 ?_
      refine go_bipush (v := 10) C rfl dX11_lag_35 ?_
      refine go_isub C dX11_lag_37 ?_
      refine go_callV (as := [.int (a1 - 10)]) C hR (shX10 G) (ltX10 hN) cwX11_277 (Nat.le_trans (by decide) hd) (by decide) rfl rfl (Nat.le_of_ble_eq_true rfl) dX11_lag_38 (spX10_apartBy (Nat.le_refl _) hN hw) (fun v_ τ_ hw => ?_)
      obtain ⟨r_11, rfl, hw⟩ := hw
      obtain ⟨σ_12, rfl⟩ : ∃ z, z = τ_ := ⟨_, rfl⟩
      exact go_iret C hr ⟨_, rfl, hw⟩ dX11_lag_41
  · replace hw := hw.2 hc
    refine go_iconst (v := (-1)) C rfl dX11_lag_10 ?_
    exact go_iret C hr ⟨_, rfl, hw⟩ dX11_lag_11
-- CradleNames.together(II)I
set_option maxRecDepth 20000 in
set_option maxHeartbeats 4000000 in
theorem spX11_together {l : Launch} {G : GT} {d : Nat}  (hd : 4 ≤ d)  (hN : 75 ≤ G.2.2.2.2.2)  {a1 : Int32} {a2 : Int32} {σ : St} {post : Int32 → St → Prop} (hw : wpX11_together  a1 a2 σ post) : Sp l G d yX11_together cX11_together 3 (some .int) [.ref (G.2.2.1 0), .int a1, .int a2] σ (fun v τ => ∃ r : Int32, v = some (.int r) ∧ post r τ) := by
  refine Sp.of (by decide) (Nat.le_of_ble_eq_true rfl) fun X C hr hR hnl => ?_
  show Go X G 0 [(0, .ref (G.2.2.1 0)), (1, .int a1), (2, .int a2)] [] σ
  have hw : wpX5_has a1 σ (fun r_1 σ_2 =>
  ((r_1 = 0 →
    post (-1) σ_2) ∧
  (¬ r_1 = 0 →
    wpX4_wentBy a2 σ_2 (fun r_3 σ_4 =>
    ((¬ r_3 = 0 →
      wpX10_risenOfEnding a1 a2 σ_4 (fun r_5 σ_6 =>
      post r_5 σ_6)) ∧
    (r_3 = 0 →
      post (-1) σ_4)))))) := hw
  refine go_aload_n C 0 rfl rfl dX11_together_0 ?_
  refine go_get (v := .ref (G.2.2.1 1)) C (shX11 G) (ltX11 hN) lkX11_10 rfl dX11_together_1 ?_
  refine go_iload_n C 1 rfl rfl dX11_together_4 ?_
  refine go_callV (as := [.int a1]) C hR (shX5 G) (ltX5 hN) cwX11_127 (Nat.le_trans (by decide) hd) (by decide) rfl rfl (Nat.le_of_ble_eq_true rfl) dX11_together_5 (spX5_has (Nat.le_refl _) hN hw) (fun v_ τ_ hw => ?_)
  obtain ⟨r_1, rfl, hw⟩ := hw
  obtain ⟨σ_2, rfl⟩ : ∃ z, z = τ_ := ⟨_, rfl⟩
  refine go_if_eq C 22 rfl dX11_together_8 (fun hc => ?_) (fun hc => ?_)
  · replace hw := hw.1 hc
    refine go_iconst (v := (-1)) C rfl dX11_together_22 ?_
    exact go_iret C hr ⟨_, rfl, hw⟩ dX11_together_23
  · replace hw := hw.2 hc
    refine go_aload_n C 0 rfl rfl dX11_together_11 ?_
    refine go_get (v := .ref (G.2.2.1 9)) C (shX11 G) (ltX11 hN) lkX11_19 rfl dX11_together_12 ?_
    refine go_iload_n C 2 rfl rfl dX11_together_15 ?_
    refine go_callV (as := [.int a2]) C hR (shX4 G) (ltX4 hN) cwX11_243 (Nat.le_trans (by decide) hd) (by decide) rfl rfl (Nat.le_of_ble_eq_true rfl) dX11_together_16 (spX4_wentBy (Nat.le_refl _) hN hw) (fun v_ τ_ hw => ?_)
    obtain ⟨r_3, rfl, hw⟩ := hw
    obtain ⟨σ_4, rfl⟩ : ∃ z, z = τ_ := ⟨_, rfl⟩
    refine go_if_ne C 24 rfl dX11_together_19 (fun hc => ?_) (fun hc => ?_)
    · replace hw := hw.1 hc
      refine go_aload_n C 0 rfl rfl dX11_together_24 ?_
      refine go_get (v := .ref (G.2.2.1 52)) C (shX11 G) (ltX11 hN) lkX11_72 rfl dX11_together_25 ?_
      refine go_iload_n C 1 rfl rfl dX11_together_28 ?_
      refine go_iload_n C 2 rfl rfl dX11_together_29 ?_
      refine go_callV (as := [.int a1, .int a2]) C hR (shX10 G) (ltX10 hN) cwX11_283 (Nat.le_trans (by decide) hd) (by decide) rfl rfl (Nat.le_of_ble_eq_true rfl) dX11_together_30 (spX10_risenOfEnding (Nat.le_refl _) hN hw) (fun v_ τ_ hw => ?_)
      obtain ⟨r_5, rfl, hw⟩ := hw
      obtain ⟨σ_6, rfl⟩ : ∃ z, z = τ_ := ⟨_, rfl⟩
      exact go_iret C hr ⟨_, rfl, hw⟩ dX11_together_33
    · replace hw := hw.2 hc
      refine go_iconst (v := (-1)) C rfl dX11_together_22 ?_
      exact go_iret C hr ⟨_, rfl, hw⟩ dX11_together_23
-- CradleNames.broughtBy(IZII)I
set_option maxRecDepth 20000 in
set_option maxHeartbeats 4000000 in
theorem gbX11_broughtBy_30 {X : XT} {G : GT} {l : Launch} {d : Nat}  {post : Int32 → St → Prop} (C : Cx X G cX11_broughtBy RX11) (hr : Rt X G (some .int) (fun v τ => ∃ r : Int32, v = some (.int r) ∧ post r τ)) (hR : Rm X l d) (hnl : X.2.2.2.2.2.2.2.2.2.2.1 = 6)  (hd : 7 ≤ d) (hN : 75 ≤ G.2.2.2.2.2)   
    : ∀ (n : Nat) (v3 : Int32) (v4 : Int32) (v5 : Int32) (σ : St), wbX11_broughtBy_30   post n v3 v4 v5 σ → Go X G 30 [(0, .ref (G.2.2.1 0)), (3, .int v3), (4, .int v4), (5, .int v5)] [] σ := by
  intro n
  induction n with
  | zero => intro v3 v4 v5 σ hw; exact hw.elim
  | succ n ih =>
    intro v3 v4 v5 σ hw
    have hw : ((v4 < v5 →
      ∀ σ_1 : St, σ_1 = sI σ 47 6 (-1) →
      ∀ σ_2 : St, σ_2 = sI σ_1 47 7 0 →
      wpX0_between 0 6 v3 v4 v4 σ_2 (fun r_3 σ_4 =>
      wpX0_between 1 6 v3 v4 v4 σ_4 (fun r_5 σ_6 =>
      post (r_3 - r_5) σ_6))) ∧
    (¬ v4 < v5 →
      wpX1_pass 1 v5 (-1) σ (fun r_7 σ_8 =>
      ∀ v5_9 : Int32, v5_9 = v5 + 1 →
      wbX11_broughtBy_30 post n v3 v4 v5_9 σ_8))) := hw
    refine go_iload C 3 rfl dX11_broughtBy_30 ?_
    refine go_iload C 2 rfl dX11_broughtBy_32 ?_
    refine go_icmp_gt C 58 rfl dX11_broughtBy_34 (fun hc => ?_) (fun hc => ?_)
    · replace hw := hw.1 hc
      refine go_aload_n C 0 rfl rfl dX11_broughtBy_58 ?_
      refine go_get (v := .ref (G.2.2.1 47)) C (shX11 G) (ltX11 hN) lkX11_54 rfl dX11_broughtBy_59 ?_
      refine go_iconst (v := (-1)) C rfl dX11_broughtBy_62 ?_
      refine go_puti C (shX3 G) (ltX3 hN) lpX11_384 (show 6 < 14 by decide) (pxX3_6 G _ _) dX11_broughtBy_63 (go_nm fun σ_1 eσ_1 => ?_)
      replace hw := hw σ_1 eσ_1
      refine go_aload_n C 0 rfl rfl dX11_broughtBy_66 ?_
      refine go_get (v := .ref (G.2.2.1 47)) C (shX11 G) (ltX11 hN) lkX11_54 rfl dX11_broughtBy_67 ?_
      refine go_iconst (v := 0) C rfl dX11_broughtBy_70 ?_
      refine go_putz C (shX3 G) (ltX3 hN) lpX11_387 (by decide) (show 7 < 14 by decide) (pxX3_7 G _ _) dX11_broughtBy_71 (go_nm fun σ_2 eσ_2 => ?_)
      replace hw := hw σ_2 eσ_2
      refine go_aload_n C 0 rfl rfl dX11_broughtBy_74 ?_
      refine go_get (v := .ref (G.2.2.1 (21 + 4 * 0))) C (shX11 G) (ltX11 hN) lkX11_26 rfl dX11_broughtBy_75 ?_
      refine go_bipush (v := 6) C rfl dX11_broughtBy_78 ?_
      refine go_iload_n C 1 rfl rfl dX11_broughtBy_80 ?_
      refine go_iload C 2 rfl dX11_broughtBy_81 ?_
      refine go_iload C 2 rfl dX11_broughtBy_83 ?_
      refine go_callV (as := [.int 6, .int v3, .int v4, .int v4]) C hR (shX0 G (show 0 < 2 by decide)) (ltX0 hN (show 0 < 2 by decide)) cwX11_395 (Nat.le_trans (by decide) hd) (by decide) rfl rfl (Nat.le_of_ble_eq_true rfl) dX11_broughtBy_85 (spX0_between (Nat.le_refl _) hN (show 0 < 2 by decide) hw) (fun v_ τ_ hw => ?_)
      obtain ⟨r_3, rfl, hw⟩ := hw
      obtain ⟨σ_4, rfl⟩ : ∃ z, z = τ_ := ⟨_, rfl⟩
      refine go_aload_n C 0 rfl rfl dX11_broughtBy_88 ?_
      refine go_get (v := .ref (G.2.2.1 (21 + 4 * 1))) C (shX11 G) (ltX11 hN) lkX11_30 rfl dX11_broughtBy_89 ?_
      refine go_bipush (v := 6) C rfl dX11_broughtBy_92 ?_
      refine go_iload_n C 1 rfl rfl dX11_broughtBy_94 ?_
      refine go_iload C 2 rfl dX11_broughtBy_95 ?_
      refine go_iload C 2 rfl dX11_broughtBy_97 ?_
      refine go_callV (as := [.int 6, .int v3, .int v4, .int v4]) C hR (shX0 G (show 1 < 2 by decide)) (ltX0 hN (show 1 < 2 by decide)) cwX11_395 (Nat.le_trans (by decide) hd) (by decide) rfl rfl (Nat.le_of_ble_eq_true rfl) dX11_broughtBy_99 (spX0_between (Nat.le_refl _) hN (show 1 < 2 by decide) hw) (fun v_ τ_ hw => ?_)
      obtain ⟨r_5, rfl, hw⟩ := hw
      obtain ⟨σ_6, rfl⟩ : ∃ z, z = τ_ := ⟨_, rfl⟩
      refine go_isub C dX11_broughtBy_102 ?_
      exact go_iret C hr ⟨_, rfl, hw⟩ dX11_broughtBy_103
    · replace hw := hw.2 hc
      refine go_aload_n C 0 rfl rfl dX11_broughtBy_37 ?_
      refine go_get (v := .ref (G.2.2.1 51)) C (shX11 G) (ltX11 hN) lkX11_63 rfl dX11_broughtBy_38 ?_
      refine go_aload_n C 0 rfl rfl dX11_broughtBy_41 ?_
      refine go_get (v := .ref (G.2.2.1 (21 + 4 * 1))) C (shX11 G) (ltX11 hN) lkX11_30 rfl dX11_broughtBy_42 ?_
      refine go_iload C 3 rfl dX11_broughtBy_45 ?_
      refine go_iconst (v := (-1)) C rfl dX11_broughtBy_47 ?_
      refine go_callV (as := [.ref (G.2.2.1 (21 + 4 * 1)), .int v5, .int (-1)]) C hR (shX1 G) (ltX1 hN) cwX11_215 (Nat.le_trans (by decide) hd) (by decide) rfl rfl (Nat.le_of_ble_eq_true rfl) dX11_broughtBy_48 (spX1_pass (Nat.le_refl _) hN (show 1 < 2 by decide) hw) (fun v_ τ_ hw => ?_)
      obtain ⟨r_7, rfl, hw⟩ := hw
      obtain ⟨σ_8, rfl⟩ : ∃ z, z = τ_ := ⟨_, rfl⟩
      refine go_pop C rfl dX11_broughtBy_51 ?_
      obtain ⟨v5_9, ev5_9⟩ : ∃ z : Int32, z = v5 + 1 := ⟨_, rfl⟩
      replace hw := hw v5_9 ev5_9
      refine go_iinc (v := v5_9) (lv2 := [(5, .int v5_9), (0, .ref (G.2.2.1 0)), (3, .int v3), (4, .int v4)]) C 3 rfl (by rw [ev5_9]; rfl) (by rw [hnl]; decide) rfl dX11_broughtBy_52 ?_
      refine go_goto C 30 rfl dX11_broughtBy_55 ?_
      refine go_sub [1, 2, 3, 0] rfl ?_
      exact ih _ _ _ _ hw
set_option maxRecDepth 20000 in
set_option maxHeartbeats 4000000 in
theorem spX11_broughtBy {l : Launch} {G : GT} {d : Nat}  (hd : 7 ≤ d)  (hN : 75 ≤ G.2.2.2.2.2)  {a1 : Int32} {a2 : Int32} {a3 : Int32} {a4 : Int32} {σ : St} {post : Int32 → St → Prop} (hw : wpX11_broughtBy  a1 a2 a3 a4 σ post) : Sp l G d yX11_broughtBy cX11_broughtBy 6 (some .int) [.ref (G.2.2.1 0), .int a1, .int a2, .int a3, .int a4] σ (fun v τ => ∃ r : Int32, v = some (.int r) ∧ post r τ) := by
  refine Sp.of (by decide) (Nat.le_of_ble_eq_true rfl) fun X C hr hR hnl => ?_
  show Go X G 0 [(0, .ref (G.2.2.1 0)), (1, .int a1), (2, .int a2), (3, .int a3), (4, .int a4)] [] σ
  have hw : ∀ σ_1 : St, σ_1 = sI σ 47 6 a1 →
  (a2 = 0 ∨ a2 = 1) ∧ (
  ∀ σ_2 : St, σ_2 = sI σ_1 47 7 a2 →
  wpX0_beginFrom 1 0 σ_2 (fun σ_4 =>
  ∃ m_30, wbX11_broughtBy_30 post m_30 a3 a4 0 σ_4)) := hw
  refine go_aload_n C 0 rfl rfl dX11_broughtBy_0 ?_
  refine go_get (v := .ref (G.2.2.1 47)) C (shX11 G) (ltX11 hN) lkX11_54 rfl dX11_broughtBy_1 ?_
  refine go_iload_n C 1 rfl rfl dX11_broughtBy_4 ?_
  refine go_puti C (shX3 G) (ltX3 hN) lpX11_384 (show 6 < 14 by decide) (pxX3_6 G _ _) dX11_broughtBy_5 (go_nm fun σ_1 eσ_1 => ?_)
  replace hw := hw σ_1 eσ_1
  refine go_aload_n C 0 rfl rfl dX11_broughtBy_8 ?_
  refine go_get (v := .ref (G.2.2.1 47)) C (shX11 G) (ltX11 hN) lkX11_54 rfl dX11_broughtBy_9 ?_
  refine go_iload_n C 2 rfl rfl dX11_broughtBy_12 ?_
  refine go_putz C (shX3 G) (ltX3 hN) lpX11_387 hw.1 (show 7 < 14 by decide) (pxX3_7 G _ _) dX11_broughtBy_13 (go_nm fun σ_2 eσ_2 => ?_)
  replace hw := hw.2 σ_2 eσ_2
  refine go_aload_n C 0 rfl rfl dX11_broughtBy_16 ?_
  refine go_get (v := .ref (G.2.2.1 (21 + 4 * 1))) C (shX11 G) (ltX11 hN) lkX11_30 rfl dX11_broughtBy_17 ?_
  refine go_aload_n C 0 rfl rfl dX11_broughtBy_20 ?_
  refine go_get (v := .ref (G.2.2.1 (21 + 4 * 0))) C (shX11 G) (ltX11 hN) lkX11_26 rfl dX11_broughtBy_21 ?_
  refine go_callV (as := [.ref (G.2.2.1 (21 + 4 * 0))]) C hR (shX0 G (show 1 < 2 by decide)) (ltX0 hN (show 1 < 2 by decide)) cwX11_391 (Nat.le_trans (by decide) hd) (by decide) rfl rfl (Nat.le_of_ble_eq_true rfl) dX11_broughtBy_24 (spX0_beginFrom (Nat.le_refl _) hN (show 1 < 2 by decide) (show 0 < 2 by decide) hw) (fun v_ τ_ hw => ?_)
  obtain ⟨rfl, hw⟩ := hw
  obtain ⟨σ_4, rfl⟩ : ∃ z, z = τ_ := ⟨_, rfl⟩
  refine go_iconst (v := 0) C rfl dX11_broughtBy_27 ?_
  refine go_istore (lv2 := [(5, .int 0), (0, .ref (G.2.2.1 0)), (1, .int a1), (2, .int a2), (3, .int a3), (4, .int a4)]) C (by rw [hnl]; decide) rfl dX11_broughtBy_28 ?_
  refine go_sub [1, 4, 5, 0] rfl ?_
  obtain ⟨n_0, hw⟩ := hw
  exact (gbX11_broughtBy_30 C hr hR hnl hd hN) n_0 _ _ _ _ hw
-- CradleNames.took(III)I
set_option maxRecDepth 20000 in
set_option maxHeartbeats 4000000 in
theorem spX11_took {l : Launch} {G : GT} {d : Nat}  (hd : 8 ≤ d)  (hN : 75 ≤ G.2.2.2.2.2)  {a1 : Int32} {a2 : Int32} {a3 : Int32} {σ : St} {post : Int32 → St → Prop} (hw : wpX11_took  a1 a2 a3 σ post) : Sp l G d yX11_took cX11_took 4 (some .int) [.ref (G.2.2.1 0), .int a1, .int a2, .int a3] σ (fun v τ => ∃ r : Int32, v = some (.int r) ∧ post r τ) := by
  refine Sp.of (by decide) (Nat.le_of_ble_eq_true rfl) fun X C hr hR hnl => ?_
  show Go X G 0 [(0, .ref (G.2.2.1 0)), (1, .int a1), (2, .int a2), (3, .int a3)] [] σ
  have hw : wpX11_within a1 0 ((gI σ 9 11) - 1) σ (fun r_1 σ_2 =>
  ((r_1 = 0 →
    post (-1000) σ_2) ∧
  (¬ r_1 = 0 →
    wpX5_has a2 σ_2 (fun r_3 σ_4 =>
    ((r_3 = 0 →
      post (-1000) σ_4) ∧
    (¬ r_3 = 0 →
      wpX4_wentBy a3 σ_4 (fun r_5 σ_6 =>
      ((¬ r_5 = 0 →
        wpX11_broughtBy a1 0 a2 a3 σ_6 (fun r_7 σ_8 =>
        post r_7 σ_8)) ∧
      (r_5 = 0 →
        post (-1000) σ_6))))))))) := hw
  refine go_iload_n C 1 rfl rfl dX11_took_0 ?_
  refine go_iconst (v := 0) C rfl dX11_took_1 ?_
  refine go_aload_n C 0 rfl rfl dX11_took_2 ?_
  refine go_get (v := .ref (G.2.2.1 9)) C (shX11 G) (ltX11 hN) lkX11_19 rfl dX11_took_3 ?_
  refine go_get (v := .int (gI σ 9 11)) C (shX4 G) (ltX4 hN) lkX11_182 rfl dX11_took_6 ?_
  refine go_iconst (v := 1) C rfl dX11_took_9 ?_
  refine go_isub C dX11_took_10 ?_
  refine go_callS (as := [.int a1, .int 0, .int ((gI σ 9 11) - 1)]) C hR cwX11_105 (Nat.le_trans (by decide) hd) (by decide) rfl rfl (Nat.le_of_ble_eq_true rfl) dX11_took_11 (spX11_within (Nat.le_refl _) hN hw) (fun v_ τ_ hw => ?_)
  obtain ⟨r_1, rfl, hw⟩ := hw
  obtain ⟨σ_2, rfl⟩ : ∃ z, z = τ_ := ⟨_, rfl⟩
  refine go_if_eq C 39 rfl dX11_took_14 (fun hc => ?_) (fun hc => ?_)
  · replace hw := hw.1 hc
    refine go_sipush (v := (-1000)) C rfl dX11_took_39 ?_
    exact go_iret C hr ⟨_, rfl, hw⟩ dX11_took_42
  · replace hw := hw.2 hc
    refine go_aload_n C 0 rfl rfl dX11_took_17 ?_
    refine go_get (v := .ref (G.2.2.1 1)) C (shX11 G) (ltX11 hN) lkX11_10 rfl dX11_took_18 ?_
    refine go_iload_n C 2 rfl rfl dX11_took_21 ?_
    refine go_callV (as := [.int a2]) C hR (shX5 G) (ltX5 hN) cwX11_127 (Nat.le_trans (by decide) hd) (by decide) rfl rfl (Nat.le_of_ble_eq_true rfl) dX11_took_22 (spX5_has (Nat.le_refl _) hN hw) (fun v_ τ_ hw => ?_)
    obtain ⟨r_3, rfl, hw⟩ := hw
    obtain ⟨σ_4, rfl⟩ : ∃ z, z = τ_ := ⟨_, rfl⟩
    refine go_if_eq C 39 rfl dX11_took_25 (fun hc => ?_) (fun hc => ?_)
    · replace hw := hw.1 hc
      refine go_sipush (v := (-1000)) C rfl dX11_took_39 ?_
      exact go_iret C hr ⟨_, rfl, hw⟩ dX11_took_42
    · replace hw := hw.2 hc
      refine go_aload_n C 0 rfl rfl dX11_took_28 ?_
      refine go_get (v := .ref (G.2.2.1 9)) C (shX11 G) (ltX11 hN) lkX11_19 rfl dX11_took_29 ?_
      refine go_iload_n C 3 rfl rfl dX11_took_32 ?_
      refine go_callV (as := [.int a3]) C hR (shX4 G) (ltX4 hN) cwX11_243 (Nat.le_trans (by decide) hd) (by decide) rfl rfl (Nat.le_of_ble_eq_true rfl) dX11_took_33 (spX4_wentBy (Nat.le_refl _) hN hw) (fun v_ τ_ hw => ?_)
      obtain ⟨r_5, rfl, hw⟩ := hw
      obtain ⟨σ_6, rfl⟩ : ∃ z, z = τ_ := ⟨_, rfl⟩
      refine go_if_ne C 43 rfl dX11_took_36 (fun hc => ?_) (fun hc => ?_)
      · replace hw := hw.1 hc
        refine go_aload_n C 0 rfl rfl dX11_took_43 ?_
        refine go_iload_n C 1 rfl rfl dX11_took_44 ?_
        refine go_iconst (v := 0) C rfl dX11_took_45 ?_
        refine go_iload_n C 2 rfl rfl dX11_took_46 ?_
        refine go_iload_n C 3 rfl rfl dX11_took_47 ?_
        refine go_callV (as := [.int a1, .int 0, .int a2, .int a3]) C hR (shX11 G) (ltX11 hN) cwX11_286 (Nat.le_trans (by decide) hd) (by decide) rfl rfl (Nat.le_of_ble_eq_true rfl) dX11_took_48 (spX11_broughtBy (Nat.le_refl _) hN hw) (fun v_ τ_ hw => ?_)
        obtain ⟨r_7, rfl, hw⟩ := hw
        obtain ⟨σ_8, rfl⟩ : ∃ z, z = τ_ := ⟨_, rfl⟩
        exact go_iret C hr ⟨_, rfl, hw⟩ dX11_took_51
      · replace hw := hw.2 hc
        refine go_sipush (v := (-1000)) C rfl dX11_took_39 ?_
        exact go_iret C hr ⟨_, rfl, hw⟩ dX11_took_42
-- CradleNames.sound(II)I
set_option maxRecDepth 20000 in
set_option maxHeartbeats 4000000 in
theorem spX11_sound {l : Launch} {G : GT} {d : Nat}  (hd : 8 ≤ d)  (hN : 75 ≤ G.2.2.2.2.2)  {a1 : Int32} {a2 : Int32} {σ : St} {post : Int32 → St → Prop} (hw : wpX11_sound  a1 a2 σ post) : Sp l G d yX11_sound cX11_sound 3 (some .int) [.ref (G.2.2.1 0), .int a1, .int a2] σ (fun v τ => ∃ r : Int32, v = some (.int r) ∧ post r τ) := by
  refine Sp.of (by decide) (Nat.le_of_ble_eq_true rfl) fun X C hr hR hnl => ?_
  show Go X G 0 [(0, .ref (G.2.2.1 0)), (1, .int a1), (2, .int a2)] [] σ
  have hw : wpX5_has a1 σ (fun r_1 σ_2 =>
  ((r_1 = 0 →
    post (-1000) σ_2) ∧
  (¬ r_1 = 0 →
    wpX4_wentBy a2 σ_2 (fun r_3 σ_4 =>
    ((¬ r_3 = 0 →
      wpX11_broughtBy (-1) 1 a1 a2 σ_4 (fun r_5 σ_6 =>
      post r_5 σ_6)) ∧
    (r_3 = 0 →
      post (-1000) σ_4)))))) := hw
  refine go_aload_n C 0 rfl rfl dX11_sound_0 ?_
  refine go_get (v := .ref (G.2.2.1 1)) C (shX11 G) (ltX11 hN) lkX11_10 rfl dX11_sound_1 ?_
  refine go_iload_n C 1 rfl rfl dX11_sound_4 ?_
  refine go_callV (as := [.int a1]) C hR (shX5 G) (ltX5 hN) cwX11_127 (Nat.le_trans (by decide) hd) (by decide) rfl rfl (Nat.le_of_ble_eq_true rfl) dX11_sound_5 (spX5_has (Nat.le_refl _) hN hw) (fun v_ τ_ hw => ?_)
  obtain ⟨r_1, rfl, hw⟩ := hw
  obtain ⟨σ_2, rfl⟩ : ∃ z, z = τ_ := ⟨_, rfl⟩
  refine go_if_eq C 22 rfl dX11_sound_8 (fun hc => ?_) (fun hc => ?_)
  · replace hw := hw.1 hc
    refine go_sipush (v := (-1000)) C rfl dX11_sound_22 ?_
    exact go_iret C hr ⟨_, rfl, hw⟩ dX11_sound_25
  · replace hw := hw.2 hc
    refine go_aload_n C 0 rfl rfl dX11_sound_11 ?_
    refine go_get (v := .ref (G.2.2.1 9)) C (shX11 G) (ltX11 hN) lkX11_19 rfl dX11_sound_12 ?_
    refine go_iload_n C 2 rfl rfl dX11_sound_15 ?_
    refine go_callV (as := [.int a2]) C hR (shX4 G) (ltX4 hN) cwX11_243 (Nat.le_trans (by decide) hd) (by decide) rfl rfl (Nat.le_of_ble_eq_true rfl) dX11_sound_16 (spX4_wentBy (Nat.le_refl _) hN hw) (fun v_ τ_ hw => ?_)
    obtain ⟨r_3, rfl, hw⟩ := hw
    obtain ⟨σ_4, rfl⟩ : ∃ z, z = τ_ := ⟨_, rfl⟩
    refine go_if_ne C 26 rfl dX11_sound_19 (fun hc => ?_) (fun hc => ?_)
    · replace hw := hw.1 hc
      refine go_aload_n C 0 rfl rfl dX11_sound_26 ?_
      refine go_iconst (v := (-1)) C rfl dX11_sound_27 ?_
      refine go_iconst (v := 1) C rfl dX11_sound_28 ?_
      refine go_iload_n C 1 rfl rfl dX11_sound_29 ?_
      refine go_iload_n C 2 rfl rfl dX11_sound_30 ?_
      refine go_callV (as := [.int (-1), .int 1, .int a1, .int a2]) C hR (shX11 G) (ltX11 hN) cwX11_286 (Nat.le_trans (by decide) hd) (by decide) rfl rfl (Nat.le_of_ble_eq_true rfl) dX11_sound_31 (spX11_broughtBy (Nat.le_refl _) hN hw) (fun v_ τ_ hw => ?_)
      obtain ⟨r_5, rfl, hw⟩ := hw
      obtain ⟨σ_6, rfl⟩ : ∃ z, z = τ_ := ⟨_, rfl⟩
      exact go_iret C hr ⟨_, rfl, hw⟩ dX11_sound_34
    · replace hw := hw.2 hc
      refine go_sipush (v := (-1000)) C rfl dX11_sound_22 ?_
      exact go_iret C hr ⟨_, rfl, hw⟩ dX11_sound_25
-- CradleNames.crossed(II)I
set_option maxRecDepth 20000 in
set_option maxHeartbeats 4000000 in
theorem spX11_crossed {l : Launch} {G : GT} {d : Nat}  (hd : 5 ≤ d)  (hN : 75 ≤ G.2.2.2.2.2)  {a1 : Int32} {a2 : Int32} {σ : St} {post : Int32 → St → Prop} (hw : wpX11_crossed  a1 a2 σ post) : Sp l G d yX11_crossed cX11_crossed 4 (some .int) [.ref (G.2.2.1 0), .int a1, .int a2] σ (fun v τ => ∃ r : Int32, v = some (.int r) ∧ post r τ) := by
  refine Sp.of (by decide) (Nat.le_of_ble_eq_true rfl) fun X C hr hR hnl => ?_
  show Go X G 0 [(0, .ref (G.2.2.1 0)), (1, .int a1), (2, .int a2)] [] σ
  have hw : wpX5_has a1 σ (fun r_1 σ_2 =>
  ((r_1 = 0 →
    post (-1) σ_2) ∧
  (¬ r_1 = 0 →
    wpX11_within a2 0 1 σ_2 (fun r_3 σ_4 =>
    ((¬ r_3 = 0 →
      wpX10_crossing a1 σ_4 (fun r_5 σ_6 =>
      ((r_5 = (-1) →
        post r_5 σ_6) ∧
      (¬ r_5 = (-1) →
        ((¬ a2 = 0 →
          wpX10_boysAgain a1 r_5 σ_6 (fun r_7 σ_8 =>
          ((r_7 = 0 →
            post 0 σ_8) ∧
          (¬ r_7 = 0 →
            post 1 σ_8)))) ∧
        (a2 = 0 →
          post r_5 σ_6)))))) ∧
    (r_3 = 0 →
      post (-1) σ_4)))))) := hw
  refine go_aload_n C 0 rfl rfl dX11_crossed_0 ?_
  refine go_get (v := .ref (G.2.2.1 1)) C (shX11 G) (ltX11 hN) lkX11_10 rfl dX11_crossed_1 ?_
  refine go_iload_n C 1 rfl rfl dX11_crossed_4 ?_
  refine go_callV (as := [.int a1]) C hR (shX5 G) (ltX5 hN) cwX11_127 (Nat.le_trans (by decide) hd) (by decide) rfl rfl (Nat.le_of_ble_eq_true rfl) dX11_crossed_5 (spX5_has (Nat.le_refl _) hN hw) (fun v_ τ_ hw => ?_)
  obtain ⟨r_1, rfl, hw⟩ := hw
  obtain ⟨σ_2, rfl⟩ : ∃ z, z = τ_ := ⟨_, rfl⟩
  refine go_if_eq C 20 rfl dX11_crossed_8 (fun hc => ?_) (fun hc => ?_)
  · replace hw := hw.1 hc
    refine go_iconst (v := (-1)) C rfl dX11_crossed_20 ?_
    exact go_iret C hr ⟨_, rfl, hw⟩ dX11_crossed_21
  · replace hw := hw.2 hc
    refine go_iload_n C 2 rfl rfl dX11_crossed_11 ?_
    refine go_iconst (v := 0) C rfl dX11_crossed_12 ?_
    refine go_iconst (v := 1) C rfl dX11_crossed_13 ?_
    refine go_callS (as := [.int a2, .int 0, .int 1]) C hR cwX11_105 (Nat.le_trans (by decide) hd) (by decide) rfl rfl (Nat.le_of_ble_eq_true rfl) dX11_crossed_14 (spX11_within (Nat.le_refl _) hN hw) (fun v_ τ_ hw => ?_)
    obtain ⟨r_3, rfl, hw⟩ := hw
    obtain ⟨σ_4, rfl⟩ : ∃ z, z = τ_ := ⟨_, rfl⟩
    refine go_if_ne C 22 rfl dX11_crossed_17 (fun hc => ?_) (fun hc => ?_)
    · replace hw := hw.1 hc
      refine go_aload_n C 0 rfl rfl dX11_crossed_22 ?_
      refine go_get (v := .ref (G.2.2.1 52)) C (shX11 G) (ltX11 hN) lkX11_72 rfl dX11_crossed_23 ?_
      refine go_iload_n C 1 rfl rfl dX11_crossed_26 ?_
      refine go_callV (as := [.int a1]) C hR (shX10 G) (ltX10 hN) cwX11_290 (Nat.le_trans (by decide) hd) (by decide) rfl rfl (Nat.le_of_ble_eq_true rfl) dX11_crossed_27 (spX10_crossing (Nat.le_refl _) hN hw) (fun v_ τ_ hw => ?_)
      obtain ⟨r_5, rfl, hw⟩ := hw
      obtain ⟨σ_6, rfl⟩ : ∃ z, z = τ_ := ⟨_, rfl⟩
      refine go_istore_n (lv2 := [(3, .int r_5), (0, .ref (G.2.2.1 0)), (1, .int a1), (2, .int a2)]) C rfl (by rw [hnl]; decide) rfl dX11_crossed_30 ?_
      refine go_iload_n C 0 rfl rfl dX11_crossed_31 ?_
      refine go_iconst (v := (-1)) C rfl dX11_crossed_32 ?_
      refine go_icmp_eq C 40 rfl dX11_crossed_33 (fun hc => ?_) (fun hc => ?_)
      · replace hw := hw.1 hc
        refine go_iload_n C 0 rfl rfl dX11_crossed_40 ?_
        exact go_iret C hr ⟨_, rfl, hw⟩ dX11_crossed_41
      · replace hw := hw.2 hc
        refine go_iload_n C 3 rfl rfl dX11_crossed_36 ?_
        refine go_if_ne C 42 rfl dX11_crossed_37 (fun hc => ?_) (fun hc => ?_)
        · replace hw := hw.1 hc
          refine go_aload_n C 1 rfl rfl dX11_crossed_42 ?_
          refine go_get (v := .ref (G.2.2.1 52)) C (shX11 G) (ltX11 hN) lkX11_72 rfl dX11_crossed_43 ?_
          refine go_iload_n C 2 rfl rfl dX11_crossed_46 ?_
          refine go_iload_n C 0 rfl rfl dX11_crossed_47 ?_
          refine go_callV (as := [.int a1, .int r_5]) C hR (shX10 G) (ltX10 hN) cwX11_293 (Nat.le_trans (by decide) hd) (by decide) rfl rfl (Nat.le_of_ble_eq_true rfl) dX11_crossed_48 (spX10_boysAgain (Nat.le_refl _) hN hw) (fun v_ τ_ hw => ?_)
          obtain ⟨r_7, rfl, hw⟩ := hw
          obtain ⟨σ_8, rfl⟩ : ∃ z, z = τ_ := ⟨_, rfl⟩
          refine go_if_eq C 58 rfl dX11_crossed_51 (fun hc => ?_) (fun hc => ?_)
          · replace hw := hw.1 hc
            refine go_iconst (v := 0) C rfl dX11_crossed_58 ?_
            exact go_iret C hr ⟨_, rfl, hw⟩ dX11_crossed_59
          · replace hw := hw.2 hc
            refine go_iconst (v := 1) C rfl dX11_crossed_54 ?_
            refine go_goto C 59 rfl dX11_crossed_55 ?_
            exact go_iret C hr ⟨_, rfl, hw⟩ dX11_crossed_59
        · replace hw := hw.2 hc
          refine go_iload_n C 0 rfl rfl dX11_crossed_40 ?_
          exact go_iret C hr ⟨_, rfl, hw⟩ dX11_crossed_41
    · replace hw := hw.2 hc
      refine go_iconst (v := (-1)) C rfl dX11_crossed_20 ?_
      exact go_iret C hr ⟨_, rfl, hw⟩ dX11_crossed_21
-- CradleNames.returned(III)I
set_option maxRecDepth 20000 in
set_option maxHeartbeats 4000000 in
theorem spX11_returned {l : Launch} {G : GT} {d : Nat}  (hd : 5 ≤ d)  (hN : 75 ≤ G.2.2.2.2.2)  {a1 : Int32} {a2 : Int32} {a3 : Int32} {σ : St} {post : Int32 → St → Prop} (hw : wpX11_returned  a1 a2 a3 σ post) : Sp l G d yX11_returned cX11_returned 5 (some .int) [.ref (G.2.2.1 0), .int a1, .int a2, .int a3] σ (fun v τ => ∃ r : Int32, v = some (.int r) ∧ post r τ) := by
  refine Sp.of (by decide) (Nat.le_of_ble_eq_true rfl) fun X C hr hR hnl => ?_
  show Go X G 0 [(0, .ref (G.2.2.1 0)), (1, .int a1), (2, .int a2), (3, .int a3)] [] σ
  have hw : wpX5_has a1 σ (fun r_1 σ_2 =>
  ((r_1 = 0 →
    post (-1) σ_2) ∧
  (¬ r_1 = 0 →
    wpX11_within a2 1 60 σ_2 (fun r_3 σ_4 =>
    ((r_3 = 0 →
      post (-1) σ_4) ∧
    (¬ r_3 = 0 →
      wpX11_within a3 0 2 σ_4 (fun r_5 σ_6 =>
      ((¬ r_5 = 0 →
        wpX10_comesBack a1 a2 σ_6 (fun r_7 σ_8 =>
        ((r_7 = (-1) →
          post r_7 σ_8) ∧
        (¬ r_7 = (-1) →
          ((¬ a3 = 0 →
            ((¬ a3 = 1 →
              wpX10_livingAt a1 (r_7 - 1) σ_8 (fun r_9 σ_10 =>
              post r_9 σ_10)) ∧
            (a3 = 1 →
              wpX10_emptyAhead a1 r_7 σ_8 (fun r_11 σ_12 =>
              post r_11 σ_12)))) ∧
          (a3 = 0 →
            post r_7 σ_8)))))) ∧
      (r_5 = 0 →
        post (-1) σ_6))))))))) := hw
  refine go_aload_n C 0 rfl rfl dX11_returned_0 ?_
  refine go_get (v := .ref (G.2.2.1 1)) C (shX11 G) (ltX11 hN) lkX11_10 rfl dX11_returned_1 ?_
  refine go_iload_n C 1 rfl rfl dX11_returned_4 ?_
  refine go_callV (as := [.int a1]) C hR (shX5 G) (ltX5 hN) cwX11_127 (Nat.le_trans (by decide) hd) (by decide) rfl rfl (Nat.le_of_ble_eq_true rfl) dX11_returned_5 (spX5_has (Nat.le_refl _) hN hw) (fun v_ τ_ hw => ?_)
  obtain ⟨r_1, rfl, hw⟩ := hw
  obtain ⟨σ_2, rfl⟩ : ∃ z, z = τ_ := ⟨_, rfl⟩
  refine go_if_eq C 30 rfl dX11_returned_8 (fun hc => ?_) (fun hc => ?_)
  · replace hw := hw.1 hc
    refine go_iconst (v := (-1)) C rfl dX11_returned_30 ?_
    exact go_iret C hr ⟨_, rfl, hw⟩ dX11_returned_31
  · replace hw := hw.2 hc
    refine go_iload_n C 2 rfl rfl dX11_returned_11 ?_
    refine go_iconst (v := 1) C rfl dX11_returned_12 ?_
    refine go_bipush (v := 60) C rfl dX11_returned_13 ?_
    refine go_callS (as := [.int a2, .int 1, .int 60]) C hR cwX11_105 (Nat.le_trans (by decide) hd) (by decide) rfl rfl (Nat.le_of_ble_eq_true rfl) dX11_returned_15 (spX11_within (Nat.le_refl _) hN hw) (fun v_ τ_ hw => ?_)
    obtain ⟨r_3, rfl, hw⟩ := hw
    obtain ⟨σ_4, rfl⟩ : ∃ z, z = τ_ := ⟨_, rfl⟩
    refine go_if_eq C 30 rfl dX11_returned_18 (fun hc => ?_) (fun hc => ?_)
    · replace hw := hw.1 hc
      refine go_iconst (v := (-1)) C rfl dX11_returned_30 ?_
      exact go_iret C hr ⟨_, rfl, hw⟩ dX11_returned_31
    · replace hw := hw.2 hc
      refine go_iload_n C 3 rfl rfl dX11_returned_21 ?_
      refine go_iconst (v := 0) C rfl dX11_returned_22 ?_
      refine go_iconst (v := 2) C rfl dX11_returned_23 ?_
      refine go_callS (as := [.int a3, .int 0, .int 2]) C hR cwX11_105 (Nat.le_trans (by decide) hd) (by decide) rfl rfl (Nat.le_of_ble_eq_true rfl) dX11_returned_24 (spX11_within (Nat.le_refl _) hN hw) (fun v_ τ_ hw => ?_)
      obtain ⟨r_5, rfl, hw⟩ := hw
      obtain ⟨σ_6, rfl⟩ : ∃ z, z = τ_ := ⟨_, rfl⟩
      refine go_if_ne C 32 rfl dX11_returned_27 (fun hc => ?_) (fun hc => ?_)
      · replace hw := hw.1 hc
        refine go_aload_n C 0 rfl rfl dX11_returned_32 ?_
        refine go_get (v := .ref (G.2.2.1 52)) C (shX11 G) (ltX11 hN) lkX11_72 rfl dX11_returned_33 ?_
        refine go_iload_n C 1 rfl rfl dX11_returned_36 ?_
        refine go_iload_n C 2 rfl rfl dX11_returned_37 ?_
        refine go_callV (as := [.int a1, .int a2]) C hR (shX10 G) (ltX10 hN) cwX11_296 (Nat.le_trans (by decide) hd) (by decide) rfl rfl (Nat.le_of_ble_eq_true rfl) dX11_returned_38 (spX10_comesBack (Nat.le_refl _) hN hw) (fun v_ τ_ hw => ?_)
        obtain ⟨r_7, rfl, hw⟩ := hw
        obtain ⟨σ_8, rfl⟩ : ∃ z, z = τ_ := ⟨_, rfl⟩
        refine go_istore (lv2 := [(4, .int r_7), (0, .ref (G.2.2.1 0)), (1, .int a1), (2, .int a2), (3, .int a3)]) C (by rw [hnl]; decide) rfl dX11_returned_41 ?_
        refine go_iload C 0 rfl dX11_returned_43 ?_
        refine go_iconst (v := (-1)) C rfl dX11_returned_45 ?_
        refine go_icmp_eq C 53 rfl dX11_returned_46 (fun hc => ?_) (fun hc => ?_)
        · replace hw := hw.1 hc
          refine go_iload C 0 rfl dX11_returned_53 ?_
          exact go_iret C hr ⟨_, rfl, hw⟩ dX11_returned_55
        · replace hw := hw.2 hc
          refine go_iload_n C 4 rfl rfl dX11_returned_49 ?_
          refine go_if_ne C 56 rfl dX11_returned_50 (fun hc => ?_) (fun hc => ?_)
          · replace hw := hw.1 hc
            refine go_iload_n C 4 rfl rfl dX11_returned_56 ?_
            refine go_iconst (v := 1) C rfl dX11_returned_57 ?_
            refine go_icmp_ne C 74 rfl dX11_returned_58 (fun hc => ?_) (fun hc => ?_)
            · replace hw := hw.1 hc
              refine go_aload_n C 1 rfl rfl dX11_returned_74 ?_
              refine go_get (v := .ref (G.2.2.1 52)) C (shX11 G) (ltX11 hN) lkX11_72 rfl dX11_returned_75 ?_
              refine go_iload_n C 2 rfl rfl dX11_returned_78 ?_
              refine go_iload C 0 rfl dX11_returned_79 ?_
              refine go_iconst (v := 1) C rfl dX11_returned_81 ?_
              refine go_isub C dX11_returned_82 ?_
              refine go_callV (as := [.int a1, .int (r_7 - 1)]) C hR (shX10 G) (ltX10 hN) cwX11_145 (Nat.le_trans (by decide) hd) (by decide) rfl rfl (Nat.le_of_ble_eq_true rfl) dX11_returned_83 (spX10_livingAt (Nat.le_refl _) hN hw) (fun v_ τ_ hw => ?_)
              obtain ⟨r_9, rfl, hw⟩ := hw
              obtain ⟨σ_10, rfl⟩ : ∃ z, z = τ_ := ⟨_, rfl⟩
              exact go_iret C hr ⟨_, rfl, hw⟩ dX11_returned_86
            · replace hw := hw.2 hc
              refine go_aload_n C 1 rfl rfl dX11_returned_61 ?_
              refine go_get (v := .ref (G.2.2.1 52)) C (shX11 G) (ltX11 hN) lkX11_72 rfl dX11_returned_62 ?_
              refine go_iload_n C 2 rfl rfl dX11_returned_65 ?_
              refine go_iload C 0 rfl dX11_returned_66 ?_
              refine go_callV (as := [.int a1, .int r_7]) C hR (shX10 G) (ltX10 hN) cwX11_299 (Nat.le_trans (by decide) hd) (by decide) rfl rfl (Nat.le_of_ble_eq_true rfl) dX11_returned_68 (spX10_emptyAhead (Nat.le_refl _) hN hw) (fun v_ τ_ hw => ?_)
              obtain ⟨r_11, rfl, hw⟩ := hw
              obtain ⟨σ_12, rfl⟩ : ∃ z, z = τ_ := ⟨_, rfl⟩
              refine go_goto C 86 rfl dX11_returned_71 ?_
              exact go_iret C hr ⟨_, rfl, hw⟩ dX11_returned_86
          · replace hw := hw.2 hc
            refine go_iload C 0 rfl dX11_returned_53 ?_
            exact go_iret C hr ⟨_, rfl, hw⟩ dX11_returned_55
      · replace hw := hw.2 hc
        refine go_iconst (v := (-1)) C rfl dX11_returned_30 ?_
        exact go_iret C hr ⟨_, rfl, hw⟩ dX11_returned_31
-- CradleNames.room(IIIZ)I
set_option maxRecDepth 20000 in
set_option maxHeartbeats 4000000 in
theorem spX11_room {l : Launch} {G : GT} {d : Nat}  (hd : 55 ≤ d)  (hN : 75 ≤ G.2.2.2.2.2)  {a1 : Int32} {a2 : Int32} {a3 : Int32} {a4 : Int32} {σ : St} {post : Int32 → St → Prop} (hw : wpX11_room  a1 a2 a3 a4 σ post) : Sp l G d yX11_room cX11_room 5 (some .int) [.ref (G.2.2.1 0), .int a1, .int a2, .int a3, .int a4] σ (fun v τ => ∃ r : Int32, v = some (.int r) ∧ post r τ) := by
  refine Sp.of (by decide) (Nat.le_of_ble_eq_true rfl) fun X C hr hR hnl => ?_
  show Go X G 0 [(0, .ref (G.2.2.1 0)), (1, .int a1), (2, .int a2), (3, .int a3), (4, .int a4)] [] σ
  have hw : wpX11_within a1 0 2 σ (fun r_1 σ_2 =>
  ((r_1 = 0 →
    post (-1) σ_2) ∧
  (¬ r_1 = 0 →
    wpX4_wentBy a2 σ_2 (fun r_3 σ_4 =>
    ((r_3 = 0 →
      post (-1) σ_4) ∧
    (¬ r_3 = 0 →
      wpX11_within a3 2 8 σ_4 (fun r_5 σ_6 =>
      ((¬ r_5 = 0 →
        wpX10_sharing a1 a2 a3 a4 σ_6 (fun r_7 σ_8 =>
        post r_7 σ_8)) ∧
      (r_5 = 0 →
        post (-1) σ_6))))))))) := hw
  refine go_iload_n C 1 rfl rfl dX11_room_0 ?_
  refine go_iconst (v := 0) C rfl dX11_room_1 ?_
  refine go_iconst (v := 2) C rfl dX11_room_2 ?_
  refine go_callS (as := [.int a1, .int 0, .int 2]) C hR cwX11_105 (Nat.le_trans (by decide) hd) (by decide) rfl rfl (Nat.le_of_ble_eq_true rfl) dX11_room_3 (spX11_within (Nat.le_refl _) hN hw) (fun v_ τ_ hw => ?_)
  obtain ⟨r_1, rfl, hw⟩ := hw
  obtain ⟨σ_2, rfl⟩ : ∃ z, z = τ_ := ⟨_, rfl⟩
  refine go_if_eq C 30 rfl dX11_room_6 (fun hc => ?_) (fun hc => ?_)
  · replace hw := hw.1 hc
    refine go_iconst (v := (-1)) C rfl dX11_room_30 ?_
    exact go_iret C hr ⟨_, rfl, hw⟩ dX11_room_31
  · replace hw := hw.2 hc
    refine go_aload_n C 0 rfl rfl dX11_room_9 ?_
    refine go_get (v := .ref (G.2.2.1 9)) C (shX11 G) (ltX11 hN) lkX11_19 rfl dX11_room_10 ?_
    refine go_iload_n C 2 rfl rfl dX11_room_13 ?_
    refine go_callV (as := [.int a2]) C hR (shX4 G) (ltX4 hN) cwX11_243 (Nat.le_trans (by decide) hd) (by decide) rfl rfl (Nat.le_of_ble_eq_true rfl) dX11_room_14 (spX4_wentBy (Nat.le_refl _) hN hw) (fun v_ τ_ hw => ?_)
    obtain ⟨r_3, rfl, hw⟩ := hw
    obtain ⟨σ_4, rfl⟩ : ∃ z, z = τ_ := ⟨_, rfl⟩
    refine go_if_eq C 30 rfl dX11_room_17 (fun hc => ?_) (fun hc => ?_)
    · replace hw := hw.1 hc
      refine go_iconst (v := (-1)) C rfl dX11_room_30 ?_
      exact go_iret C hr ⟨_, rfl, hw⟩ dX11_room_31
    · replace hw := hw.2 hc
      refine go_iload_n C 3 rfl rfl dX11_room_20 ?_
      refine go_iconst (v := 2) C rfl dX11_room_21 ?_
      refine go_bipush (v := 8) C rfl dX11_room_22 ?_
      refine go_callS (as := [.int a3, .int 2, .int 8]) C hR cwX11_105 (Nat.le_trans (by decide) hd) (by decide) rfl rfl (Nat.le_of_ble_eq_true rfl) dX11_room_24 (spX11_within (Nat.le_refl _) hN hw) (fun v_ τ_ hw => ?_)
      obtain ⟨r_5, rfl, hw⟩ := hw
      obtain ⟨σ_6, rfl⟩ : ∃ z, z = τ_ := ⟨_, rfl⟩
      refine go_if_ne C 32 rfl dX11_room_27 (fun hc => ?_) (fun hc => ?_)
      · replace hw := hw.1 hc
        refine go_aload_n C 0 rfl rfl dX11_room_32 ?_
        refine go_get (v := .ref (G.2.2.1 52)) C (shX11 G) (ltX11 hN) lkX11_72 rfl dX11_room_33 ?_
        refine go_iload_n C 1 rfl rfl dX11_room_36 ?_
        refine go_iload_n C 2 rfl rfl dX11_room_37 ?_
        refine go_iload_n C 3 rfl rfl dX11_room_38 ?_
        refine go_iload C 4 rfl dX11_room_39 ?_
        refine go_callV (as := [.int a1, .int a2, .int a3, .int a4]) C hR (shX10 G) (ltX10 hN) cwX11_302 (Nat.le_trans (by decide) hd) (by decide) rfl rfl (Nat.le_of_ble_eq_true rfl) dX11_room_41 (spX10_sharing (Nat.le_refl _) hN hw) (fun v_ τ_ hw => ?_)
        obtain ⟨r_7, rfl, hw⟩ := hw
        obtain ⟨σ_8, rfl⟩ : ∃ z, z = τ_ := ⟨_, rfl⟩
        exact go_iret C hr ⟨_, rfl, hw⟩ dX11_room_44
      · replace hw := hw.2 hc
        refine go_iconst (v := (-1)) C rfl dX11_room_30 ?_
        exact go_iret C hr ⟨_, rfl, hw⟩ dX11_room_31
-- CradleNames.best(IIII)I
set_option maxRecDepth 20000 in
set_option maxHeartbeats 4000000 in
theorem gbX11_best_137 {X : XT} {G : GT} {l : Launch} {d : Nat}  {post : Int32 → St → Prop} (C : Cx X G cX11_best RX11) (hr : Rt X G (some .int) (fun v τ => ∃ r : Int32, v = some (.int r) ∧ post r τ)) (hR : Rm X l d) (hnl : X.2.2.2.2.2.2.2.2.2.2.1 = 10)  (hd : 6 ≤ d) (hN : 75 ≤ G.2.2.2.2.2)  {K52 : Int32 → Int32 → Int32 → Int32 → Int32 → St → Prop} (hK52 : ∀ (v1 : Int32) (v4 : Int32) (v5 : Int32) (v6 : Int32) (v7 : Int32) (σ : St), K52 v1 v4 v5 v6 v7 σ → Go X G 52 [(0, .ref (G.2.2.1 0)), (1, .int v1), (4, .int v4), (5, .int v5), (6, .int v6), (7, .int v7)] [] σ)
    : ∀ (v1 : Int32) (v4 : Int32) (v5 : Int32) (v6 : Int32) (v7 : Int32) (v8 : Int32) (s0 : Int32) (σ : St), wbX11_best_137  K52 post v1 v4 v5 v6 v7 v8 s0 σ → Go X G 137 [(0, .ref (G.2.2.1 0)), (1, .int v1), (4, .int v4), (5, .int v5), (6, .int v6), (7, .int v7), (8, .int v8)] [.int s0] σ := by
  intro v1 v4 v5 v6 v7 v8 s0 σ hw
  have hw : ((s0 = 0 →
    ∀ v7_1 : Int32, v7_1 = v7 + 1 →
    K52 v1 v4 v5 v6 v7_1 σ) ∧
  (¬ s0 = 0 →
    ∀ v7_2 : Int32, v7_2 = v7 + 1 →
    K52 v1 v4 v7 v8 v7_2 σ)) := hw
  refine go_istore (lv2 := [(9, .int s0), (0, .ref (G.2.2.1 0)), (1, .int v1), (4, .int v4), (5, .int v5), (6, .int v6), (7, .int v7), (8, .int v8)]) C (by rw [hnl]; decide) rfl dX11_best_137 ?_
  refine go_iload C 0 rfl dX11_best_139 ?_
  refine go_if_eq C 152 rfl dX11_best_141 (fun hc => ?_) (fun hc => ?_)
  · replace hw := hw.1 hc
    obtain ⟨v7_1, ev7_1⟩ : ∃ z : Int32, z = v7 + 1 := ⟨_, rfl⟩
    replace hw := hw v7_1 ev7_1
    refine go_iinc (v := v7_1) (lv2 := [(7, .int v7_1), (9, .int s0), (0, .ref (G.2.2.1 0)), (1, .int v1), (4, .int v4), (5, .int v5), (6, .int v6), (8, .int v8)]) C 6 rfl (by rw [ev7_1]; rfl) (by rw [hnl]; decide) rfl dX11_best_152 ?_
    refine go_goto C 52 rfl dX11_best_155 ?_
    refine go_sub [2, 3, 4, 5, 6, 0] rfl ?_
    exact hK52 _ _ _ _ _ _ hw
  · replace hw := hw.2 hc
    refine go_iload C 6 rfl dX11_best_144 ?_
    refine go_istore (lv2 := [(5, .int v7), (9, .int s0), (0, .ref (G.2.2.1 0)), (1, .int v1), (4, .int v4), (6, .int v6), (7, .int v7), (8, .int v8)]) C (by rw [hnl]; decide) rfl dX11_best_146 ?_
    refine go_iload C 7 rfl dX11_best_148 ?_
    refine go_istore (lv2 := [(6, .int v8), (5, .int v7), (9, .int s0), (0, .ref (G.2.2.1 0)), (1, .int v1), (4, .int v4), (7, .int v7), (8, .int v8)]) C (by rw [hnl]; decide) rfl dX11_best_150 ?_
    obtain ⟨v7_2, ev7_2⟩ : ∃ z : Int32, z = v7 + 1 := ⟨_, rfl⟩
    replace hw := hw v7_2 ev7_2
    refine go_iinc (v := v7_2) (lv2 := [(7, .int v7_2), (6, .int v8), (5, .int v7), (9, .int s0), (0, .ref (G.2.2.1 0)), (1, .int v1), (4, .int v4), (8, .int v8)]) C 6 rfl (by rw [ev7_2]; rfl) (by rw [hnl]; decide) rfl dX11_best_152 ?_
    refine go_goto C 52 rfl dX11_best_155 ?_
    refine go_sub [4, 5, 6, 2, 1, 0] rfl ?_
    exact hK52 _ _ _ _ _ _ hw
set_option maxRecDepth 20000 in
set_option maxHeartbeats 4000000 in
theorem gbX11_best_52 {X : XT} {G : GT} {l : Launch} {d : Nat}  {post : Int32 → St → Prop} (C : Cx X G cX11_best RX11) (hr : Rt X G (some .int) (fun v τ => ∃ r : Int32, v = some (.int r) ∧ post r τ)) (hR : Rm X l d) (hnl : X.2.2.2.2.2.2.2.2.2.2.1 = 10)  (hd : 6 ≤ d) (hN : 75 ≤ G.2.2.2.2.2)   
    : ∀ (n : Nat) (v1 : Int32) (v4 : Int32) (v5 : Int32) (v6 : Int32) (v7 : Int32) (σ : St), wbX11_best_52   post n v1 v4 v5 v6 v7 σ → Go X G 52 [(0, .ref (G.2.2.1 0)), (1, .int v1), (4, .int v4), (5, .int v5), (6, .int v6), (7, .int v7)] [] σ := by
  intro n
  induction n with
  | zero => intro v1 v4 v5 v6 v7 σ hw; exact hw.elim
  | succ n ih =>
    intro v1 v4 v5 v6 v7 σ hw
    have hw : (((gI σ 1 0) ≤ v7 →
      ((v5 = (-1) →
        post v5 σ) ∧
      (¬ v5 = (-1) →
        ((¬ v4 = 0 →
          post v6 σ) ∧
        (v4 = 0 →
          post v5 σ))))) ∧
    (¬ (gI σ 1 0) ≤ v7 →
      vp_in v7 16 ∧ (
      (((gI σ 50 v7.toNatClampNeg) = 0 →
        ∀ v7_1 : Int32, v7_1 = v7 + 1 →
        wbX11_best_52 post n v1 v4 v5 v6 v7_1 σ) ∧
      (¬ (gI σ 50 v7.toNatClampNeg) = 0 →
        wpX10_akinLastYear v1 v7 σ (fun r_2 σ_3 =>
        ((v5 = (-1) →
          wbX11_best_137 (wbX11_best_52 post n) post v1 v4 v5 v6 v7 r_2 1 σ_3) ∧
        (¬ v5 = (-1) →
          ((r_2 < v6 →
            wbX11_best_137 (wbX11_best_52 post n) post v1 v4 v5 v6 v7 r_2 1 σ_3) ∧
          (¬ r_2 < v6 →
            ((¬ r_2 = v6 →
              wbX11_best_137 (wbX11_best_52 post n) post v1 v4 v5 v6 v7 r_2 0 σ_3) ∧
            (r_2 = v6 →
              vp_in v7 16 ∧ (
              vp_in v5 16 ∧ (
              (((gI σ_3 49 v7.toNatClampNeg) ≤ (gI σ_3 49 v5.toNatClampNeg) →
                wbX11_best_137 (wbX11_best_52 post n) post v1 v4 v5 v6 v7 r_2 0 σ_3) ∧
              (¬ (gI σ_3 49 v7.toNatClampNeg) ≤ (gI σ_3 49 v5.toNatClampNeg) →
                wbX11_best_137 (wbX11_best_52 post n) post v1 v4 v5 v6 v7 r_2 1 σ_3)))))))))))))))) := hw
    refine go_iload C 5 rfl dX11_best_52 ?_
    refine go_aload_n C 0 rfl rfl dX11_best_54 ?_
    refine go_get (v := .ref (G.2.2.1 1)) C (shX11 G) (ltX11 hN) lkX11_10 rfl dX11_best_55 ?_
    refine go_get (v := .int (gI σ 1 0)) C (shX5 G) (ltX5 hN) lkX11_109 rfl dX11_best_58 ?_
    refine go_icmp_ge C 158 rfl dX11_best_61 (fun hc => ?_) (fun hc => ?_)
    · replace hw := hw.1 hc
      refine go_iload C 3 rfl dX11_best_158 ?_
      refine go_iconst (v := (-1)) C rfl dX11_best_160 ?_
      refine go_icmp_eq C 169 rfl dX11_best_161 (fun hc => ?_) (fun hc => ?_)
      · replace hw := hw.1 hc
        refine go_iload C 3 rfl dX11_best_169 ?_
        refine go_goto C 176 rfl dX11_best_171 ?_
        exact go_iret C hr ⟨_, rfl, hw⟩ dX11_best_176
      · replace hw := hw.2 hc
        refine go_iload C 2 rfl dX11_best_164 ?_
        refine go_if_ne C 174 rfl dX11_best_166 (fun hc => ?_) (fun hc => ?_)
        · replace hw := hw.1 hc
          refine go_iload C 4 rfl dX11_best_174 ?_
          exact go_iret C hr ⟨_, rfl, hw⟩ dX11_best_176
        · replace hw := hw.2 hc
          refine go_iload C 3 rfl dX11_best_169 ?_
          refine go_goto C 176 rfl dX11_best_171 ?_
          exact go_iret C hr ⟨_, rfl, hw⟩ dX11_best_176
    · replace hw := hw.2 hc
      refine go_aload_n C 0 rfl rfl dX11_best_64 ?_
      refine go_get (v := .ref (G.2.2.1 47)) C (shX11 G) (ltX11 hN) lkX11_54 rfl dX11_best_65 ?_
      refine go_get (v := .ref (G.2.2.1 50)) C (shX3 G) (ltX3 hN) lkX11_257 rfl dX11_best_68 ?_
      refine go_iload C 5 rfl dX11_best_71 ?_
      refine go_zald C (saX3_mays G) (laX3_mays hN) hw.1 dX11_best_73 ?_
      replace hw := hw.2
      refine go_if_eq C 152 rfl dX11_best_74 (fun hc => ?_) (fun hc => ?_)
      · replace hw := hw.1 hc
        obtain ⟨v7_1, ev7_1⟩ : ∃ z : Int32, z = v7 + 1 := ⟨_, rfl⟩
        replace hw := hw v7_1 ev7_1
        refine go_iinc (v := v7_1) (lv2 := [(7, .int v7_1), (0, .ref (G.2.2.1 0)), (1, .int v1), (4, .int v4), (5, .int v5), (6, .int v6)]) C 5 rfl (by rw [ev7_1]; rfl) (by rw [hnl]; decide) rfl dX11_best_152 ?_
        refine go_goto C 52 rfl dX11_best_155 ?_
        refine go_sub [1, 2, 3, 4, 5, 0] rfl ?_
        exact ih _ _ _ _ _ _ hw
      · replace hw := hw.2 hc
        refine go_aload_n C 0 rfl rfl dX11_best_77 ?_
        refine go_get (v := .ref (G.2.2.1 52)) C (shX11 G) (ltX11 hN) lkX11_72 rfl dX11_best_78 ?_
        refine go_iload_n C 1 rfl rfl dX11_best_81 ?_
        refine go_iload C 5 rfl dX11_best_82 ?_
        refine go_callV (as := [.int v1, .int v7]) C hR (shX10 G) (ltX10 hN) cwX11_306 (Nat.le_trans (by decide) hd) (by decide) rfl rfl (Nat.le_of_ble_eq_true rfl) dX11_best_84 (spX10_akinLastYear (Nat.le_refl _) hN hw) (fun v_ τ_ hw => ?_)
        obtain ⟨r_2, rfl, hw⟩ := hw
        obtain ⟨σ_3, rfl⟩ : ∃ z, z = τ_ := ⟨_, rfl⟩
        refine go_istore (lv2 := [(8, .int r_2), (0, .ref (G.2.2.1 0)), (1, .int v1), (4, .int v4), (5, .int v5), (6, .int v6), (7, .int v7)]) C (by rw [hnl]; decide) rfl dX11_best_87 ?_
        refine go_iload C 4 rfl dX11_best_89 ?_
        refine go_iconst (v := (-1)) C rfl dX11_best_91 ?_
        refine go_icmp_eq C 132 rfl dX11_best_92 (fun hc => ?_) (fun hc => ?_)
        · replace hw := hw.1 hc
          refine go_iconst (v := 1) C rfl dX11_best_132 ?_
          refine go_goto C 137 rfl dX11_best_133 ?_
          refine go_sub [1, 2, 3, 4, 5, 6, 0] rfl ?_
          exact (gbX11_best_137 C hr hR hnl hd hN ih) _ _ _ _ _ _ _ _ hw
        · replace hw := hw.2 hc
          refine go_iload C 0 rfl dX11_best_95 ?_
          refine go_iload C 5 rfl dX11_best_97 ?_
          refine go_icmp_lt C 132 rfl dX11_best_99 (fun hc => ?_) (fun hc => ?_)
          · replace hw := hw.1 hc
            refine go_iconst (v := 1) C rfl dX11_best_132 ?_
            refine go_goto C 137 rfl dX11_best_133 ?_
            refine go_sub [1, 2, 3, 4, 5, 6, 0] rfl ?_
            exact (gbX11_best_137 C hr hR hnl hd hN ih) _ _ _ _ _ _ _ _ hw
          · replace hw := hw.2 hc
            refine go_iload C 0 rfl dX11_best_102 ?_
            refine go_iload C 5 rfl dX11_best_104 ?_
            refine go_icmp_ne C 136 rfl dX11_best_106 (fun hc => ?_) (fun hc => ?_)
            · replace hw := hw.1 hc
              refine go_iconst (v := 0) C rfl dX11_best_136 ?_
              refine go_sub [1, 2, 3, 4, 5, 6, 0] rfl ?_
              exact (gbX11_best_137 C hr hR hnl hd hN ih) _ _ _ _ _ _ _ _ hw
            · replace hw := hw.2 hc
              refine go_aload_n C 1 rfl rfl dX11_best_109 ?_
              refine go_get (v := .ref (G.2.2.1 47)) C (shX11 G) (ltX11 hN) lkX11_54 rfl dX11_best_110 ?_
              refine go_get (v := .ref (G.2.2.1 49)) C (shX3 G) (ltX3 hN) lkX11_254 rfl dX11_best_113 ?_
              refine go_iload C 6 rfl dX11_best_116 ?_
              refine go_iald C (saX3_worths G) (laX3_worths hN) hw.1 dX11_best_118 ?_
              replace hw := hw.2
              refine go_aload_n C 1 rfl rfl dX11_best_119 ?_
              refine go_get (v := .ref (G.2.2.1 47)) C (shX11 G) (ltX11 hN) lkX11_54 rfl dX11_best_120 ?_
              refine go_get (v := .ref (G.2.2.1 49)) C (shX3 G) (ltX3 hN) lkX11_254 rfl dX11_best_123 ?_
              refine go_iload C 4 rfl dX11_best_126 ?_
              refine go_iald C (saX3_worths G) (laX3_worths hN) hw.1 dX11_best_128 ?_
              replace hw := hw.2
              refine go_icmp_le C 136 rfl dX11_best_129 (fun hc => ?_) (fun hc => ?_)
              · replace hw := hw.1 hc
                refine go_iconst (v := 0) C rfl dX11_best_136 ?_
                refine go_sub [1, 2, 3, 4, 5, 6, 0] rfl ?_
                exact (gbX11_best_137 C hr hR hnl hd hN ih) _ _ _ _ _ _ _ _ hw
              · replace hw := hw.2 hc
                refine go_iconst (v := 1) C rfl dX11_best_132 ?_
                refine go_goto C 137 rfl dX11_best_133 ?_
                refine go_sub [1, 2, 3, 4, 5, 6, 0] rfl ?_
                exact (gbX11_best_137 C hr hR hnl hd hN ih) _ _ _ _ _ _ _ _ hw
set_option maxRecDepth 20000 in
set_option maxHeartbeats 4000000 in
theorem spX11_best {l : Launch} {G : GT} {d : Nat}  (hd : 6 ≤ d)  (hN : 75 ≤ G.2.2.2.2.2)  {a1 : Int32} {a2 : Int32} {a3 : Int32} {a4 : Int32} {σ : St} {post : Int32 → St → Prop} (hw : wpX11_best  a1 a2 a3 a4 σ post) : Sp l G d yX11_best cX11_best 10 (some .int) [.ref (G.2.2.1 0), .int a1, .int a2, .int a3, .int a4] σ (fun v τ => ∃ r : Int32, v = some (.int r) ∧ post r τ) := by
  refine Sp.of (by decide) (Nat.le_of_ble_eq_true rfl) fun X C hr hR hnl => ?_
  show Go X G 0 [(0, .ref (G.2.2.1 0)), (1, .int a1), (2, .int a2), (3, .int a3), (4, .int a4)] [] σ
  have hw : wpX11_isRow a1 a2 a3 σ (fun r_1 σ_2 =>
  ((r_1 = 0 →
    post (-1) σ_2) ∧
  (¬ r_1 = 0 →
    wpX11_within a4 0 1 σ_2 (fun r_3 σ_4 =>
    ((r_3 = 0 →
      post (-1) σ_4) ∧
    (¬ r_3 = 0 →
      ((¬ (gI σ_4 9 0) = 0 →
        wpX11_weighAll a1 a2 a3 σ_4 (fun r_5 σ_6 =>
        ((¬ r_5 = 0 →
          ∃ m_52, wbX11_best_52 post m_52 a1 a4 (-1) 0 0 σ_6) ∧
        (r_5 = 0 →
          post (-1) σ_6)))) ∧
      ((gI σ_4 9 0) = 0 →
        post (-1) σ_4)))))))) := hw
  refine go_iload_n C 1 rfl rfl dX11_best_0 ?_
  refine go_iload_n C 2 rfl rfl dX11_best_1 ?_
  refine go_iload_n C 3 rfl rfl dX11_best_2 ?_
  refine go_callS (as := [.int a1, .int a2, .int a3]) C hR cwX11_153 (Nat.le_trans (by decide) hd) (by decide) rfl rfl (Nat.le_of_ble_eq_true rfl) dX11_best_3 (spX11_isRow (Nat.le_refl _) hN hw) (fun v_ τ_ hw => ?_)
  obtain ⟨r_1, rfl, hw⟩ := hw
  obtain ⟨σ_2, rfl⟩ : ∃ z, z = τ_ := ⟨_, rfl⟩
  refine go_if_eq C 29 rfl dX11_best_6 (fun hc => ?_) (fun hc => ?_)
  · replace hw := hw.1 hc
    refine go_iconst (v := (-1)) C rfl dX11_best_29 ?_
    exact go_iret C hr ⟨_, rfl, hw⟩ dX11_best_30
  · replace hw := hw.2 hc
    refine go_iload C 4 rfl dX11_best_9 ?_
    refine go_iconst (v := 0) C rfl dX11_best_11 ?_
    refine go_iconst (v := 1) C rfl dX11_best_12 ?_
    refine go_callS (as := [.int a4, .int 0, .int 1]) C hR cwX11_105 (Nat.le_trans (by decide) hd) (by decide) rfl rfl (Nat.le_of_ble_eq_true rfl) dX11_best_13 (spX11_within (Nat.le_refl _) hN hw) (fun v_ τ_ hw => ?_)
    obtain ⟨r_3, rfl, hw⟩ := hw
    obtain ⟨σ_4, rfl⟩ : ∃ z, z = τ_ := ⟨_, rfl⟩
    refine go_if_eq C 29 rfl dX11_best_16 (fun hc => ?_) (fun hc => ?_)
    · replace hw := hw.1 hc
      refine go_iconst (v := (-1)) C rfl dX11_best_29 ?_
      exact go_iret C hr ⟨_, rfl, hw⟩ dX11_best_30
    · replace hw := hw.2 hc
      refine go_aload_n C 0 rfl rfl dX11_best_19 ?_
      refine go_get (v := .ref (G.2.2.1 9)) C (shX11 G) (ltX11 hN) lkX11_19 rfl dX11_best_20 ?_
      refine go_get (v := .int (gI σ_4 9 0)) C (shX4 G) (ltX4 hN) lkX11_120 rfl dX11_best_23 ?_
      refine go_if_ne C 31 rfl dX11_best_26 (fun hc => ?_) (fun hc => ?_)
      · replace hw := hw.1 hc
        refine go_aload_n C 0 rfl rfl dX11_best_31 ?_
        refine go_iload_n C 1 rfl rfl dX11_best_32 ?_
        refine go_iload_n C 2 rfl rfl dX11_best_33 ?_
        refine go_iload_n C 3 rfl rfl dX11_best_34 ?_
        refine go_callV (as := [.int a1, .int a2, .int a3]) C hR (shX11 G) (ltX11 hN) cwX11_246 (Nat.le_trans (by decide) hd) (by decide) rfl rfl (Nat.le_of_ble_eq_true rfl) dX11_best_35 (spX11_weighAll (Nat.le_refl _) hN hw) (fun v_ τ_ hw => ?_)
        obtain ⟨r_5, rfl, hw⟩ := hw
        obtain ⟨σ_6, rfl⟩ : ∃ z, z = τ_ := ⟨_, rfl⟩
        refine go_if_ne C 43 rfl dX11_best_38 (fun hc => ?_) (fun hc => ?_)
        · replace hw := hw.1 hc
          refine go_iconst (v := (-1)) C rfl dX11_best_43 ?_
          refine go_istore (lv2 := [(5, .int (-1)), (0, .ref (G.2.2.1 0)), (1, .int a1), (2, .int a2), (3, .int a3), (4, .int a4)]) C (by rw [hnl]; decide) rfl dX11_best_44 ?_
          refine go_iconst (v := 0) C rfl dX11_best_46 ?_
          refine go_istore (lv2 := [(6, .int 0), (5, .int (-1)), (0, .ref (G.2.2.1 0)), (1, .int a1), (2, .int a2), (3, .int a3), (4, .int a4)]) C (by rw [hnl]; decide) rfl dX11_best_47 ?_
          refine go_iconst (v := 0) C rfl dX11_best_49 ?_
          refine go_istore (lv2 := [(7, .int 0), (6, .int 0), (5, .int (-1)), (0, .ref (G.2.2.1 0)), (1, .int a1), (2, .int a2), (3, .int a3), (4, .int a4)]) C (by rw [hnl]; decide) rfl dX11_best_50 ?_
          refine go_sub [3, 4, 7, 2, 1, 0] rfl ?_
          obtain ⟨n_0, hw⟩ := hw
          exact (gbX11_best_52 C hr hR hnl hd hN) n_0 _ _ _ _ _ _ hw
        · replace hw := hw.2 hc
          refine go_iconst (v := (-1)) C rfl dX11_best_41 ?_
          exact go_iret C hr ⟨_, rfl, hw⟩ dX11_best_42
      · replace hw := hw.2 hc
        refine go_iconst (v := (-1)) C rfl dX11_best_29 ?_
        exact go_iret C hr ⟨_, rfl, hw⟩ dX11_best_30
-- CradleNames.age(III)I
set_option maxRecDepth 20000 in
set_option maxHeartbeats 4000000 in
theorem spX11_age {l : Launch} {G : GT} {d : Nat}  (hd : 5 ≤ d)  (hN : 75 ≤ G.2.2.2.2.2)  {a1 : Int32} {a2 : Int32} {a3 : Int32} {σ : St} {post : Int32 → St → Prop} (hw : wpX11_age  a1 a2 a3 σ post) : Sp l G d yX11_age cX11_age 6 (some .int) [.ref (G.2.2.1 0), .int a1, .int a2, .int a3] σ (fun v τ => ∃ r : Int32, v = some (.int r) ∧ post r τ) := by
  refine Sp.of (by decide) (Nat.le_of_ble_eq_true rfl) fun X C hr hR hnl => ?_
  show Go X G 0 [(0, .ref (G.2.2.1 0)), (1, .int a1), (2, .int a2), (3, .int a3)] [] σ
  have hw : wpX5_has a1 σ (fun r_1 σ_2 =>
  ((r_1 = 0 →
    post (-1000) σ_2) ∧
  (¬ r_1 = 0 →
    wpX11_within a2 1 100 σ_2 (fun r_3 σ_4 =>
    ((r_3 = 0 →
      post (-1000) σ_4) ∧
    (¬ r_3 = 0 →
      wpX11_within a3 0 2 σ_4 (fun r_5 σ_6 =>
      ((¬ r_5 = 0 →
        wpX10_livingAt a1 ((gI σ_6 9 0) - 1) σ_6 (fun r_7 σ_8 =>
        ((¬ r_7 = 0 →
          ((¬ a3 = 2 →
            wpX10_shortestSpan a1 a2 σ_8 (fun r_9 σ_10 =>
            wpX10_spanStart a1 a2 r_9 σ_10 (fun r_11 σ_12 =>
            ((¬ a3 = 0 →
              post ((r_11 + r_9) - 1) σ_12) ∧
            (a3 = 0 →
              post r_11 σ_12))))) ∧
          (a3 = 2 →
            wpX10_halfBorn a1 σ_8 (fun r_13 σ_14 =>
            post r_13 σ_14)))) ∧
        (r_7 = 0 →
          post (-1000) σ_8)))) ∧
      (r_5 = 0 →
        post (-1000) σ_6))))))))) := hw
  refine go_aload_n C 0 rfl rfl dX11_age_0 ?_
  refine go_get (v := .ref (G.2.2.1 1)) C (shX11 G) (ltX11 hN) lkX11_10 rfl dX11_age_1 ?_
  refine go_iload_n C 1 rfl rfl dX11_age_4 ?_
  refine go_callV (as := [.int a1]) C hR (shX5 G) (ltX5 hN) cwX11_127 (Nat.le_trans (by decide) hd) (by decide) rfl rfl (Nat.le_of_ble_eq_true rfl) dX11_age_5 (spX5_has (Nat.le_refl _) hN hw) (fun v_ τ_ hw => ?_)
  obtain ⟨r_1, rfl, hw⟩ := hw
  obtain ⟨σ_2, rfl⟩ : ∃ z, z = τ_ := ⟨_, rfl⟩
  refine go_if_eq C 30 rfl dX11_age_8 (fun hc => ?_) (fun hc => ?_)
  · replace hw := hw.1 hc
    refine go_sipush (v := (-1000)) C rfl dX11_age_30 ?_
    exact go_iret C hr ⟨_, rfl, hw⟩ dX11_age_33
  · replace hw := hw.2 hc
    refine go_iload_n C 2 rfl rfl dX11_age_11 ?_
    refine go_iconst (v := 1) C rfl dX11_age_12 ?_
    refine go_bipush (v := 100) C rfl dX11_age_13 ?_
    refine go_callS (as := [.int a2, .int 1, .int 100]) C hR cwX11_105 (Nat.le_trans (by decide) hd) (by decide) rfl rfl (Nat.le_of_ble_eq_true rfl) dX11_age_15 (spX11_within (Nat.le_refl _) hN hw) (fun v_ τ_ hw => ?_)
    obtain ⟨r_3, rfl, hw⟩ := hw
    obtain ⟨σ_4, rfl⟩ : ∃ z, z = τ_ := ⟨_, rfl⟩
    refine go_if_eq C 30 rfl dX11_age_18 (fun hc => ?_) (fun hc => ?_)
    · replace hw := hw.1 hc
      refine go_sipush (v := (-1000)) C rfl dX11_age_30 ?_
      exact go_iret C hr ⟨_, rfl, hw⟩ dX11_age_33
    · replace hw := hw.2 hc
      refine go_iload_n C 3 rfl rfl dX11_age_21 ?_
      refine go_iconst (v := 0) C rfl dX11_age_22 ?_
      refine go_iconst (v := 2) C rfl dX11_age_23 ?_
      refine go_callS (as := [.int a3, .int 0, .int 2]) C hR cwX11_105 (Nat.le_trans (by decide) hd) (by decide) rfl rfl (Nat.le_of_ble_eq_true rfl) dX11_age_24 (spX11_within (Nat.le_refl _) hN hw) (fun v_ τ_ hw => ?_)
      obtain ⟨r_5, rfl, hw⟩ := hw
      obtain ⟨σ_6, rfl⟩ : ∃ z, z = τ_ := ⟨_, rfl⟩
      refine go_if_ne C 34 rfl dX11_age_27 (fun hc => ?_) (fun hc => ?_)
      · replace hw := hw.1 hc
        refine go_aload_n C 0 rfl rfl dX11_age_34 ?_
        refine go_get (v := .ref (G.2.2.1 52)) C (shX11 G) (ltX11 hN) lkX11_72 rfl dX11_age_35 ?_
        refine go_iload_n C 1 rfl rfl dX11_age_38 ?_
        refine go_aload_n C 0 rfl rfl dX11_age_39 ?_
        refine go_get (v := .ref (G.2.2.1 9)) C (shX11 G) (ltX11 hN) lkX11_19 rfl dX11_age_40 ?_
        refine go_get (v := .int (gI σ_6 9 0)) C (shX4 G) (ltX4 hN) lkX11_120 rfl dX11_age_43 ?_
        refine go_iconst (v := 1) C rfl dX11_age_46 ?_
        refine go_isub C dX11_age_47 ?_
        refine go_callV (as := [.int a1, .int ((gI σ_6 9 0) - 1)]) C hR (shX10 G) (ltX10 hN) cwX11_145 (Nat.le_trans (by decide) hd) (by decide) rfl rfl (Nat.le_of_ble_eq_true rfl) dX11_age_48 (spX10_livingAt (Nat.le_refl _) hN hw) (fun v_ τ_ hw => ?_)
        obtain ⟨r_7, rfl, hw⟩ := hw
        obtain ⟨σ_8, rfl⟩ : ∃ z, z = τ_ := ⟨_, rfl⟩
        refine go_if_ne C 58 rfl dX11_age_51 (fun hc => ?_) (fun hc => ?_)
        · replace hw := hw.1 hc
          refine go_iload_n C 3 rfl rfl dX11_age_58 ?_
          refine go_iconst (v := 2) C rfl dX11_age_59 ?_
          refine go_icmp_ne C 72 rfl dX11_age_60 (fun hc => ?_) (fun hc => ?_)
          · replace hw := hw.1 hc
            refine go_aload_n C 0 rfl rfl dX11_age_72 ?_
            refine go_get (v := .ref (G.2.2.1 52)) C (shX11 G) (ltX11 hN) lkX11_72 rfl dX11_age_73 ?_
            refine go_iload_n C 1 rfl rfl dX11_age_76 ?_
            refine go_iload_n C 2 rfl rfl dX11_age_77 ?_
            refine go_callV (as := [.int a1, .int a2]) C hR (shX10 G) (ltX10 hN) cwX11_312 (Nat.le_trans (by decide) hd) (by decide) rfl rfl (Nat.le_of_ble_eq_true rfl) dX11_age_78 (spX10_shortestSpan (Nat.le_refl _) hN hw) (fun v_ τ_ hw => ?_)
            obtain ⟨r_9, rfl, hw⟩ := hw
            obtain ⟨σ_10, rfl⟩ : ∃ z, z = τ_ := ⟨_, rfl⟩
            refine go_istore (lv2 := [(4, .int r_9), (0, .ref (G.2.2.1 0)), (1, .int a1), (2, .int a2), (3, .int a3)]) C (by rw [hnl]; decide) rfl dX11_age_81 ?_
            refine go_aload_n C 1 rfl rfl dX11_age_83 ?_
            refine go_get (v := .ref (G.2.2.1 52)) C (shX11 G) (ltX11 hN) lkX11_72 rfl dX11_age_84 ?_
            refine go_iload_n C 2 rfl rfl dX11_age_87 ?_
            refine go_iload_n C 3 rfl rfl dX11_age_88 ?_
            refine go_iload C 0 rfl dX11_age_89 ?_
            refine go_callV (as := [.int a1, .int a2, .int r_9]) C hR (shX10 G) (ltX10 hN) cwX11_315 (Nat.le_trans (by decide) hd) (by decide) rfl rfl (Nat.le_of_ble_eq_true rfl) dX11_age_91 (spX10_spanStart (Nat.le_refl _) hN hw) (fun v_ τ_ hw => ?_)
            obtain ⟨r_11, rfl, hw⟩ := hw
            obtain ⟨σ_12, rfl⟩ : ∃ z, z = τ_ := ⟨_, rfl⟩
            refine go_istore (lv2 := [(5, .int r_11), (4, .int r_9), (0, .ref (G.2.2.1 0)), (1, .int a1), (2, .int a2), (3, .int a3)]) C (by rw [hnl]; decide) rfl dX11_age_94 ?_
            refine go_iload_n C 5 rfl rfl dX11_age_96 ?_
            refine go_if_ne C 105 rfl dX11_age_97 (fun hc => ?_) (fun hc => ?_)
            · replace hw := hw.1 hc
              refine go_iload C 0 rfl dX11_age_105 ?_
              refine go_iload C 1 rfl dX11_age_107 ?_
              refine go_iadd C dX11_age_109 ?_
              refine go_iconst (v := 1) C rfl dX11_age_110 ?_
              refine go_isub C dX11_age_111 ?_
              exact go_iret C hr ⟨_, rfl, hw⟩ dX11_age_112
            · replace hw := hw.2 hc
              refine go_iload C 0 rfl dX11_age_100 ?_
              refine go_goto C 112 rfl dX11_age_102 ?_
              exact go_iret C hr ⟨_, rfl, hw⟩ dX11_age_112
          · replace hw := hw.2 hc
            refine go_aload_n C 0 rfl rfl dX11_age_63 ?_
            refine go_get (v := .ref (G.2.2.1 52)) C (shX11 G) (ltX11 hN) lkX11_72 rfl dX11_age_64 ?_
            refine go_iload_n C 1 rfl rfl dX11_age_67 ?_
            refine go_callV (as := [.int a1]) C hR (shX10 G) (ltX10 hN) cwX11_309 (Nat.le_trans (by decide) hd) (by decide) rfl rfl (Nat.le_of_ble_eq_true rfl) dX11_age_68 (spX10_halfBorn (Nat.le_refl _) hN hw) (fun v_ τ_ hw => ?_)
            obtain ⟨r_13, rfl, hw⟩ := hw
            obtain ⟨σ_14, rfl⟩ : ∃ z, z = τ_ := ⟨_, rfl⟩
            exact go_iret C hr ⟨_, rfl, hw⟩ dX11_age_71
        · replace hw := hw.2 hc
          refine go_sipush (v := (-1000)) C rfl dX11_age_54 ?_
          exact go_iret C hr ⟨_, rfl, hw⟩ dX11_age_57
      · replace hw := hw.2 hc
        refine go_sipush (v := (-1000)) C rfl dX11_age_30 ?_
        exact go_iret C hr ⟨_, rfl, hw⟩ dX11_age_33
-- CradleNames.guess(I)I
set_option maxRecDepth 20000 in
set_option maxHeartbeats 4000000 in
theorem spX11_guess {l : Launch} {G : GT} {d : Nat}  (hd : 4 ≤ d)  (hN : 75 ≤ G.2.2.2.2.2)  {a1 : Int32} {σ : St} {post : Int32 → St → Prop} (hw : wpX11_guess  a1 σ post) : Sp l G d yX11_guess cX11_guess 2 (some .int) [.ref (G.2.2.1 0), .int a1] σ (fun v τ => ∃ r : Int32, v = some (.int r) ∧ post r τ) := by
  refine Sp.of (by decide) (Nat.le_of_ble_eq_true rfl) fun X C hr hR hnl => ?_
  show Go X G 0 [(0, .ref (G.2.2.1 0)), (1, .int a1)] [] σ
  have hw : wpX5_has a1 σ (fun r_1 σ_2 =>
  ((r_1 = 0 →
    post (-1) σ_2) ∧
  (¬ r_1 = 0 →
    wpX10_likeliestPlace a1 σ_2 (fun r_3 σ_4 =>
    post r_3 σ_4)))) := hw
  refine go_aload_n C 0 rfl rfl dX11_guess_0 ?_
  refine go_get (v := .ref (G.2.2.1 1)) C (shX11 G) (ltX11 hN) lkX11_10 rfl dX11_guess_1 ?_
  refine go_iload_n C 1 rfl rfl dX11_guess_4 ?_
  refine go_callV (as := [.int a1]) C hR (shX5 G) (ltX5 hN) cwX11_127 (Nat.le_trans (by decide) hd) (by decide) rfl rfl (Nat.le_of_ble_eq_true rfl) dX11_guess_5 (spX5_has (Nat.le_refl _) hN hw) (fun v_ τ_ hw => ?_)
  obtain ⟨r_1, rfl, hw⟩ := hw
  obtain ⟨σ_2, rfl⟩ : ∃ z, z = τ_ := ⟨_, rfl⟩
  refine go_if_eq C 22 rfl dX11_guess_8 (fun hc => ?_) (fun hc => ?_)
  · replace hw := hw.1 hc
    refine go_iconst (v := (-1)) C rfl dX11_guess_22 ?_
    exact go_iret C hr ⟨_, rfl, hw⟩ dX11_guess_23
  · replace hw := hw.2 hc
    refine go_aload_n C 0 rfl rfl dX11_guess_11 ?_
    refine go_get (v := .ref (G.2.2.1 52)) C (shX11 G) (ltX11 hN) lkX11_72 rfl dX11_guess_12 ?_
    refine go_iload_n C 1 rfl rfl dX11_guess_15 ?_
    refine go_callV (as := [.int a1]) C hR (shX10 G) (ltX10 hN) cwX11_318 (Nat.le_trans (by decide) hd) (by decide) rfl rfl (Nat.le_of_ble_eq_true rfl) dX11_guess_16 (spX10_likeliestPlace (Nat.le_refl _) hN hw) (fun v_ τ_ hw => ?_)
    obtain ⟨r_3, rfl, hw⟩ := hw
    obtain ⟨σ_4, rfl⟩ : ∃ z, z = τ_ := ⟨_, rfl⟩
    refine go_goto C 23 rfl dX11_guess_19 ?_
    exact go_iret C hr ⟨_, rfl, hw⟩ dX11_guess_23
-- CradleNames.beyondChance(III)I
set_option maxRecDepth 20000 in
set_option maxHeartbeats 4000000 in
theorem spX11_beyondChance {l : Launch} {G : GT} {d : Nat}  (hd : 4 ≤ d)  (hN : 75 ≤ G.2.2.2.2.2)  {a1 : Int32} {a2 : Int32} {a3 : Int32} {σ : St} {post : Int32 → St → Prop} (hw : wpX11_beyondChance  a1 a2 a3 σ post) : Sp l G d yX11_beyondChance cX11_beyondChance 8 (some .int) [.ref (G.2.2.1 0), .int a1, .int a2, .int a3] σ (fun v τ => ∃ r : Int32, v = some (.int r) ∧ post r τ) := by
  refine Sp.of (by decide) (Nat.le_of_ble_eq_true rfl) fun X C hr hR hnl => ?_
  show Go X G 0 [(0, .ref (G.2.2.1 0)), (1, .int a1), (2, .int a2), (3, .int a3)] [] σ
  have hw : wpX0_groupTotal 0 6 a2 a2 σ (fun r_1 σ_2 =>
  wpX10_in a1 a2 σ_2 (fun r_3 σ_4 =>
  wpX10_in a1 (a2 - 1) σ_4 (fun r_5 σ_6 =>
  wpX0_groupTotal 0 6 (a2 - 1) (a2 - 1) σ_6 (fun r_7 σ_8 =>
  ∀ v7_9 : Int32, v7_9 = (r_7 - r_5) →
  wpX6_setDraw r_1 r_5 v7_9 σ_8 (fun σ_11 =>
  wpX6_isRare r_3 r_1 a3 σ_11 (fun r_12 σ_13 =>
  ((r_12 = 0 →
    wpX6_isRare 0 r_3 a3 σ_13 (fun r_14 σ_15 =>
    ((r_14 = 0 →
      post 0 σ_15) ∧
    (¬ r_14 = 0 →
      post 2 σ_15)))) ∧
  (¬ r_12 = 0 →
    post 1 σ_13)))))))) := hw
  refine go_aload_n C 0 rfl rfl dX11_beyondChance_0 ?_
  refine go_get (v := .ref (G.2.2.1 (21 + 4 * 0))) C (shX11 G) (ltX11 hN) lkX11_26 rfl dX11_beyondChance_1 ?_
  refine go_bipush (v := 6) C rfl dX11_beyondChance_4 ?_
  refine go_iload_n C 2 rfl rfl dX11_beyondChance_6 ?_
  refine go_iload_n C 2 rfl rfl dX11_beyondChance_7 ?_
  refine go_callV (as := [.int 6, .int a2, .int a2]) C hR (shX0 G (show 0 < 2 by decide)) (ltX0 hN (show 0 < 2 by decide)) cwX11_322 (Nat.le_trans (by decide) hd) (by decide) rfl rfl (Nat.le_of_ble_eq_true rfl) dX11_beyondChance_8 (spX0_groupTotal (Nat.le_refl _) hN (show 0 < 2 by decide) hw) (fun v_ τ_ hw => ?_)
  obtain ⟨r_1, rfl, hw⟩ := hw
  obtain ⟨σ_2, rfl⟩ : ∃ z, z = τ_ := ⟨_, rfl⟩
  refine go_istore (lv2 := [(4, .int r_1), (0, .ref (G.2.2.1 0)), (1, .int a1), (2, .int a2), (3, .int a3)]) C (by rw [hnl]; decide) rfl dX11_beyondChance_11 ?_
  refine go_aload_n C 1 rfl rfl dX11_beyondChance_13 ?_
  refine go_get (v := .ref (G.2.2.1 52)) C (shX11 G) (ltX11 hN) lkX11_72 rfl dX11_beyondChance_14 ?_
  refine go_iload_n C 2 rfl rfl dX11_beyondChance_17 ?_
  refine go_iload_n C 3 rfl rfl dX11_beyondChance_18 ?_
  refine go_callV (as := [.int a1, .int a2]) C hR (shX10 G) (ltX10 hN) cwX11_264 (Nat.le_trans (by decide) hd) (by decide) rfl rfl (Nat.le_of_ble_eq_true rfl) dX11_beyondChance_19 (spX10_in (Nat.le_refl _) hN hw) (fun v_ τ_ hw => ?_)
  obtain ⟨r_3, rfl, hw⟩ := hw
  obtain ⟨σ_4, rfl⟩ : ∃ z, z = τ_ := ⟨_, rfl⟩
  refine go_istore (lv2 := [(5, .int r_3), (4, .int r_1), (0, .ref (G.2.2.1 0)), (1, .int a1), (2, .int a2), (3, .int a3)]) C (by rw [hnl]; decide) rfl dX11_beyondChance_22 ?_
  refine go_aload_n C 2 rfl rfl dX11_beyondChance_24 ?_
  refine go_get (v := .ref (G.2.2.1 52)) C (shX11 G) (ltX11 hN) lkX11_72 rfl dX11_beyondChance_25 ?_
  refine go_iload_n C 3 rfl rfl dX11_beyondChance_28 ?_
  refine go_iload_n C 4 rfl rfl dX11_beyondChance_29 ?_
  refine go_iconst (v := 1) C rfl dX11_beyondChance_30 ?_
  refine go_isub C dX11_beyondChance_31 ?_
  refine go_callV (as := [.int a1, .int (a2 - 1)]) C hR (shX10 G) (ltX10 hN) cwX11_264 (Nat.le_trans (by decide) hd) (by decide) rfl rfl (Nat.le_of_ble_eq_true rfl) dX11_beyondChance_32 (spX10_in (Nat.le_refl _) hN hw) (fun v_ τ_ hw => ?_)
  obtain ⟨r_5, rfl, hw⟩ := hw
  obtain ⟨σ_6, rfl⟩ : ∃ z, z = τ_ := ⟨_, rfl⟩
  refine go_istore (lv2 := [(6, .int r_5), (5, .int r_3), (4, .int r_1), (0, .ref (G.2.2.1 0)), (1, .int a1), (2, .int a2), (3, .int a3)]) C (by rw [hnl]; decide) rfl dX11_beyondChance_35 ?_
  refine go_aload_n C 3 rfl rfl dX11_beyondChance_37 ?_
  refine go_get (v := .ref (G.2.2.1 (21 + 4 * 0))) C (shX11 G) (ltX11 hN) lkX11_26 rfl dX11_beyondChance_38 ?_
  refine go_bipush (v := 6) C rfl dX11_beyondChance_41 ?_
  refine go_iload_n C 5 rfl rfl dX11_beyondChance_43 ?_
  refine go_iconst (v := 1) C rfl dX11_beyondChance_44 ?_
  refine go_isub C dX11_beyondChance_45 ?_
  refine go_iload_n C 5 rfl rfl dX11_beyondChance_46 ?_
  refine go_iconst (v := 1) C rfl dX11_beyondChance_47 ?_
  refine go_isub C dX11_beyondChance_48 ?_
  refine go_callV (as := [.int 6, .int (a2 - 1), .int (a2 - 1)]) C hR (shX0 G (show 0 < 2 by decide)) (ltX0 hN (show 0 < 2 by decide)) cwX11_322 (Nat.le_trans (by decide) hd) (by decide) rfl rfl (Nat.le_of_ble_eq_true rfl) dX11_beyondChance_49 (spX0_groupTotal (Nat.le_refl _) hN (show 0 < 2 by decide) hw) (fun v_ τ_ hw => ?_)
  obtain ⟨r_7, rfl, hw⟩ := hw
  obtain ⟨σ_8, rfl⟩ : ∃ z, z = τ_ := ⟨_, rfl⟩
  refine go_iload C 0 rfl dX11_beyondChance_52 ?_
  refine go_isub C dX11_beyondChance_54 ?_
  refine go_topi (fun v7_9 ev7_9 => ?_)
  replace hw := hw v7_9 ev7_9
  refine go_istore (lv2 := [(7, .int v7_9), (6, .int r_5), (5, .int r_3), (4, .int r_1), (0, .ref (G.2.2.1 0)), (1, .int a1), (2, .int a2), (3, .int a3)]) C (by rw [hnl]; decide) rfl dX11_beyondChance_55 ?_
  refine go_aload_n C 4 rfl rfl dX11_beyondChance_57 ?_
  refine go_get (v := .ref (G.2.2.1 60)) C (shX11 G) (ltX11 hN) lkX11_79 rfl dX11_beyondChance_58 ?_
  refine go_iload C 3 rfl dX11_beyondChance_61 ?_
  refine go_iload C 1 rfl dX11_beyondChance_63 ?_
  refine go_iload C 0 rfl dX11_beyondChance_65 ?_
  refine go_callV (as := [.int r_1, .int r_5, .int v7_9]) C hR (shX6 G) (ltX6 hN) cwX11_398 (Nat.le_trans (by decide) hd) (by decide) rfl rfl (Nat.le_of_ble_eq_true rfl) dX11_beyondChance_67 (spX6_setDraw (Nat.le_refl _) hN hw) (fun v_ τ_ hw => ?_)
  obtain ⟨rfl, hw⟩ := hw
  obtain ⟨σ_11, rfl⟩ : ∃ z, z = τ_ := ⟨_, rfl⟩
  refine go_aload_n C 4 rfl rfl dX11_beyondChance_70 ?_
  refine go_get (v := .ref (G.2.2.1 60)) C (shX11 G) (ltX11 hN) lkX11_79 rfl dX11_beyondChance_71 ?_
  refine go_iload C 2 rfl dX11_beyondChance_74 ?_
  refine go_iload C 3 rfl dX11_beyondChance_76 ?_
  refine go_iload_n C 7 rfl rfl dX11_beyondChance_78 ?_
  refine go_callV (as := [.int r_3, .int r_1, .int a3]) C hR (shX6 G) (ltX6 hN) cwX11_402 (Nat.le_trans (by decide) hd) (by decide) rfl rfl (Nat.le_of_ble_eq_true rfl) dX11_beyondChance_79 (spX6_isRare (Nat.le_refl _) hN hw) (fun v_ τ_ hw => ?_)
  obtain ⟨r_12, rfl, hw⟩ := hw
  obtain ⟨σ_13, rfl⟩ : ∃ z, z = τ_ := ⟨_, rfl⟩
  refine go_if_eq C 87 rfl dX11_beyondChance_82 (fun hc => ?_) (fun hc => ?_)
  · replace hw := hw.1 hc
    refine go_aload_n C 4 rfl rfl dX11_beyondChance_87 ?_
    refine go_get (v := .ref (G.2.2.1 60)) C (shX11 G) (ltX11 hN) lkX11_79 rfl dX11_beyondChance_88 ?_
    refine go_iconst (v := 0) C rfl dX11_beyondChance_91 ?_
    refine go_iload C 2 rfl dX11_beyondChance_92 ?_
    refine go_iload_n C 7 rfl rfl dX11_beyondChance_94 ?_
    refine go_callV (as := [.int 0, .int r_3, .int a3]) C hR (shX6 G) (ltX6 hN) cwX11_402 (Nat.le_trans (by decide) hd) (by decide) rfl rfl (Nat.le_of_ble_eq_true rfl) dX11_beyondChance_95 (spX6_isRare (Nat.le_refl _) hN hw) (fun v_ τ_ hw => ?_)
    obtain ⟨r_14, rfl, hw⟩ := hw
    obtain ⟨σ_15, rfl⟩ : ∃ z, z = τ_ := ⟨_, rfl⟩
    refine go_if_eq C 105 rfl dX11_beyondChance_98 (fun hc => ?_) (fun hc => ?_)
    · replace hw := hw.1 hc
      refine go_iconst (v := 0) C rfl dX11_beyondChance_105 ?_
      exact go_iret C hr ⟨_, rfl, hw⟩ dX11_beyondChance_106
    · replace hw := hw.2 hc
      refine go_iconst (v := 2) C rfl dX11_beyondChance_101 ?_
      refine go_goto C 106 rfl dX11_beyondChance_102 ?_
      exact go_iret C hr ⟨_, rfl, hw⟩ dX11_beyondChance_106
  · replace hw := hw.2 hc
    refine go_iconst (v := 1) C rfl dX11_beyondChance_85 ?_
    exact go_iret C hr ⟨_, rfl, hw⟩ dX11_beyondChance_86
-- CradleNames.chance(III)I
set_option maxRecDepth 20000 in
set_option maxHeartbeats 4000000 in
theorem gbX11_chance_102 {X : XT} {G : GT} {l : Launch} {d : Nat}  {post : Int32 → St → Prop} (C : Cx X G cX11_chance RX11) (hr : Rt X G (some .int) (fun v τ => ∃ r : Int32, v = some (.int r) ∧ post r τ)) (hR : Rm X l d) (hnl : X.2.2.2.2.2.2.2.2.2.2.1 = 6)  (hd : 5 ≤ d) (hN : 75 ≤ G.2.2.2.2.2)   
    : ∀ (n : Nat) (v2 : Int32) (v3 : Int32) (v4 : Int32) (v5 : Int32) (σ : St), wbX11_chance_102   post n v2 v3 v4 v5 σ → Go X G 102 [(0, .ref (G.2.2.1 0)), (2, .int v2), (3, .int v3), (4, .int v4), (5, .int v5)] [] σ := by
  intro n
  induction n with
  | zero => intro v2 v3 v4 v5 σ hw; exact hw.elim
  | succ n ih =>
    intro v2 v3 v4 v5 σ hw
    have hw : (((gI σ 1 0) ≤ v5 →
      post v4 σ) ∧
    (¬ (gI σ 1 0) ≤ v5 →
      wpX11_beyondChance v5 v2 v3 σ (fun r_1 σ_2 =>
      ((r_1 = 0 →
        ∀ v5_3 : Int32, v5_3 = v5 + 1 →
        wbX11_chance_102 post n v2 v3 v4 v5_3 σ_2) ∧
      (¬ r_1 = 0 →
        ∀ v4_4 : Int32, v4_4 = v4 + 1 →
        ∀ v5_5 : Int32, v5_5 = v5 + 1 →
        wbX11_chance_102 post n v2 v3 v4_4 v5_5 σ_2))))) := hw
    refine go_iload C 4 rfl dX11_chance_102 ?_
    refine go_aload_n C 0 rfl rfl dX11_chance_104 ?_
    refine go_get (v := .ref (G.2.2.1 1)) C (shX11 G) (ltX11 hN) lkX11_10 rfl dX11_chance_105 ?_
    refine go_get (v := .int (gI σ 1 0)) C (shX5 G) (ltX5 hN) lkX11_109 rfl dX11_chance_108 ?_
    refine go_icmp_ge C 134 rfl dX11_chance_111 (fun hc => ?_) (fun hc => ?_)
    · replace hw := hw.1 hc
      refine go_iload C 3 rfl dX11_chance_134 ?_
      exact go_iret C hr ⟨_, rfl, hw⟩ dX11_chance_136
    · replace hw := hw.2 hc
      refine go_aload_n C 0 rfl rfl dX11_chance_114 ?_
      refine go_iload C 4 rfl dX11_chance_115 ?_
      refine go_iload_n C 1 rfl rfl dX11_chance_117 ?_
      refine go_iload_n C 2 rfl rfl dX11_chance_118 ?_
      refine go_callV (as := [.int v5, .int v2, .int v3]) C hR (shX11 G) (ltX11 hN) cwX11_325 (Nat.le_trans (by decide) hd) (by decide) rfl rfl (Nat.le_of_ble_eq_true rfl) dX11_chance_119 (spX11_beyondChance (Nat.le_refl _) hN hw) (fun v_ τ_ hw => ?_)
      obtain ⟨r_1, rfl, hw⟩ := hw
      obtain ⟨σ_2, rfl⟩ : ∃ z, z = τ_ := ⟨_, rfl⟩
      refine go_if_eq C 128 rfl dX11_chance_122 (fun hc => ?_) (fun hc => ?_)
      · replace hw := hw.1 hc
        obtain ⟨v5_3, ev5_3⟩ : ∃ z : Int32, z = v5 + 1 := ⟨_, rfl⟩
        replace hw := hw v5_3 ev5_3
        refine go_iinc (v := v5_3) (lv2 := [(5, .int v5_3), (0, .ref (G.2.2.1 0)), (2, .int v2), (3, .int v3), (4, .int v4)]) C 4 rfl (by rw [ev5_3]; rfl) (by rw [hnl]; decide) rfl dX11_chance_128 ?_
        refine go_goto C 102 rfl dX11_chance_131 ?_
        refine go_sub [1, 2, 3, 4, 0] rfl ?_
        exact ih _ _ _ _ _ hw
      · replace hw := hw.2 hc
        obtain ⟨v4_4, ev4_4⟩ : ∃ z : Int32, z = v4 + 1 := ⟨_, rfl⟩
        replace hw := hw v4_4 ev4_4
        refine go_iinc (v := v4_4) (lv2 := [(4, .int v4_4), (0, .ref (G.2.2.1 0)), (2, .int v2), (3, .int v3), (5, .int v5)]) C 3 rfl (by rw [ev4_4]; rfl) (by rw [hnl]; decide) rfl dX11_chance_125 ?_
        obtain ⟨v5_5, ev5_5⟩ : ∃ z : Int32, z = v5 + 1 := ⟨_, rfl⟩
        replace hw := hw v5_5 ev5_5
        refine go_iinc (v := v5_5) (lv2 := [(5, .int v5_5), (4, .int v4_4), (0, .ref (G.2.2.1 0)), (2, .int v2), (3, .int v3)]) C 4 rfl (by rw [ev5_5]; rfl) (by rw [hnl]; decide) rfl dX11_chance_128 ?_
        refine go_goto C 102 rfl dX11_chance_131 ?_
        refine go_sub [2, 3, 4, 1, 0] rfl ?_
        exact ih _ _ _ _ _ hw
set_option maxRecDepth 20000 in
set_option maxHeartbeats 4000000 in
theorem spX11_chance {l : Launch} {G : GT} {d : Nat}  (hd : 5 ≤ d)  (hN : 75 ≤ G.2.2.2.2.2)  {a1 : Int32} {a2 : Int32} {a3 : Int32} {σ : St} {post : Int32 → St → Prop} (hw : wpX11_chance  a1 a2 a3 σ post) : Sp l G d yX11_chance cX11_chance 6 (some .int) [.ref (G.2.2.1 0), .int a1, .int a2, .int a3] σ (fun v τ => ∃ r : Int32, v = some (.int r) ∧ post r τ) := by
  refine Sp.of (by decide) (Nat.le_of_ble_eq_true rfl) fun X C hr hR hnl => ?_
  show Go X G 0 [(0, .ref (G.2.2.1 0)), (1, .int a1), (2, .int a2), (3, .int a3)] [] σ
  have hw : wpX11_within a2 1 ((gI σ 9 0) - 1) σ (fun r_1 σ_2 =>
  ((r_1 = 0 →
    post (-1) σ_2) ∧
  (¬ r_1 = 0 →
    wpX11_within a3 2 1000000 σ_2 (fun r_3 σ_4 =>
    ((¬ r_3 = 0 →
      wpX11_within a1 (-1) ((gI σ_4 1 0) - 1) σ_4 (fun r_5 σ_6 =>
      ((¬ r_5 = 0 →
        wpX0_groupTotal 0 6 a2 a2 σ_6 (fun r_7 σ_8 =>
        ((r_7 = 0 →
          post (-1) σ_8) ∧
        (¬ r_7 = 0 →
          wpX0_groupTotal 0 6 (a2 - 1) (a2 - 1) σ_8 (fun r_9 σ_10 =>
          ((¬ r_9 = 0 →
            ((a1 = (-1) →
              ∃ m_102, wbX11_chance_102 post m_102 a2 a3 0 0 σ_10) ∧
            (¬ a1 = (-1) →
              wpX11_beyondChance a1 a2 a3 σ_10 (fun r_11 σ_12 =>
              post r_11 σ_12)))) ∧
          (r_9 = 0 →
            post (-1) σ_10))))))) ∧
      (r_5 = 0 →
        post (-1) σ_6)))) ∧
    (r_3 = 0 →
      post (-1) σ_4)))))) := hw
  refine go_iload_n C 2 rfl rfl dX11_chance_0 ?_
  refine go_iconst (v := 1) C rfl dX11_chance_1 ?_
  refine go_aload_n C 0 rfl rfl dX11_chance_2 ?_
  refine go_get (v := .ref (G.2.2.1 9)) C (shX11 G) (ltX11 hN) lkX11_19 rfl dX11_chance_3 ?_
  refine go_get (v := .int (gI σ 9 0)) C (shX4 G) (ltX4 hN) lkX11_120 rfl dX11_chance_6 ?_
  refine go_iconst (v := 1) C rfl dX11_chance_9 ?_
  refine go_isub C dX11_chance_10 ?_
  refine go_callS (as := [.int a2, .int 1, .int ((gI σ 9 0) - 1)]) C hR cwX11_105 (Nat.le_trans (by decide) hd) (by decide) rfl rfl (Nat.le_of_ble_eq_true rfl) dX11_chance_11 (spX11_within (Nat.le_refl _) hN hw) (fun v_ τ_ hw => ?_)
  obtain ⟨r_1, rfl, hw⟩ := hw
  obtain ⟨σ_2, rfl⟩ : ∃ z, z = τ_ := ⟨_, rfl⟩
  refine go_if_eq C 28 rfl dX11_chance_14 (fun hc => ?_) (fun hc => ?_)
  · replace hw := hw.1 hc
    refine go_iconst (v := (-1)) C rfl dX11_chance_28 ?_
    exact go_iret C hr ⟨_, rfl, hw⟩ dX11_chance_29
  · replace hw := hw.2 hc
    refine go_iload_n C 3 rfl rfl dX11_chance_17 ?_
    refine go_iconst (v := 2) C rfl dX11_chance_18 ?_
    refine go_ldcw (v := 1000000) C kcX11_321 dX11_chance_19 ?_
    refine go_callS (as := [.int a3, .int 2, .int 1000000]) C hR cwX11_105 (Nat.le_trans (by decide) hd) (by decide) rfl rfl (Nat.le_of_ble_eq_true rfl) dX11_chance_22 (spX11_within (Nat.le_refl _) hN hw) (fun v_ τ_ hw => ?_)
    obtain ⟨r_3, rfl, hw⟩ := hw
    obtain ⟨σ_4, rfl⟩ : ∃ z, z = τ_ := ⟨_, rfl⟩
    refine go_if_ne C 30 rfl dX11_chance_25 (fun hc => ?_) (fun hc => ?_)
    · replace hw := hw.1 hc
      refine go_iload_n C 1 rfl rfl dX11_chance_30 ?_
      refine go_iconst (v := (-1)) C rfl dX11_chance_31 ?_
      refine go_aload_n C 0 rfl rfl dX11_chance_32 ?_
      refine go_get (v := .ref (G.2.2.1 1)) C (shX11 G) (ltX11 hN) lkX11_10 rfl dX11_chance_33 ?_
      refine go_get (v := .int (gI σ_4 1 0)) C (shX5 G) (ltX5 hN) lkX11_109 rfl dX11_chance_36 ?_
      refine go_iconst (v := 1) C rfl dX11_chance_39 ?_
      refine go_isub C dX11_chance_40 ?_
      refine go_callS (as := [.int a1, .int (-1), .int ((gI σ_4 1 0) - 1)]) C hR cwX11_105 (Nat.le_trans (by decide) hd) (by decide) rfl rfl (Nat.le_of_ble_eq_true rfl) dX11_chance_41 (spX11_within (Nat.le_refl _) hN hw) (fun v_ τ_ hw => ?_)
      obtain ⟨r_5, rfl, hw⟩ := hw
      obtain ⟨σ_6, rfl⟩ : ∃ z, z = τ_ := ⟨_, rfl⟩
      refine go_if_ne C 49 rfl dX11_chance_44 (fun hc => ?_) (fun hc => ?_)
      · replace hw := hw.1 hc
        refine go_aload_n C 0 rfl rfl dX11_chance_49 ?_
        refine go_get (v := .ref (G.2.2.1 (21 + 4 * 0))) C (shX11 G) (ltX11 hN) lkX11_26 rfl dX11_chance_50 ?_
        refine go_bipush (v := 6) C rfl dX11_chance_53 ?_
        refine go_iload_n C 2 rfl rfl dX11_chance_55 ?_
        refine go_iload_n C 2 rfl rfl dX11_chance_56 ?_
        refine go_callV (as := [.int 6, .int a2, .int a2]) C hR (shX0 G (show 0 < 2 by decide)) (ltX0 hN (show 0 < 2 by decide)) cwX11_322 (Nat.le_trans (by decide) hd) (by decide) rfl rfl (Nat.le_of_ble_eq_true rfl) dX11_chance_57 (spX0_groupTotal (Nat.le_refl _) hN (show 0 < 2 by decide) hw) (fun v_ τ_ hw => ?_)
        obtain ⟨r_7, rfl, hw⟩ := hw
        obtain ⟨σ_8, rfl⟩ : ∃ z, z = τ_ := ⟨_, rfl⟩
        refine go_if_eq C 81 rfl dX11_chance_60 (fun hc => ?_) (fun hc => ?_)
        · replace hw := hw.1 hc
          refine go_iconst (v := (-1)) C rfl dX11_chance_81 ?_
          exact go_iret C hr ⟨_, rfl, hw⟩ dX11_chance_82
        · replace hw := hw.2 hc
          refine go_aload_n C 0 rfl rfl dX11_chance_63 ?_
          refine go_get (v := .ref (G.2.2.1 (21 + 4 * 0))) C (shX11 G) (ltX11 hN) lkX11_26 rfl dX11_chance_64 ?_
          refine go_bipush (v := 6) C rfl dX11_chance_67 ?_
          refine go_iload_n C 2 rfl rfl dX11_chance_69 ?_
          refine go_iconst (v := 1) C rfl dX11_chance_70 ?_
          refine go_isub C dX11_chance_71 ?_
          refine go_iload_n C 2 rfl rfl dX11_chance_72 ?_
          refine go_iconst (v := 1) C rfl dX11_chance_73 ?_
          refine go_isub C dX11_chance_74 ?_
          refine go_callV (as := [.int 6, .int (a2 - 1), .int (a2 - 1)]) C hR (shX0 G (show 0 < 2 by decide)) (ltX0 hN (show 0 < 2 by decide)) cwX11_322 (Nat.le_trans (by decide) hd) (by decide) rfl rfl (Nat.le_of_ble_eq_true rfl) dX11_chance_75 (spX0_groupTotal (Nat.le_refl _) hN (show 0 < 2 by decide) hw) (fun v_ τ_ hw => ?_)
          obtain ⟨r_9, rfl, hw⟩ := hw
          obtain ⟨σ_10, rfl⟩ : ∃ z, z = τ_ := ⟨_, rfl⟩
          refine go_if_ne C 83 rfl dX11_chance_78 (fun hc => ?_) (fun hc => ?_)
          · replace hw := hw.1 hc
            refine go_iload_n C 1 rfl rfl dX11_chance_83 ?_
            refine go_iconst (v := (-1)) C rfl dX11_chance_84 ?_
            refine go_icmp_eq C 96 rfl dX11_chance_85 (fun hc => ?_) (fun hc => ?_)
            · replace hw := hw.1 hc
              refine go_iconst (v := 0) C rfl dX11_chance_96 ?_
              refine go_istore (lv2 := [(4, .int 0), (0, .ref (G.2.2.1 0)), (1, .int a1), (2, .int a2), (3, .int a3)]) C (by rw [hnl]; decide) rfl dX11_chance_97 ?_
              refine go_iconst (v := 0) C rfl dX11_chance_99 ?_
              refine go_istore (lv2 := [(5, .int 0), (4, .int 0), (0, .ref (G.2.2.1 0)), (1, .int a1), (2, .int a2), (3, .int a3)]) C (by rw [hnl]; decide) rfl dX11_chance_100 ?_
              refine go_sub [2, 4, 5, 1, 0] rfl ?_
              obtain ⟨n_0, hw⟩ := hw
              exact (gbX11_chance_102 C hr hR hnl hd hN) n_0 _ _ _ _ _ hw
            · replace hw := hw.2 hc
              refine go_aload_n C 0 rfl rfl dX11_chance_88 ?_
              refine go_iload_n C 1 rfl rfl dX11_chance_89 ?_
              refine go_iload_n C 2 rfl rfl dX11_chance_90 ?_
              refine go_iload_n C 3 rfl rfl dX11_chance_91 ?_
              refine go_callV (as := [.int a1, .int a2, .int a3]) C hR (shX11 G) (ltX11 hN) cwX11_325 (Nat.le_trans (by decide) hd) (by decide) rfl rfl (Nat.le_of_ble_eq_true rfl) dX11_chance_92 (spX11_beyondChance (Nat.le_refl _) hN hw) (fun v_ τ_ hw => ?_)
              obtain ⟨r_11, rfl, hw⟩ := hw
              obtain ⟨σ_12, rfl⟩ : ∃ z, z = τ_ := ⟨_, rfl⟩
              exact go_iret C hr ⟨_, rfl, hw⟩ dX11_chance_95
          · replace hw := hw.2 hc
            refine go_iconst (v := (-1)) C rfl dX11_chance_81 ?_
            exact go_iret C hr ⟨_, rfl, hw⟩ dX11_chance_82
      · replace hw := hw.2 hc
        refine go_iconst (v := (-1)) C rfl dX11_chance_47 ?_
        exact go_iret C hr ⟨_, rfl, hw⟩ dX11_chance_48
    · replace hw := hw.2 hc
      refine go_iconst (v := (-1)) C rfl dX11_chance_28 ?_
      exact go_iret C hr ⟨_, rfl, hw⟩ dX11_chance_29
