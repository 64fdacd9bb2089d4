-- CradleNamesModel.may(IIII)Z
set_option maxRecDepth 20000 in
set_option maxHeartbeats 4000000 in
theorem gbX12_may_53 {X : XT} {G : GT} {l : Launch} {d : Nat}  {post : Int32 → St → Prop} (C : Cx X G cX12_may RX12) (hr : Rt X G (some .boolean) (fun v τ => ∃ r : Int32, v = some (.int r) ∧ post r τ)) (hR : Rm X l d) (hnl : X.2.2.2.2.2.2.2.2.2.2.1 = 5)  (hd : 5 ≤ d) (hN : 119 ≤ G.2.2.2.2.2)   
    : ∀ (v2 : Int32) (σ : St), wbX12_may_53   post v2 σ → Go X G 53 [(0, .ref (G.2.2.1 75)), (2, .int v2)] [] σ := by
  intro v2 σ hw
  have hw : vp_in v2 2 ∧ (
  wpX12_isBarred (gI σ 104 v2.toNatClampNeg) σ (fun r_1 σ_2 =>
  ((¬ r_1 = 0 →
    post 0 σ_2) ∧
  (r_1 = 0 →
    post 1 σ_2)))) := hw
  refine go_aload_n C 0 rfl rfl dX12_may_53 ?_
  refine go_aload_n C 0 rfl rfl dX12_may_54 ?_
  refine go_get (v := .ref (G.2.2.1 104)) C (shX12 G) (ltX12 hN) lkX12_103 rfl dX12_may_55 ?_
  refine go_iload_n C 1 rfl rfl dX12_may_58 ?_
  refine go_iald C (saX12_tasteOf G) (laX12_tasteOf hN) hw.1 dX12_may_59 ?_
  replace hw := hw.2
  refine go_callV (as := [.int (gI σ 104 v2.toNatClampNeg)]) C hR (shX12 G) (ltX12 hN) cwX12_441 (Nat.le_trans (by decide) hd) (by decide) rfl rfl (Nat.le_of_ble_eq_true rfl) dX12_may_60 (spX12_isBarred (Nat.le_refl _) hN hw) (fun v_ τ_ hw => ?_)
  obtain ⟨r_1, rfl, hw⟩ := hw
  obtain ⟨σ_2, rfl⟩ : ∃ z, z = τ_ := ⟨_, rfl⟩
  refine go_if_ne C 70 rfl dX12_may_63 (fun hc => ?_) (fun hc => ?_)
  · replace hw := hw.1 hc
    refine go_iconst (v := 0) C rfl dX12_may_70 ?_
    exact go_zret C hr rfl ⟨_, rfl, hw⟩ dX12_may_71
  · replace hw := hw.2 hc
    refine go_iconst (v := 1) C rfl dX12_may_66 ?_
    refine go_goto C 71 rfl dX12_may_67 ?_
    exact go_zret C hr rfl ⟨_, rfl, hw⟩ dX12_may_71
set_option maxRecDepth 20000 in
set_option maxHeartbeats 4000000 in
theorem spX12_may {l : Launch} {G : GT} {d : Nat}  (hd : 5 ≤ d)  (hN : 119 ≤ G.2.2.2.2.2)  {a1 : Int32} {a2 : Int32} {a3 : Int32} {a4 : Int32} {σ : St} {post : Int32 → St → Prop} (hw : wpX12_may  a1 a2 a3 a4 σ post) : Sp l G d yX12_may cX12_may 5 (some .boolean) [.ref (G.2.2.1 75), .int a1, .int a2, .int a3, .int a4] σ (fun v τ => ∃ r : Int32, v = some (.int r) ∧ post r τ) := by
  refine Sp.of (by decide) (Nat.le_of_ble_eq_true rfl) fun X C hr hR hnl => ?_
  show Go X G 0 [(0, .ref (G.2.2.1 75)), (1, .int a1), (2, .int a2), (3, .int a3), (4, .int a4)] [] σ
  have hw : vp_in (1900 + a4) 9680 ∧ (
  ((a1 < (gI σ 76 (1900 + a4).toNatClampNeg) →
    post 0 σ) ∧
  (¬ a1 < (gI σ 76 (1900 + a4).toNatClampNeg) →
    vp_in (30 + a4) 9680 ∧ (
    ((¬ (((gI σ 76 (30 + a4).toNatClampNeg) >>> (a3 &&& 31)) &&& 1) = 1 →
      post 0 σ) ∧
    ((((gI σ 76 (30 + a4).toNatClampNeg) >>> (a3 &&& 31)) &&& 1) = 1 →
      (((gI σ 75 55) = 0 →
        wbX12_may_53 post a2 σ) ∧
      (¬ (gI σ 75 55) = 0 →
        ((¬ (((gI σ 75 55) >>> (a4 &&& 31)) &&& 1) = 1 →
          post 0 σ) ∧
        ((((gI σ 75 55) >>> (a4 &&& 31)) &&& 1) = 1 →
          wbX12_may_53 post a2 σ)))))))))) := hw
  refine go_iload_n C 1 rfl rfl dX12_may_0 ?_
  refine go_aload_n C 0 rfl rfl dX12_may_1 ?_
  refine go_get (v := .ref (G.2.2.1 76)) C (shX12 G) (ltX12 hN) lkX12_7 rfl dX12_may_2 ?_
  refine go_sipush (v := 1900) C rfl dX12_may_5 ?_
  refine go_iload C 4 rfl dX12_may_8 ?_
  refine go_iadd C dX12_may_10 ?_
  refine go_iald C (saX12_a G) (laX12_a hN) hw.1 dX12_may_11 ?_
  replace hw := hw.2
  refine go_icmp_lt C 70 rfl dX12_may_12 (fun hc => ?_) (fun hc => ?_)
  · replace hw := hw.1 hc
    refine go_iconst (v := 0) C rfl dX12_may_70 ?_
    exact go_zret C hr rfl ⟨_, rfl, hw⟩ dX12_may_71
  · replace hw := hw.2 hc
    refine go_aload_n C 0 rfl rfl dX12_may_15 ?_
    refine go_get (v := .ref (G.2.2.1 76)) C (shX12 G) (ltX12 hN) lkX12_7 rfl dX12_may_16 ?_
    refine go_bipush (v := 30) C rfl dX12_may_19 ?_
    refine go_iload C 4 rfl dX12_may_21 ?_
    refine go_iadd C dX12_may_23 ?_
    refine go_iald C (saX12_a G) (laX12_a hN) hw.1 dX12_may_24 ?_
    replace hw := hw.2
    refine go_iload_n C 3 rfl rfl dX12_may_25 ?_
    refine go_ishr C dX12_may_26 ?_
    refine go_iconst (v := 1) C rfl dX12_may_27 ?_
    refine go_iand C dX12_may_28 ?_
    refine go_iconst (v := 1) C rfl dX12_may_29 ?_
    refine go_icmp_ne C 70 rfl dX12_may_30 (fun hc => ?_) (fun hc => ?_)
    · replace hw := hw.1 hc
      refine go_iconst (v := 0) C rfl dX12_may_70 ?_
      exact go_zret C hr rfl ⟨_, rfl, hw⟩ dX12_may_71
    · replace hw := hw.2 hc
      refine go_aload_n C 0 rfl rfl dX12_may_33 ?_
      refine go_get (v := .int (gI σ 75 55)) C (shX12 G) (ltX12 hN) lkX12_438 rfl dX12_may_34 ?_
      refine go_if_eq C 53 rfl dX12_may_37 (fun hc => ?_) (fun hc => ?_)
      · replace hw := hw.1 hc
        refine go_sub [0, 2] rfl ?_
        exact (gbX12_may_53 C hr hR hnl hd hN) _ _ hw
      · replace hw := hw.2 hc
        refine go_aload_n C 0 rfl rfl dX12_may_40 ?_
        refine go_get (v := .int (gI σ 75 55)) C (shX12 G) (ltX12 hN) lkX12_438 rfl dX12_may_41 ?_
        refine go_iload C 4 rfl dX12_may_44 ?_
        refine go_ishr C dX12_may_46 ?_
        refine go_iconst (v := 1) C rfl dX12_may_47 ?_
        refine go_iand C dX12_may_48 ?_
        refine go_iconst (v := 1) C rfl dX12_may_49 ?_
        refine go_icmp_ne C 70 rfl dX12_may_50 (fun hc => ?_) (fun hc => ?_)
        · replace hw := hw.1 hc
          refine go_iconst (v := 0) C rfl dX12_may_70 ?_
          exact go_zret C hr rfl ⟨_, rfl, hw⟩ dX12_may_71
        · replace hw := hw.2 hc
          refine go_sub [0, 2] rfl ?_
          exact (gbX12_may_53 C hr hR hnl hd hN) _ _ hw
-- CradleNamesModel.worthOf(I)J
set_option maxRecDepth 20000 in
set_option maxHeartbeats 4000000 in
theorem gbX12_worthOf_5 {X : XT} {G : GT} {l : Launch} {d : Nat}  {post : Int64 → St → Prop} (C : Cx X G cX12_worthOf RX12) (hr : Rt X G (some .long) (fun v τ => ∃ r : Int64, v = some (.long r) ∧ post r τ)) (hR : Rm X l d) (hnl : X.2.2.2.2.2.2.2.2.2.2.1 = 5)  (hd : 4 ≤ d) (hN : 119 ≤ G.2.2.2.2.2)   
    : ∀ (n : Nat) (v1 : Int32) (v2 : Int64) (v4 : Int32) (σ : St), wbX12_worthOf_5   post n v1 v2 v4 σ → Go X G 5 [(0, .ref (G.2.2.1 75)), (1, .int v1), (2, .long v2), (4, .int v4)] [] σ := by
  intro n
  induction n with
  | zero => intro v1 v2 v4 σ hw; exact hw.elim
  | succ n ih =>
    intro v1 v2 v4 σ hw
    have hw : vp_in v1 6 ∧ (
    (((gI σ 80 v1.toNatClampNeg) ≤ v4 →
      post v2 σ) ∧
    (¬ (gI σ 80 v1.toNatClampNeg) ≤ v4 →
      vp_in ((12 * v1) + v4) 72 ∧ (
      ((¬ (gI σ 81 ((12 * v1) + v4).toNatClampNeg) = 0 →
        ∀ v4_1 : Int32, v4_1 = v4 + 1 →
        wbX12_worthOf_5 post n v1 v2 v4_1 σ) ∧
      ((gI σ 81 ((12 * v1) + v4).toNatClampNeg) = 0 →
        vp_in ((12 * v1) + v4) 72 ∧ (
        wpX12_tells (gI σ 82 ((12 * v1) + v4).toNatClampNeg) σ (fun r_2 σ_3 =>
        ∀ v4_4 : Int32, v4_4 = v4 + 1 →
        wbX12_worthOf_5 post n v1 r_2 v4_4 σ_3)))))))) := hw
    refine go_iload C 3 rfl dX12_worthOf_5 ?_
    refine go_aload_n C 0 rfl rfl dX12_worthOf_7 ?_
    refine go_get (v := .ref (G.2.2.1 80)) C (shX12 G) (ltX12 hN) lkX12_31 rfl dX12_worthOf_8 ?_
    refine go_iload_n C 1 rfl rfl dX12_worthOf_11 ?_
    refine go_iald C (saX12_clauses G) (laX12_clauses hN) hw.1 dX12_worthOf_12 ?_
    replace hw := hw.2
    refine go_icmp_ge C 54 rfl dX12_worthOf_13 (fun hc => ?_) (fun hc => ?_)
    · replace hw := hw.1 hc
      refine go_lload_n C 2 rfl rfl dX12_worthOf_54 ?_
      exact go_lret C hr ⟨_, rfl, hw⟩ dX12_worthOf_55
    · replace hw := hw.2 hc
      refine go_aload_n C 0 rfl rfl dX12_worthOf_16 ?_
      refine go_get (v := .ref (G.2.2.1 81)) C (shX12 G) (ltX12 hN) lkX12_34 rfl dX12_worthOf_17 ?_
      refine go_bipush (v := 12) C rfl dX12_worthOf_20 ?_
      refine go_iload_n C 1 rfl rfl dX12_worthOf_22 ?_
      refine go_imul C dX12_worthOf_23 ?_
      refine go_iload C 3 rfl dX12_worthOf_24 ?_
      refine go_iadd C dX12_worthOf_26 ?_
      refine go_iald C (saX12_clauseWord G) (laX12_clauseWord hN) hw.1 dX12_worthOf_27 ?_
      replace hw := hw.2
      refine go_if_ne C 48 rfl dX12_worthOf_28 (fun hc => ?_) (fun hc => ?_)
      · replace hw := hw.1 hc
        obtain ⟨v4_1, ev4_1⟩ : ∃ z : Int32, z = v4 + 1 := ⟨_, rfl⟩
        replace hw := hw v4_1 ev4_1
        refine go_iinc (v := v4_1) (lv2 := [(4, .int v4_1), (0, .ref (G.2.2.1 75)), (1, .int v1), (2, .long v2)]) C 3 rfl (by rw [ev4_1]; rfl) (by rw [hnl]; decide) rfl dX12_worthOf_48 ?_
        refine go_goto C 5 rfl dX12_worthOf_51 ?_
        refine go_sub [1, 2, 3, 0] rfl ?_
        exact ih _ _ _ _ hw
      · replace hw := hw.2 hc
        refine go_aload_n C 0 rfl rfl dX12_worthOf_31 ?_
        refine go_aload_n C 0 rfl rfl dX12_worthOf_32 ?_
        refine go_get (v := .ref (G.2.2.1 82)) C (shX12 G) (ltX12 hN) lkX12_37 rfl dX12_worthOf_33 ?_
        refine go_bipush (v := 12) C rfl dX12_worthOf_36 ?_
        refine go_iload_n C 1 rfl rfl dX12_worthOf_38 ?_
        refine go_imul C dX12_worthOf_39 ?_
        refine go_iload C 3 rfl dX12_worthOf_40 ?_
        refine go_iadd C dX12_worthOf_42 ?_
        refine go_iald C (saX12_clauseAt G) (laX12_clauseAt hN) hw.1 dX12_worthOf_43 ?_
        replace hw := hw.2
        refine go_callV (as := [.int (gI σ 82 ((12 * v1) + v4).toNatClampNeg)]) C hR (shX12 G) (ltX12 hN) cwX12_400 (Nat.le_trans (by decide) hd) (by decide) rfl rfl (Nat.le_of_ble_eq_true rfl) dX12_worthOf_44 (spX12_tells (Nat.le_refl _) hN hw) (fun v_ τ_ hw => ?_)
        obtain ⟨r_2, rfl, hw⟩ := hw
        obtain ⟨σ_3, rfl⟩ : ∃ z, z = τ_ := ⟨_, rfl⟩
        refine go_lstore_n (lv2 := [(2, .long r_2), (0, .ref (G.2.2.1 75)), (1, .int v1), (4, .int v4)]) C rfl (by rw [hnl]; decide) rfl dX12_worthOf_47 ?_
        obtain ⟨v4_4, ev4_4⟩ : ∃ z : Int32, z = v4 + 1 := ⟨_, rfl⟩
        replace hw := hw v4_4 ev4_4
        refine go_iinc (v := v4_4) (lv2 := [(4, .int v4_4), (2, .long r_2), (0, .ref (G.2.2.1 75)), (1, .int v1)]) C 3 rfl (by rw [ev4_4]; rfl) (by rw [hnl]; decide) rfl dX12_worthOf_48 ?_
        refine go_goto C 5 rfl dX12_worthOf_51 ?_
        refine go_sub [2, 3, 1, 0] rfl ?_
        exact ih _ _ _ _ hw
set_option maxRecDepth 20000 in
set_option maxHeartbeats 4000000 in
theorem spX12_worthOf {l : Launch} {G : GT} {d : Nat}  (hd : 4 ≤ d)  (hN : 119 ≤ G.2.2.2.2.2)  {a1 : Int32} {σ : St} {post : Int64 → St → Prop} (hw : wpX12_worthOf  a1 σ post) : Sp l G d yX12_worthOf cX12_worthOf 5 (some .long) [.ref (G.2.2.1 75), .int a1] σ (fun v τ => ∃ r : Int64, v = some (.long r) ∧ post r τ) := by
  refine Sp.of (by decide) (Nat.le_of_ble_eq_true rfl) fun X C hr hR hnl => ?_
  show Go X G 0 [(0, .ref (G.2.2.1 75)), (1, .int a1)] [] σ
  have hw : ∃ m_5, wbX12_worthOf_5 post m_5 a1 0 0 σ := hw
  refine go_lconst (v := 0) C rfl dX12_worthOf_0 ?_
  refine go_lstore_n (lv2 := [(2, .long 0), (0, .ref (G.2.2.1 75)), (1, .int a1)]) C rfl (by rw [hnl]; decide) rfl dX12_worthOf_1 ?_
  refine go_iconst (v := 0) C rfl dX12_worthOf_2 ?_
  refine go_istore (lv2 := [(4, .int 0), (2, .long 0), (0, .ref (G.2.2.1 75)), (1, .int a1)]) C (by rw [hnl]; decide) rfl dX12_worthOf_3 ?_
  refine go_sub [2, 3, 1, 0] rfl ?_
  obtain ⟨n_0, hw⟩ := hw
  exact (gbX12_worthOf_5 C hr hR hnl hd hN) n_0 _ _ _ _ hw
-- CradleNamesModel.chooses(IIII)V
set_option maxRecDepth 20000 in
set_option maxHeartbeats 4000000 in
theorem gbX12_chooses_86 {X : XT} {G : GT} {l : Launch} {d : Nat}  {post : St → Prop} (C : Cx X G cX12_chooses RX12) (hr : Rt X G none (fun v τ => v = none ∧ post τ)) (hR : Rm X l d) (hnl : X.2.2.2.2.2.2.2.2.2.2.1 = 8)  (hd : 6 ≤ d) (hN : 119 ≤ G.2.2.2.2.2)  {K13 : Int32 → Int32 → Int32 → Int32 → Int32 → St → Prop} (hK13 : ∀ (v1 : Int32) (v2 : Int32) (v3 : Int32) (v4 : Int32) (v5 : Int32) (σ : St), K13 v1 v2 v3 v4 v5 σ → Go X G 13 [(0, .ref (G.2.2.1 75)), (1, .int v1), (2, .int v2), (3, .int v3), (4, .int v4), (5, .int v5)] [] σ)
    : ∀ (v1 : Int32) (v2 : Int32) (v3 : Int32) (v4 : Int32) (v5 : Int32) (v6 : Int64) (σ : St), wbX12_chooses_86  K13 post v1 v2 v3 v4 v5 v6 σ → Go X G 86 [(0, .ref (G.2.2.1 75)), (1, .int v1), (2, .int v2), (3, .int v3), (4, .int v4), (5, .int v5), (6, .long v6)] [] σ := by
  intro v1 v2 v3 v4 v5 v6 σ hw
  have hw : ∀ σ_1 : St, σ_1 = sI σ 75 56 v5 →
  ∀ σ_2 : St, σ_2 = sL σ_1 75 57 v6 →
  ∀ v5_3 : Int32, v5_3 = v5 + 1 →
  K13 v1 v2 v3 v4 v5_3 σ_2 := hw
  refine go_aload_n C 0 rfl rfl dX12_chooses_86 ?_
  refine go_iload C 5 rfl dX12_chooses_87 ?_
  refine go_puti C (shX12 G) (ltX12 hN) lpX12_444 (show 56 < 64 by decide) (pxX12_56 G _ _) dX12_chooses_89 (go_nm fun σ_1 eσ_1 => ?_)
  replace hw := hw σ_1 eσ_1
  refine go_aload_n C 0 rfl rfl dX12_chooses_92 ?_
  refine go_lload C 6 rfl dX12_chooses_93 ?_
  refine go_putl C (shX12 G) (ltX12 hN) lpX12_447 (show 57 < 64 by decide) (pxX12_57 G _ _) dX12_chooses_95 (go_nm fun σ_2 eσ_2 => ?_)
  replace hw := hw σ_2 eσ_2
  obtain ⟨v5_3, ev5_3⟩ : ∃ z : Int32, z = v5 + 1 := ⟨_, rfl⟩
  replace hw := hw v5_3 ev5_3
  refine go_iinc (v := v5_3) (lv2 := [(5, .int v5_3), (0, .ref (G.2.2.1 75)), (1, .int v1), (2, .int v2), (3, .int v3), (4, .int v4), (6, .long v6)]) C 5 rfl (by rw [ev5_3]; rfl) (by rw [hnl]; decide) rfl dX12_chooses_98 ?_
  refine go_goto C 13 rfl dX12_chooses_101 ?_
  refine go_sub [1, 2, 3, 4, 5, 0] rfl ?_
  exact hK13 _ _ _ _ _ _ hw
set_option maxRecDepth 20000 in
set_option maxHeartbeats 4000000 in
theorem gbX12_chooses_13 {X : XT} {G : GT} {l : Launch} {d : Nat}  {post : St → Prop} (C : Cx X G cX12_chooses RX12) (hr : Rt X G none (fun v τ => v = none ∧ post τ)) (hR : Rm X l d) (hnl : X.2.2.2.2.2.2.2.2.2.2.1 = 8)  (hd : 6 ≤ d) (hN : 119 ≤ G.2.2.2.2.2)   
    : ∀ (n : Nat) (v1 : Int32) (v2 : Int32) (v3 : Int32) (v4 : Int32) (v5 : Int32) (σ : St), wbX12_chooses_13   post n v1 v2 v3 v4 v5 σ → Go X G 13 [(0, .ref (G.2.2.1 75)), (1, .int v1), (2, .int v2), (3, .int v3), (4, .int v4), (5, .int v5)] [] σ := by
  intro n
  induction n with
  | zero => intro v1 v2 v3 v4 v5 σ hw; exact hw.elim
  | succ n ih =>
    intro v1 v2 v3 v4 v5 σ hw
    have hw : vp_in 1 9680 ∧ (
    (((gI σ 76 (1 : Int32).toNatClampNeg) ≤ v5 →
      post σ) ∧
    (¬ (gI σ 76 (1 : Int32).toNatClampNeg) ≤ v5 →
      vp_in v3 2 ∧ (
      (((gI σ 104 v3.toNatClampNeg) = (-1) →
        post σ) ∧
      (¬ (gI σ 104 v3.toNatClampNeg) = (-1) →
        wpX12_words v1 v2 v3 v5 σ (fun σ_2 =>
        wpX12_may v1 v3 v4 v5 σ_2 (fun r_3 σ_4 =>
        ((r_3 = 0 →
          ∀ v5_5 : Int32, v5_5 = v5 + 1 →
          wbX12_chooses_13 post n v1 v2 v3 v4 v5_5 σ_4) ∧
        (¬ r_3 = 0 →
          vp_in v3 2 ∧ (
          wpX12_worthOf (gI σ_4 104 v3.toNatClampNeg) σ_4 (fun r_6 σ_7 =>
          (((gI σ_7 75 56) = (-1) →
            wbX12_chooses_86 (wbX12_chooses_13 post n) post v1 v2 v3 v4 v5 r_6 σ_7) ∧
          (¬ (gI σ_7 75 56) = (-1) →
            ((r_6 ≤ (gL σ_7 75 57) →
              ∀ v5_8 : Int32, v5_8 = v5 + 1 →
              wbX12_chooses_13 post n v1 v2 v3 v4 v5_8 σ_7) ∧
            (¬ r_6 ≤ (gL σ_7 75 57) →
              wbX12_chooses_86 (wbX12_chooses_13 post n) post v1 v2 v3 v4 v5 r_6 σ_7)))))))))))))))) := hw
    refine go_iload C 5 rfl dX12_chooses_13 ?_
    refine go_aload_n C 0 rfl rfl dX12_chooses_15 ?_
    refine go_get (v := .ref (G.2.2.1 76)) C (shX12 G) (ltX12 hN) lkX12_7 rfl dX12_chooses_16 ?_
    refine go_iconst (v := 1) C rfl dX12_chooses_19 ?_
    refine go_iald C (saX12_a G) (laX12_a hN) hw.1 dX12_chooses_20 ?_
    replace hw := hw.2
    refine go_icmp_ge C 104 rfl dX12_chooses_21 (fun hc => ?_) (fun hc => ?_)
    · replace hw := hw.1 hc
      exact go_vret C hr ⟨rfl, hw⟩ dX12_chooses_104
    · replace hw := hw.2 hc
      refine go_aload_n C 0 rfl rfl dX12_chooses_24 ?_
      refine go_get (v := .ref (G.2.2.1 104)) C (shX12 G) (ltX12 hN) lkX12_103 rfl dX12_chooses_25 ?_
      refine go_iload_n C 3 rfl rfl dX12_chooses_28 ?_
      refine go_iald C (saX12_tasteOf G) (laX12_tasteOf hN) hw.1 dX12_chooses_29 ?_
      replace hw := hw.2
      refine go_iconst (v := (-1)) C rfl dX12_chooses_30 ?_
      refine go_icmp_eq C 104 rfl dX12_chooses_31 (fun hc => ?_) (fun hc => ?_)
      · replace hw := hw.1 hc
        exact go_vret C hr ⟨rfl, hw⟩ dX12_chooses_104
      · replace hw := hw.2 hc
        refine go_aload_n C 0 rfl rfl dX12_chooses_34 ?_
        refine go_iload_n C 1 rfl rfl dX12_chooses_35 ?_
        refine go_iload_n C 2 rfl rfl dX12_chooses_36 ?_
        refine go_iload_n C 3 rfl rfl dX12_chooses_37 ?_
        refine go_iload C 5 rfl dX12_chooses_38 ?_
        refine go_callV (as := [.int v1, .int v2, .int v3, .int v5]) C hR (shX12 G) (ltX12 hN) cwX12_451 (Nat.le_trans (by decide) hd) (by decide) rfl rfl (Nat.le_of_ble_eq_true rfl) dX12_chooses_40 (spX12_words (Nat.le_refl _) hN hw) (fun v_ τ_ hw => ?_)
        obtain ⟨rfl, hw⟩ := hw
        obtain ⟨σ_2, rfl⟩ : ∃ z, z = τ_ := ⟨_, rfl⟩
        refine go_aload_n C 0 rfl rfl dX12_chooses_43 ?_
        refine go_iload_n C 1 rfl rfl dX12_chooses_44 ?_
        refine go_iload_n C 3 rfl rfl dX12_chooses_45 ?_
        refine go_iload C 4 rfl dX12_chooses_46 ?_
        refine go_iload C 5 rfl dX12_chooses_48 ?_
        refine go_callV (as := [.int v1, .int v3, .int v4, .int v5]) C hR (shX12 G) (ltX12 hN) cwX12_454 (Nat.le_trans (by decide) hd) (by decide) rfl rfl (Nat.le_of_ble_eq_true rfl) dX12_chooses_50 (spX12_may (Nat.le_refl _) hN hw) (fun v_ τ_ hw => ?_)
        obtain ⟨r_3, rfl, hw⟩ := hw
        obtain ⟨σ_4, rfl⟩ : ∃ z, z = τ_ := ⟨_, rfl⟩
        refine go_if_eq C 98 rfl dX12_chooses_53 (fun hc => ?_) (fun hc => ?_)
        · replace hw := hw.1 hc
          obtain ⟨v5_5, ev5_5⟩ : ∃ z : Int32, z = v5 + 1 := ⟨_, rfl⟩
          replace hw := hw v5_5 ev5_5
          refine go_iinc (v := v5_5) (lv2 := [(5, .int v5_5), (0, .ref (G.2.2.1 75)), (1, .int v1), (2, .int v2), (3, .int v3), (4, .int v4)]) C 5 rfl (by rw [ev5_5]; rfl) (by rw [hnl]; decide) rfl dX12_chooses_98 ?_
          refine go_goto C 13 rfl dX12_chooses_101 ?_
          refine go_sub [1, 2, 3, 4, 5, 0] rfl ?_
          exact ih _ _ _ _ _ _ hw
        · replace hw := hw.2 hc
          refine go_aload_n C 0 rfl rfl dX12_chooses_56 ?_
          refine go_aload_n C 0 rfl rfl dX12_chooses_57 ?_
          refine go_get (v := .ref (G.2.2.1 104)) C (shX12 G) (ltX12 hN) lkX12_103 rfl dX12_chooses_58 ?_
          refine go_iload_n C 3 rfl rfl dX12_chooses_61 ?_
          refine go_iald C (saX12_tasteOf G) (laX12_tasteOf hN) hw.1 dX12_chooses_62 ?_
          replace hw := hw.2
          refine go_callV (as := [.int (gI σ_4 104 v3.toNatClampNeg)]) C hR (shX12 G) (ltX12 hN) cwX12_458 (Nat.le_trans (by decide) hd) (by decide) rfl rfl (Nat.le_of_ble_eq_true rfl) dX12_chooses_63 (spX12_worthOf (Nat.le_refl _) hN hw) (fun v_ τ_ hw => ?_)
          obtain ⟨r_6, rfl, hw⟩ := hw
          obtain ⟨σ_7, rfl⟩ : ∃ z, z = τ_ := ⟨_, rfl⟩
          refine go_lstore (lv2 := [(6, .long r_6), (0, .ref (G.2.2.1 75)), (1, .int v1), (2, .int v2), (3, .int v3), (4, .int v4), (5, .int v5)]) C (by rw [hnl]; decide) rfl dX12_chooses_66 ?_
          refine go_aload_n C 1 rfl rfl dX12_chooses_68 ?_
          refine go_get (v := .int (gI σ_7 75 56)) C (shX12 G) (ltX12 hN) lkX12_444 rfl dX12_chooses_69 ?_
          refine go_iconst (v := (-1)) C rfl dX12_chooses_72 ?_
          refine go_icmp_eq C 86 rfl dX12_chooses_73 (fun hc => ?_) (fun hc => ?_)
          · replace hw := hw.1 hc
            refine go_sub [1, 2, 3, 4, 5, 6, 0] rfl ?_
            exact (gbX12_chooses_86 C hr hR hnl hd hN ih) _ _ _ _ _ _ _ hw
          · replace hw := hw.2 hc
            refine go_lload C 0 rfl dX12_chooses_76 ?_
            refine go_aload_n C 1 rfl rfl dX12_chooses_78 ?_
            refine go_get (v := .long (gL σ_7 75 57)) C (shX12 G) (ltX12 hN) lkX12_447 rfl dX12_chooses_79 ?_
            refine go_lc_le C 98 rfl dX12_chooses_82 dX12_chooses_83 (fun hc => ?_) (fun hc => ?_)
            · replace hw := hw.1 hc
              obtain ⟨v5_8, ev5_8⟩ : ∃ z : Int32, z = v5 + 1 := ⟨_, rfl⟩
              replace hw := hw v5_8 ev5_8
              refine go_iinc (v := v5_8) (lv2 := [(5, .int v5_8), (6, .long r_6), (0, .ref (G.2.2.1 75)), (1, .int v1), (2, .int v2), (3, .int v3), (4, .int v4)]) C 6 rfl (by rw [ev5_8]; rfl) (by rw [hnl]; decide) rfl dX12_chooses_98 ?_
              refine go_goto C 13 rfl dX12_chooses_101 ?_
              refine go_sub [2, 3, 4, 5, 6, 0] rfl ?_
              exact ih _ _ _ _ _ _ hw
            · replace hw := hw.2 hc
              refine go_sub [1, 2, 3, 4, 5, 6, 0] rfl ?_
              exact (gbX12_chooses_86 C hr hR hnl hd hN ih) _ _ _ _ _ _ _ hw
set_option maxRecDepth 20000 in
set_option maxHeartbeats 4000000 in
theorem spX12_chooses {l : Launch} {G : GT} {d : Nat}  (hd : 6 ≤ d)  (hN : 119 ≤ G.2.2.2.2.2)  {a1 : Int32} {a2 : Int32} {a3 : Int32} {a4 : Int32} {σ : St} {post : St → Prop} (hw : wpX12_chooses  a1 a2 a3 a4 σ post) : Sp l G d yX12_chooses cX12_chooses 8 none [.ref (G.2.2.1 75), .int a1, .int a2, .int a3, .int a4] σ (fun v τ => v = none ∧ post τ) := by
  refine Sp.of (by decide) (Nat.le_of_ble_eq_true rfl) fun X C hr hR hnl => ?_
  show Go X G 0 [(0, .ref (G.2.2.1 75)), (1, .int a1), (2, .int a2), (3, .int a3), (4, .int a4)] [] σ
  have hw : ∀ σ_1 : St, σ_1 = sI σ 75 56 (-1) →
  ∀ σ_2 : St, σ_2 = sL σ_1 75 57 0 →
  ∃ m_13, wbX12_chooses_13 post m_13 a1 a2 a3 a4 0 σ_2 := hw
  refine go_aload_n C 0 rfl rfl dX12_chooses_0 ?_
  refine go_iconst (v := (-1)) C rfl dX12_chooses_1 ?_
  refine go_puti C (shX12 G) (ltX12 hN) lpX12_444 (show 56 < 64 by decide) (pxX12_56 G _ _) dX12_chooses_2 (go_nm fun σ_1 eσ_1 => ?_)
  replace hw := hw σ_1 eσ_1
  refine go_aload_n C 0 rfl rfl dX12_chooses_5 ?_
  refine go_lconst (v := 0) C rfl dX12_chooses_6 ?_
  refine go_putl C (shX12 G) (ltX12 hN) lpX12_447 (show 57 < 64 by decide) (pxX12_57 G _ _) dX12_chooses_7 (go_nm fun σ_2 eσ_2 => ?_)
  replace hw := hw σ_2 eσ_2
  refine go_iconst (v := 0) C rfl dX12_chooses_10 ?_
  refine go_istore (lv2 := [(5, .int 0), (0, .ref (G.2.2.1 75)), (1, .int a1), (2, .int a2), (3, .int a3), (4, .int a4)]) C (by rw [hnl]; decide) rfl dX12_chooses_11 ?_
  refine go_sub [1, 2, 3, 4, 5, 0] rfl ?_
  obtain ⟨n_0, hw⟩ := hw
  exact (gbX12_chooses_13 C hr hR hnl hd hN) n_0 _ _ _ _ _ _ hw
-- CradleNamesModel.gives(IIIIII)V
set_option maxRecDepth 20000 in
set_option maxHeartbeats 4000000 in
theorem spX12_gives {l : Launch} {G : GT} {d : Nat}  (hd : 2 ≤ d)  (hN : 119 ≤ G.2.2.2.2.2)  {a1 : Int32} {a2 : Int32} {a3 : Int32} {a4 : Int32} {a5 : Int32} {a6 : Int32} {σ : St} {post : St → Prop} (hw : wpX12_gives  a1 a2 a3 a4 a5 a6 σ post) : Sp l G d yX12_gives cX12_gives 8 none [.ref (G.2.2.1 75), .int a1, .int a2, .int a3, .int a4, .int a5, .int a6] σ (fun v τ => v = none ∧ post τ) := by
  refine Sp.of (by decide) (Nat.le_of_ble_eq_true rfl) fun X C hr hR hnl => ?_
  show Go X G 0 [(0, .ref (G.2.2.1 75)), (1, .int a1), (2, .int a2), (3, .int a3), (4, .int a4), (5, .int a5), (6, .int a6)] [] σ
  have hw : ∀ v7_1 : Int32, v7_1 = (a1 + 40) →
  wpX12_cell a2 a3 a4 σ (fun r_2 σ_3 =>
  vp_in (((192 * v7_1) + (16 * r_2)) + a5) 19392 ∧ (
  vp_in (((192 * v7_1) + (16 * r_2)) + a5) 19392 ∧ (
  ∀ σ_4 : St, σ_4 = sI σ_3 98 (((192 * v7_1) + (16 * r_2)) + a5).toNatClampNeg ((gI σ_3 98 (((192 * v7_1) + (16 * r_2)) + a5).toNatClampNeg) + a6) →
  vp_in ((16 * v7_1) + a5) 1616 ∧ (
  vp_in ((16 * v7_1) + a5) 1616 ∧ (
  ∀ σ_5 : St, σ_5 = sI σ_4 99 ((16 * v7_1) + a5).toNatClampNeg ((gI σ_4 99 ((16 * v7_1) + a5).toNatClampNeg) + a6) →
  vp_in (((48 * v7_1) + (16 * a2)) + a5) 4848 ∧ (
  vp_in (((48 * v7_1) + (16 * a2)) + a5) 4848 ∧ (
  ∀ σ_6 : St, σ_6 = sI σ_5 100 (((48 * v7_1) + (16 * a2)) + a5).toNatClampNeg ((gI σ_5 100 (((48 * v7_1) + (16 * a2)) + a5).toNatClampNeg) + a6) →
  vp_in (((32 * v7_1) + (16 * a3)) + a5) 3232 ∧ (
  vp_in (((32 * v7_1) + (16 * a3)) + a5) 3232 ∧ (
  ∀ σ_7 : St, σ_7 = sI σ_6 101 (((32 * v7_1) + (16 * a3)) + a5).toNatClampNeg ((gI σ_6 101 (((32 * v7_1) + (16 * a3)) + a5).toNatClampNeg) + a6) →
  vp_in (((32 * v7_1) + (16 * a4)) + a5) 3232 ∧ (
  vp_in (((32 * v7_1) + (16 * a4)) + a5) 3232 ∧ (
  ∀ σ_8 : St, σ_8 = sI σ_7 102 (((32 * v7_1) + (16 * a4)) + a5).toNatClampNeg ((gI σ_7 102 (((32 * v7_1) + (16 * a4)) + a5).toNatClampNeg) + a6) →
  post σ_8))))))))))) := hw
  refine go_iload_n C 1 rfl rfl dX12_gives_0 ?_
  refine go_bipush (v := 40) C rfl dX12_gives_1 ?_
  refine go_iadd C dX12_gives_3 ?_
  refine go_topi (fun v7_1 ev7_1 => ?_)
  replace hw := hw v7_1 ev7_1
  refine go_istore (lv2 := [(7, .int v7_1), (0, .ref (G.2.2.1 75)), (1, .int a1), (2, .int a2), (3, .int a3), (4, .int a4), (5, .int a5), (6, .int a6)]) C (by rw [hnl]; decide) rfl dX12_gives_4 ?_
  refine go_aload_n C 1 rfl rfl dX12_gives_6 ?_
  refine go_get (v := .ref (G.2.2.1 98)) C (shX12 G) (ltX12 hN) lkX12_85 rfl dX12_gives_7 ?_
  refine go_sipush (v := 192) C rfl dX12_gives_10 ?_
  refine go_iload C 0 rfl dX12_gives_13 ?_
  refine go_imul C dX12_gives_15 ?_
  refine go_bipush (v := 16) C rfl dX12_gives_16 ?_
  refine go_iload_n C 3 rfl rfl dX12_gives_18 ?_
  refine go_iload_n C 4 rfl rfl dX12_gives_19 ?_
  refine go_iload C 5 rfl dX12_gives_20 ?_
  refine go_callS (as := [.int a2, .int a3, .int a4]) C hR cwX12_206 (Nat.le_trans (by decide) hd) (by decide) rfl rfl (Nat.le_of_ble_eq_true rfl) dX12_gives_22 (spX12_cell (Nat.le_refl _) hN hw) (fun v_ τ_ hw => ?_)
  obtain ⟨r_2, rfl, hw⟩ := hw
  obtain ⟨σ_3, rfl⟩ : ∃ z, z = τ_ := ⟨_, rfl⟩
  refine go_imul C dX12_gives_25 ?_
  refine go_iadd C dX12_gives_26 ?_
  refine go_iload C 6 rfl dX12_gives_27 ?_
  refine go_iadd C dX12_gives_29 ?_
  refine go_dup2 C rfl rfl dX12_gives_30 ?_
  refine go_iald C (saX12_given G) (laX12_given hN) hw.1 dX12_gives_31 ?_
  replace hw := hw.2
  refine go_iload C 7 rfl dX12_gives_32 ?_
  refine go_iadd C dX12_gives_34 ?_
  refine go_iast C (saX12_given G) (laX12_given hN) hw.1 dX12_gives_35 (go_nm fun σ_4 eσ_4 => ?_)
  replace hw := hw.2 σ_4 eσ_4
  refine go_aload_n C 1 rfl rfl dX12_gives_36 ?_
  refine go_get (v := .ref (G.2.2.1 99)) C (shX12 G) (ltX12 hN) lkX12_88 rfl dX12_gives_37 ?_
  refine go_bipush (v := 16) C rfl dX12_gives_40 ?_
  refine go_iload C 0 rfl dX12_gives_42 ?_
  refine go_imul C dX12_gives_44 ?_
  refine go_iload C 6 rfl dX12_gives_45 ?_
  refine go_iadd C dX12_gives_47 ?_
  refine go_dup2 C rfl rfl dX12_gives_48 ?_
  refine go_iald C (saX12_together G) (laX12_together hN) hw.1 dX12_gives_49 ?_
  replace hw := hw.2
  refine go_iload C 7 rfl dX12_gives_50 ?_
  refine go_iadd C dX12_gives_52 ?_
  refine go_iast C (saX12_together G) (laX12_together hN) hw.1 dX12_gives_53 (go_nm fun σ_5 eσ_5 => ?_)
  replace hw := hw.2 σ_5 eσ_5
  refine go_aload_n C 1 rfl rfl dX12_gives_54 ?_
  refine go_get (v := .ref (G.2.2.1 100)) C (shX12 G) (ltX12 hN) lkX12_91 rfl dX12_gives_55 ?_
  refine go_bipush (v := 48) C rfl dX12_gives_58 ?_
  refine go_iload C 0 rfl dX12_gives_60 ?_
  refine go_imul C dX12_gives_62 ?_
  refine go_bipush (v := 16) C rfl dX12_gives_63 ?_
  refine go_iload_n C 3 rfl rfl dX12_gives_65 ?_
  refine go_imul C dX12_gives_66 ?_
  refine go_iadd C dX12_gives_67 ?_
  refine go_iload C 6 rfl dX12_gives_68 ?_
  refine go_iadd C dX12_gives_70 ?_
  refine go_dup2 C rfl rfl dX12_gives_71 ?_
  refine go_iald C (saX12_inPlace G) (laX12_inPlace hN) hw.1 dX12_gives_72 ?_
  replace hw := hw.2
  refine go_iload C 7 rfl dX12_gives_73 ?_
  refine go_iadd C dX12_gives_75 ?_
  refine go_iast C (saX12_inPlace G) (laX12_inPlace hN) hw.1 dX12_gives_76 (go_nm fun σ_6 eσ_6 => ?_)
  replace hw := hw.2 σ_6 eσ_6
  refine go_aload_n C 1 rfl rfl dX12_gives_77 ?_
  refine go_get (v := .ref (G.2.2.1 101)) C (shX12 G) (ltX12 hN) lkX12_94 rfl dX12_gives_78 ?_
  refine go_bipush (v := 32) C rfl dX12_gives_81 ?_
  refine go_iload C 0 rfl dX12_gives_83 ?_
  refine go_imul C dX12_gives_85 ?_
  refine go_bipush (v := 16) C rfl dX12_gives_86 ?_
  refine go_iload_n C 4 rfl rfl dX12_gives_88 ?_
  refine go_imul C dX12_gives_89 ?_
  refine go_iadd C dX12_gives_90 ?_
  refine go_iload C 6 rfl dX12_gives_91 ?_
  refine go_iadd C dX12_gives_93 ?_
  refine go_dup2 C rfl rfl dX12_gives_94 ?_
  refine go_iald C (saX12_inStanding G) (laX12_inStanding hN) hw.1 dX12_gives_95 ?_
  replace hw := hw.2
  refine go_iload C 7 rfl dX12_gives_96 ?_
  refine go_iadd C dX12_gives_98 ?_
  refine go_iast C (saX12_inStanding G) (laX12_inStanding hN) hw.1 dX12_gives_99 (go_nm fun σ_7 eσ_7 => ?_)
  replace hw := hw.2 σ_7 eσ_7
  refine go_aload_n C 1 rfl rfl dX12_gives_100 ?_
  refine go_get (v := .ref (G.2.2.1 102)) C (shX12 G) (ltX12 hN) lkX12_97 rfl dX12_gives_101 ?_
  refine go_bipush (v := 32) C rfl dX12_gives_104 ?_
  refine go_iload C 0 rfl dX12_gives_106 ?_
  refine go_imul C dX12_gives_108 ?_
  refine go_bipush (v := 16) C rfl dX12_gives_109 ?_
  refine go_iload C 5 rfl dX12_gives_111 ?_
  refine go_imul C dX12_gives_113 ?_
  refine go_iadd C dX12_gives_114 ?_
  refine go_iload C 6 rfl dX12_gives_115 ?_
  refine go_iadd C dX12_gives_117 ?_
  refine go_dup2 C rfl rfl dX12_gives_118 ?_
  refine go_iald C (saX12_inSex G) (laX12_inSex hN) hw.1 dX12_gives_119 ?_
  replace hw := hw.2
  refine go_iload C 7 rfl dX12_gives_120 ?_
  refine go_iadd C dX12_gives_122 ?_
  refine go_iast C (saX12_inSex G) (laX12_inSex hN) hw.1 dX12_gives_123 (go_nm fun σ_8 eσ_8 => ?_)
  replace hw := hw.2 σ_8 eσ_8
  exact go_vret C hr ⟨rfl, hw⟩ dX12_gives_124
-- CradleNamesModel.rocks(IIII)V
set_option maxRecDepth 20000 in
set_option maxHeartbeats 4000000 in
theorem spX12_rocks {l : Launch} {G : GT} {d : Nat}  (hd : 7 ≤ d)  (hN : 119 ≤ G.2.2.2.2.2)  {a1 : Int32} {a2 : Int32} {a3 : Int32} {a4 : Int32} {σ : St} {post : St → Prop} (hw : wpX12_rocks  a1 a2 a3 a4 σ post) : Sp l G d yX12_rocks cX12_rocks 5 none [.ref (G.2.2.1 75), .int a1, .int a2, .int a3, .int a4] σ (fun v τ => v = none ∧ post τ) := by
  refine Sp.of (by decide) (Nat.le_of_ble_eq_true rfl) fun X C hr hR hnl => ?_
  show Go X G 0 [(0, .ref (G.2.2.1 75)), (1, .int a1), (2, .int a2), (3, .int a3), (4, .int a4)] [] σ
  have hw : wpX12_chooses a1 a2 a3 a4 σ (fun σ_2 =>
  ((¬ (gI σ_2 75 56) = (-1) →
    wpX12_gives a1 a2 a3 a4 (gI σ_2 75 56) 1 σ_2 (fun σ_4 =>
    post σ_4)) ∧
  ((gI σ_2 75 56) = (-1) →
    vp_in a1 61 ∧ (
    vp_in a1 61 ∧ (
    ∀ σ_5 : St, σ_5 = sI σ_2 103 a1.toNatClampNeg ((gI σ_2 103 a1.toNatClampNeg) + 1) →
    post σ_5))))) := hw
  refine go_aload_n C 0 rfl rfl dX12_rocks_0 ?_
  refine go_iload_n C 1 rfl rfl dX12_rocks_1 ?_
  refine go_iload_n C 2 rfl rfl dX12_rocks_2 ?_
  refine go_iload_n C 3 rfl rfl dX12_rocks_3 ?_
  refine go_iload C 4 rfl dX12_rocks_4 ?_
  refine go_callV (as := [.int a1, .int a2, .int a3, .int a4]) C hR (shX12 G) (ltX12 hN) cwX12_461 (Nat.le_trans (by decide) hd) (by decide) rfl rfl (Nat.le_of_ble_eq_true rfl) dX12_rocks_6 (spX12_chooses (Nat.le_refl _) hN hw) (fun v_ τ_ hw => ?_)
  obtain ⟨rfl, hw⟩ := hw
  obtain ⟨σ_2, rfl⟩ : ∃ z, z = τ_ := ⟨_, rfl⟩
  refine go_aload_n C 0 rfl rfl dX12_rocks_9 ?_
  refine go_get (v := .int (gI σ_2 75 56)) C (shX12 G) (ltX12 hN) lkX12_444 rfl dX12_rocks_10 ?_
  refine go_iconst (v := (-1)) C rfl dX12_rocks_13 ?_
  refine go_icmp_ne C 30 rfl dX12_rocks_14 (fun hc => ?_) (fun hc => ?_)
  · replace hw := hw.1 hc
    refine go_aload_n C 0 rfl rfl dX12_rocks_30 ?_
    refine go_iload_n C 1 rfl rfl dX12_rocks_31 ?_
    refine go_iload_n C 2 rfl rfl dX12_rocks_32 ?_
    refine go_iload_n C 3 rfl rfl dX12_rocks_33 ?_
    refine go_iload C 4 rfl dX12_rocks_34 ?_
    refine go_aload_n C 0 rfl rfl dX12_rocks_36 ?_
    refine go_get (v := .int (gI σ_2 75 56)) C (shX12 G) (ltX12 hN) lkX12_444 rfl dX12_rocks_37 ?_
    refine go_iconst (v := 1) C rfl dX12_rocks_40 ?_
    refine go_callV (as := [.int a1, .int a2, .int a3, .int a4, .int (gI σ_2 75 56), .int 1]) C hR (shX12 G) (ltX12 hN) cwX12_416 (Nat.le_trans (by decide) hd) (by decide) rfl rfl (Nat.le_of_ble_eq_true rfl) dX12_rocks_41 (spX12_gives (Nat.le_refl _) hN hw) (fun v_ τ_ hw => ?_)
    obtain ⟨rfl, hw⟩ := hw
    obtain ⟨σ_4, rfl⟩ : ∃ z, z = τ_ := ⟨_, rfl⟩
    exact go_vret C hr ⟨rfl, hw⟩ dX12_rocks_44
  · replace hw := hw.2 hc
    refine go_aload_n C 0 rfl rfl dX12_rocks_17 ?_
    refine go_get (v := .ref (G.2.2.1 103)) C (shX12 G) (ltX12 hN) lkX12_100 rfl dX12_rocks_18 ?_
    refine go_iload_n C 1 rfl rfl dX12_rocks_21 ?_
    refine go_dup2 C rfl rfl dX12_rocks_22 ?_
    refine go_iald C (saX12_nameless G) (laX12_nameless hN) hw.1 dX12_rocks_23 ?_
    replace hw := hw.2
    refine go_iconst (v := 1) C rfl dX12_rocks_24 ?_
    refine go_iadd C dX12_rocks_25 ?_
    refine go_iast C (saX12_nameless G) (laX12_nameless hN) hw.1 dX12_rocks_26 (go_nm fun σ_5 eσ_5 => ?_)
    replace hw := hw.2 σ_5 eσ_5
    refine go_goto C 44 rfl dX12_rocks_27 ?_
    exact go_vret C hr ⟨rfl, hw⟩ dX12_rocks_44
-- CradleNamesModel.laysOf(III)V
set_option maxRecDepth 20000 in
set_option maxHeartbeats 4000000 in
theorem gbX12_laysOf_95 {X : XT} {G : GT} {l : Launch} {d : Nat}  {post : St → Prop} (C : Cx X G cX12_laysOf RX12) (hr : Rt X G none (fun v τ => v = none ∧ post τ)) (hR : Rm X l d) (hnl : X.2.2.2.2.2.2.2.2.2.2.1 = 7)  (hd : 2 ≤ d) (hN : 119 ≤ G.2.2.2.2.2)  {K86 : Int32 → Int32 → Int32 → Int32 → Int32 → St → Prop} (hK86 : ∀ (v1 : Int32) (v2 : Int32) (v3 : Int32) (v4 : Int32) (v5 : Int32) (σ : St), K86 v1 v2 v3 v4 v5 σ → Go X G 86 [(0, .ref (G.2.2.1 75)), (1, .int v1), (2, .int v2), (3, .int v3), (4, .int v4), (5, .int v5)] [] σ)
    : ∀ (n : Nat) (v1 : Int32) (v2 : Int32) (v3 : Int32) (v4 : Int32) (v5 : Int32) (v6 : Int32) (σ : St), wbX12_laysOf_95  K86 post n v1 v2 v3 v4 v5 v6 σ → Go X G 95 [(0, .ref (G.2.2.1 75)), (1, .int v1), (2, .int v2), (3, .int v3), (4, .int v4), (5, .int v5), (6, .int v6)] [] σ := by
  intro n
  induction n with
  | zero => intro v1 v2 v3 v4 v5 v6 σ hw; exact hw.elim
  | succ n ih =>
    intro v1 v2 v3 v4 v5 v6 σ hw
    have hw : ((3 ≤ v6 →
      vp_in ((32 * v2) + v3) 64 ∧ (
      vp_in ((32 * (v5 + 40)) + v3) 3232 ∧ (
      vp_in ((32 * v2) + v3) 64 ∧ (
      ∀ σ_1 : St, σ_1 = sI σ 106 ((32 * v2) + v3).toNatClampNeg ((gI σ 106 ((32 * v2) + v3).toNatClampNeg) + (gI σ 101 ((32 * (v5 + 40)) + v3).toNatClampNeg)) →
      vp_in (((32 * v2) + 16) + v3) 64 ∧ (
      vp_in (((32 * (v5 + 40)) + 16) + v3) 3232 ∧ (
      vp_in (((32 * v2) + 16) + v3) 64 ∧ (
      ∀ σ_2 : St, σ_2 = sI σ_1 106 (((32 * v2) + 16) + v3).toNatClampNeg ((gI σ_1 106 (((32 * v2) + 16) + v3).toNatClampNeg) + (gI σ_1 101 (((32 * (v5 + 40)) + 16) + v3).toNatClampNeg)) →
      ∀ v5_3 : Int32, v5_3 = v5 + 1 →
      K86 v1 v2 v3 v4 v5_3 σ_2))))))) ∧
    (¬ 3 ≤ v6 →
      vp_in (((48 * v2) + (16 * v6)) + v3) 96 ∧ (
      vp_in (((48 * (v5 + 40)) + (16 * v6)) + v3) 4848 ∧ (
      vp_in (((48 * v2) + (16 * v6)) + v3) 96 ∧ (
      ∀ σ_4 : St, σ_4 = sI σ 105 (((48 * v2) + (16 * v6)) + v3).toNatClampNeg ((gI σ 105 (((48 * v2) + (16 * v6)) + v3).toNatClampNeg) + (gI σ 100 (((48 * (v5 + 40)) + (16 * v6)) + v3).toNatClampNeg)) →
      ∀ v6_5 : Int32, v6_5 = v6 + 1 →
      wbX12_laysOf_95 K86 post n v1 v2 v3 v4 v5 v6_5 σ_4))))) := hw
    refine go_iload C 6 rfl dX12_laysOf_95 ?_
    refine go_iconst (v := 3) C rfl dX12_laysOf_97 ?_
    refine go_icmp_ge C 148 rfl dX12_laysOf_98 (fun hc => ?_) (fun hc => ?_)
    · replace hw := hw.1 hc
      refine go_aload_n C 0 rfl rfl dX12_laysOf_148 ?_
      refine go_get (v := .ref (G.2.2.1 106)) C (shX12 G) (ltX12 hN) lkX12_109 rfl dX12_laysOf_149 ?_
      refine go_bipush (v := 32) C rfl dX12_laysOf_152 ?_
      refine go_iload_n C 2 rfl rfl dX12_laysOf_154 ?_
      refine go_imul C dX12_laysOf_155 ?_
      refine go_iload_n C 3 rfl rfl dX12_laysOf_156 ?_
      refine go_iadd C dX12_laysOf_157 ?_
      refine go_dup2 C rfl rfl dX12_laysOf_158 ?_
      refine go_iald C (saX12_standingAhead G) (laX12_standingAhead hN) hw.1 dX12_laysOf_159 ?_
      replace hw := hw.2
      refine go_aload_n C 0 rfl rfl dX12_laysOf_160 ?_
      refine go_get (v := .ref (G.2.2.1 101)) C (shX12 G) (ltX12 hN) lkX12_94 rfl dX12_laysOf_161 ?_
      refine go_bipush (v := 32) C rfl dX12_laysOf_164 ?_
      refine go_iload C 5 rfl dX12_laysOf_166 ?_
      refine go_bipush (v := 40) C rfl dX12_laysOf_168 ?_
      refine go_iadd C dX12_laysOf_170 ?_
      refine go_imul C dX12_laysOf_171 ?_
      refine go_iload_n C 3 rfl rfl dX12_laysOf_172 ?_
      refine go_iadd C dX12_laysOf_173 ?_
      refine go_iald C (saX12_inStanding G) (laX12_inStanding hN) hw.1 dX12_laysOf_174 ?_
      replace hw := hw.2
      refine go_iadd C dX12_laysOf_175 ?_
      refine go_iast C (saX12_standingAhead G) (laX12_standingAhead hN) hw.1 dX12_laysOf_176 (go_nm fun σ_1 eσ_1 => ?_)
      replace hw := hw.2 σ_1 eσ_1
      refine go_aload_n C 0 rfl rfl dX12_laysOf_177 ?_
      refine go_get (v := .ref (G.2.2.1 106)) C (shX12 G) (ltX12 hN) lkX12_109 rfl dX12_laysOf_178 ?_
      refine go_bipush (v := 32) C rfl dX12_laysOf_181 ?_
      refine go_iload_n C 2 rfl rfl dX12_laysOf_183 ?_
      refine go_imul C dX12_laysOf_184 ?_
      refine go_bipush (v := 16) C rfl dX12_laysOf_185 ?_
      refine go_iadd C dX12_laysOf_187 ?_
      refine go_iload_n C 3 rfl rfl dX12_laysOf_188 ?_
      refine go_iadd C dX12_laysOf_189 ?_
      refine go_dup2 C rfl rfl dX12_laysOf_190 ?_
      refine go_iald C (saX12_standingAhead G) (laX12_standingAhead hN) hw.1 dX12_laysOf_191 ?_
      replace hw := hw.2
      refine go_aload_n C 0 rfl rfl dX12_laysOf_192 ?_
      refine go_get (v := .ref (G.2.2.1 101)) C (shX12 G) (ltX12 hN) lkX12_94 rfl dX12_laysOf_193 ?_
      refine go_bipush (v := 32) C rfl dX12_laysOf_196 ?_
      refine go_iload C 5 rfl dX12_laysOf_198 ?_
      refine go_bipush (v := 40) C rfl dX12_laysOf_200 ?_
      refine go_iadd C dX12_laysOf_202 ?_
      refine go_imul C dX12_laysOf_203 ?_
      refine go_bipush (v := 16) C rfl dX12_laysOf_204 ?_
      refine go_iadd C dX12_laysOf_206 ?_
      refine go_iload_n C 3 rfl rfl dX12_laysOf_207 ?_
      refine go_iadd C dX12_laysOf_208 ?_
      refine go_iald C (saX12_inStanding G) (laX12_inStanding hN) hw.1 dX12_laysOf_209 ?_
      replace hw := hw.2
      refine go_iadd C dX12_laysOf_210 ?_
      refine go_iast C (saX12_standingAhead G) (laX12_standingAhead hN) hw.1 dX12_laysOf_211 (go_nm fun σ_2 eσ_2 => ?_)
      replace hw := hw.2 σ_2 eσ_2
      obtain ⟨v5_3, ev5_3⟩ : ∃ z : Int32, z = v5 + 1 := ⟨_, rfl⟩
      replace hw := hw v5_3 ev5_3
      refine go_iinc (v := v5_3) (lv2 := [(5, .int v5_3), (0, .ref (G.2.2.1 75)), (1, .int v1), (2, .int v2), (3, .int v3), (4, .int v4), (6, .int v6)]) C 5 rfl (by rw [ev5_3]; rfl) (by rw [hnl]; decide) rfl dX12_laysOf_212 ?_
      refine go_goto C 86 rfl dX12_laysOf_215 ?_
      refine go_sub [1, 2, 3, 4, 5, 0] rfl ?_
      exact hK86 _ _ _ _ _ _ hw
    · replace hw := hw.2 hc
      refine go_aload_n C 0 rfl rfl dX12_laysOf_101 ?_
      refine go_get (v := .ref (G.2.2.1 105)) C (shX12 G) (ltX12 hN) lkX12_106 rfl dX12_laysOf_102 ?_
      refine go_bipush (v := 48) C rfl dX12_laysOf_105 ?_
      refine go_iload_n C 2 rfl rfl dX12_laysOf_107 ?_
      refine go_imul C dX12_laysOf_108 ?_
      refine go_bipush (v := 16) C rfl dX12_laysOf_109 ?_
      refine go_iload C 6 rfl dX12_laysOf_111 ?_
      refine go_imul C dX12_laysOf_113 ?_
      refine go_iadd C dX12_laysOf_114 ?_
      refine go_iload_n C 3 rfl rfl dX12_laysOf_115 ?_
      refine go_iadd C dX12_laysOf_116 ?_
      refine go_dup2 C rfl rfl dX12_laysOf_117 ?_
      refine go_iald C (saX12_nearAhead G) (laX12_nearAhead hN) hw.1 dX12_laysOf_118 ?_
      replace hw := hw.2
      refine go_aload_n C 0 rfl rfl dX12_laysOf_119 ?_
      refine go_get (v := .ref (G.2.2.1 100)) C (shX12 G) (ltX12 hN) lkX12_91 rfl dX12_laysOf_120 ?_
      refine go_bipush (v := 48) C rfl dX12_laysOf_123 ?_
      refine go_iload C 5 rfl dX12_laysOf_125 ?_
      refine go_bipush (v := 40) C rfl dX12_laysOf_127 ?_
      refine go_iadd C dX12_laysOf_129 ?_
      refine go_imul C dX12_laysOf_130 ?_
      refine go_bipush (v := 16) C rfl dX12_laysOf_131 ?_
      refine go_iload C 6 rfl dX12_laysOf_133 ?_
      refine go_imul C dX12_laysOf_135 ?_
      refine go_iadd C dX12_laysOf_136 ?_
      refine go_iload_n C 3 rfl rfl dX12_laysOf_137 ?_
      refine go_iadd C dX12_laysOf_138 ?_
      refine go_iald C (saX12_inPlace G) (laX12_inPlace hN) hw.1 dX12_laysOf_139 ?_
      replace hw := hw.2
      refine go_iadd C dX12_laysOf_140 ?_
      refine go_iast C (saX12_nearAhead G) (laX12_nearAhead hN) hw.1 dX12_laysOf_141 (go_nm fun σ_4 eσ_4 => ?_)
      replace hw := hw.2 σ_4 eσ_4
      obtain ⟨v6_5, ev6_5⟩ : ∃ z : Int32, z = v6 + 1 := ⟨_, rfl⟩
      replace hw := hw v6_5 ev6_5
      refine go_iinc (v := v6_5) (lv2 := [(6, .int v6_5), (0, .ref (G.2.2.1 75)), (1, .int v1), (2, .int v2), (3, .int v3), (4, .int v4), (5, .int v5)]) C 6 rfl (by rw [ev6_5]; rfl) (by rw [hnl]; decide) rfl dX12_laysOf_142 ?_
      refine go_goto C 95 rfl dX12_laysOf_145 ?_
      refine go_sub [1, 2, 3, 4, 5, 6, 0] rfl ?_
      exact ih _ _ _ _ _ _ _ hw
set_option maxRecDepth 20000 in
set_option maxHeartbeats 4000000 in
theorem gbX12_laysOf_239 {X : XT} {G : GT} {l : Launch} {d : Nat}  {post : St → Prop} (C : Cx X G cX12_laysOf RX12) (hr : Rt X G none (fun v τ => v = none ∧ post τ)) (hR : Rm X l d) (hnl : X.2.2.2.2.2.2.2.2.2.2.1 = 7)  (hd : 2 ≤ d) (hN : 119 ≤ G.2.2.2.2.2)   
    : ∀ (n : Nat) (v1 : Int32) (v2 : Int32) (v3 : Int32) (v4 : Int32) (v5 : Int32) (v6 : Int32) (σ : St), wbX12_laysOf_239   post n v1 v2 v3 v4 v5 v6 σ → Go X G 239 [(0, .ref (G.2.2.1 75)), (1, .int v1), (2, .int v2), (3, .int v3), (4, .int v4), (5, .int v5), (6, .int v6)] [] σ := by
  intro n
  induction n with
  | zero => intro v1 v2 v3 v4 v5 v6 σ hw; exact hw.elim
  | succ n ih =>
    intro v1 v2 v3 v4 v5 v6 σ hw
    have hw : vp_in v4 6 ∧ (
    (((v1 - (gI σ 84 v4.toNatClampNeg)) < v6 →
      vp_in ((16 * v2) + v3) 32 ∧ (
      ∀ σ_1 : St, σ_1 = sI σ 107 ((16 * v2) + v3).toNatClampNeg v5 →
      post σ_1)) ∧
    (¬ (v1 - (gI σ 84 v4.toNatClampNeg)) < v6 →
      wpX12_all v6 v3 σ (fun r_2 σ_3 =>
      ∀ v5_4 : Int32, v5_4 = (v5 + r_2) →
      ∀ v6_5 : Int32, v6_5 = v6 + 1 →
      wbX12_laysOf_239 post n v1 v2 v3 v4 v5_4 v6_5 σ_3)))) := hw
    refine go_iload C 6 rfl dX12_laysOf_239 ?_
    refine go_iload_n C 1 rfl rfl dX12_laysOf_241 ?_
    refine go_aload_n C 0 rfl rfl dX12_laysOf_242 ?_
    refine go_get (v := .ref (G.2.2.1 84)) C (shX12 G) (ltX12 hN) lkX12_43 rfl dX12_laysOf_243 ?_
    refine go_iload C 4 rfl dX12_laysOf_246 ?_
    refine go_iald C (saX12_pastYears G) (laX12_pastYears hN) hw.1 dX12_laysOf_248 ?_
    replace hw := hw.2
    refine go_isub C dX12_laysOf_249 ?_
    refine go_icmp_gt C 271 rfl dX12_laysOf_250 (fun hc => ?_) (fun hc => ?_)
    · replace hw := hw.1 hc
      refine go_aload_n C 0 rfl rfl dX12_laysOf_271 ?_
      refine go_get (v := .ref (G.2.2.1 107)) C (shX12 G) (ltX12 hN) lkX12_112 rfl dX12_laysOf_272 ?_
      refine go_bipush (v := 16) C rfl dX12_laysOf_275 ?_
      refine go_iload_n C 2 rfl rfl dX12_laysOf_277 ?_
      refine go_imul C dX12_laysOf_278 ?_
      refine go_iload_n C 3 rfl rfl dX12_laysOf_279 ?_
      refine go_iadd C dX12_laysOf_280 ?_
      refine go_iload C 5 rfl dX12_laysOf_281 ?_
      refine go_iast C (saX12_oldOnes G) (laX12_oldOnes hN) hw.1 dX12_laysOf_283 (go_nm fun σ_1 eσ_1 => ?_)
      replace hw := hw.2 σ_1 eσ_1
      exact go_vret C hr ⟨rfl, hw⟩ dX12_laysOf_284
    · replace hw := hw.2 hc
      refine go_iload C 5 rfl dX12_laysOf_253 ?_
      refine go_aload_n C 0 rfl rfl dX12_laysOf_255 ?_
      refine go_iload C 6 rfl dX12_laysOf_256 ?_
      refine go_iload_n C 3 rfl rfl dX12_laysOf_258 ?_
      refine go_callV (as := [.int v6, .int v3]) C hR (shX12 G) (ltX12 hN) cwX12_407 (Nat.le_trans (by decide) hd) (by decide) rfl rfl (Nat.le_of_ble_eq_true rfl) dX12_laysOf_259 (spX12_all (Nat.le_refl _) hN hw) (fun v_ τ_ hw => ?_)
      obtain ⟨r_2, rfl, hw⟩ := hw
      obtain ⟨σ_3, rfl⟩ : ∃ z, z = τ_ := ⟨_, rfl⟩
      refine go_iadd C dX12_laysOf_262 ?_
      refine go_topi (fun v5_4 ev5_4 => ?_)
      replace hw := hw v5_4 ev5_4
      refine go_istore (lv2 := [(5, .int v5_4), (0, .ref (G.2.2.1 75)), (1, .int v1), (2, .int v2), (3, .int v3), (4, .int v4), (6, .int v6)]) C (by rw [hnl]; decide) rfl dX12_laysOf_263 ?_
      obtain ⟨v6_5, ev6_5⟩ : ∃ z : Int32, z = v6 + 1 := ⟨_, rfl⟩
      replace hw := hw v6_5 ev6_5
      refine go_iinc (v := v6_5) (lv2 := [(6, .int v6_5), (5, .int v5_4), (0, .ref (G.2.2.1 75)), (1, .int v1), (2, .int v2), (3, .int v3), (4, .int v4)]) C 6 rfl (by rw [ev6_5]; rfl) (by rw [hnl]; decide) rfl dX12_laysOf_265 ?_
      refine go_goto C 239 rfl dX12_laysOf_268 ?_
      refine go_sub [2, 3, 4, 5, 6, 1, 0] rfl ?_
      exact ih _ _ _ _ _ _ _ hw
set_option maxRecDepth 20000 in
set_option maxHeartbeats 4000000 in
theorem gbX12_laysOf_86 {X : XT} {G : GT} {l : Launch} {d : Nat}  {post : St → Prop} (C : Cx X G cX12_laysOf RX12) (hr : Rt X G none (fun v τ => v = none ∧ post τ)) (hR : Rm X l d) (hnl : X.2.2.2.2.2.2.2.2.2.2.1 = 7)  (hd : 2 ≤ d) (hN : 119 ≤ G.2.2.2.2.2)   
    : ∀ (n : Nat) (v1 : Int32) (v2 : Int32) (v3 : Int32) (v4 : Int32) (v5 : Int32) (σ : St), wbX12_laysOf_86   post n v1 v2 v3 v4 v5 σ → Go X G 86 [(0, .ref (G.2.2.1 75)), (1, .int v1), (2, .int v2), (3, .int v3), (4, .int v4), (5, .int v5)] [] σ := by
  intro n
  induction n with
  | zero => intro v1 v2 v3 v4 v5 σ hw; exact hw.elim
  | succ n ih =>
    intro v1 v2 v3 v4 v5 σ hw
    have hw : ((v1 ≤ v5 →
      vp_in 6 9680 ∧ (
      wpX12_greater (-40) ((v1 - (gI σ 76 (6 : Int32).toNatClampNeg)) + 1) σ (fun r_1 σ_2 =>
      ∃ m_239, wbX12_laysOf_239 post m_239 v1 v2 v3 v4 0 r_1 σ_2))) ∧
    (¬ v1 ≤ v5 →
      ∃ m_95, wbX12_laysOf_95 (wbX12_laysOf_86 post n) post m_95 v1 v2 v3 v4 v5 0 σ)) := hw
    refine go_iload C 5 rfl dX12_laysOf_86 ?_
    refine go_iload_n C 1 rfl rfl dX12_laysOf_88 ?_
    refine go_icmp_ge C 218 rfl dX12_laysOf_89 (fun hc => ?_) (fun hc => ?_)
    · replace hw := hw.1 hc
      refine go_iconst (v := 0) C rfl dX12_laysOf_218 ?_
      refine go_istore (lv2 := [(5, .int 0), (0, .ref (G.2.2.1 75)), (1, .int v1), (2, .int v2), (3, .int v3), (4, .int v4)]) C (by rw [hnl]; decide) rfl dX12_laysOf_219 ?_
      refine go_bipush (v := (-40)) C rfl dX12_laysOf_221 ?_
      refine go_iload_n C 2 rfl rfl dX12_laysOf_223 ?_
      refine go_aload_n C 1 rfl rfl dX12_laysOf_224 ?_
      refine go_get (v := .ref (G.2.2.1 76)) C (shX12 G) (ltX12 hN) lkX12_7 rfl dX12_laysOf_225 ?_
      refine go_bipush (v := 6) C rfl dX12_laysOf_228 ?_
      refine go_iald C (saX12_a G) (laX12_a hN) hw.1 dX12_laysOf_230 ?_
      replace hw := hw.2
      refine go_isub C dX12_laysOf_231 ?_
      refine go_iconst (v := 1) C rfl dX12_laysOf_232 ?_
      refine go_iadd C dX12_laysOf_233 ?_
      refine go_callS (as := [.int (-40), .int ((v1 - (gI σ 76 (6 : Int32).toNatClampNeg)) + 1)]) C hR cwX12_410 (Nat.le_trans (by decide) hd) (by decide) rfl rfl (Nat.le_of_ble_eq_true rfl) dX12_laysOf_234 (spX12_greater (Nat.le_refl _) hN hw) (fun v_ τ_ hw => ?_)
      obtain ⟨r_1, rfl, hw⟩ := hw
      obtain ⟨σ_2, rfl⟩ : ∃ z, z = τ_ := ⟨_, rfl⟩
      refine go_istore (lv2 := [(6, .int r_1), (5, .int 0), (0, .ref (G.2.2.1 75)), (1, .int v1), (2, .int v2), (3, .int v3), (4, .int v4)]) C (by rw [hnl]; decide) rfl dX12_laysOf_237 ?_
      refine go_sub [2, 3, 4, 5, 6, 1, 0] rfl ?_
      obtain ⟨n_0, hw⟩ := hw
      exact (gbX12_laysOf_239 C hr hR hnl hd hN) n_0 _ _ _ _ _ _ _ hw
    · replace hw := hw.2 hc
      refine go_iconst (v := 0) C rfl dX12_laysOf_92 ?_
      refine go_istore (lv2 := [(6, .int 0), (0, .ref (G.2.2.1 75)), (1, .int v1), (2, .int v2), (3, .int v3), (4, .int v4), (5, .int v5)]) C (by rw [hnl]; decide) rfl dX12_laysOf_93 ?_
      refine go_sub [1, 2, 3, 4, 5, 6, 0] rfl ?_
      obtain ⟨n_0, hw⟩ := hw
      exact (gbX12_laysOf_95 C hr hR hnl hd hN ih) n_0 _ _ _ _ _ _ _ hw
set_option maxRecDepth 20000 in
set_option maxHeartbeats 4000000 in
theorem gbX12_laysOf_11 {X : XT} {G : GT} {l : Launch} {d : Nat}  {post : St → Prop} (C : Cx X G cX12_laysOf RX12) (hr : Rt X G none (fun v τ => v = none ∧ post τ)) (hR : Rm X l d) (hnl : X.2.2.2.2.2.2.2.2.2.2.1 = 7)  (hd : 2 ≤ d) (hN : 119 ≤ G.2.2.2.2.2)   
    : ∀ (n : Nat) (v1 : Int32) (v2 : Int32) (v3 : Int32) (v4 : Int32) (v5 : Int32) (σ : St), wbX12_laysOf_11   post n v1 v2 v3 v4 v5 σ → Go X G 11 [(0, .ref (G.2.2.1 75)), (1, .int v1), (2, .int v2), (3, .int v3), (4, .int v4), (5, .int v5)] [] σ := by
  intro n
  induction n with
  | zero => intro v1 v2 v3 v4 v5 σ hw; exact hw.elim
  | succ n ih =>
    intro v1 v2 v3 v4 v5 σ hw
    have hw : ((3 ≤ v5 →
      vp_in ((32 * v2) + v3) 64 ∧ (
      ∀ σ_1 : St, σ_1 = sI σ 106 ((32 * v2) + v3).toNatClampNeg 0 →
      vp_in (((32 * v2) + 16) + v3) 64 ∧ (
      ∀ σ_2 : St, σ_2 = sI σ_1 106 (((32 * v2) + 16) + v3).toNatClampNeg 0 →
      vp_in v4 6 ∧ (
      wpX12_greater (-40) ((v1 - (gI σ_2 83 v4.toNatClampNeg)) + 1) σ_2 (fun r_3 σ_4 =>
      ∃ m_86, wbX12_laysOf_86 post m_86 v1 v2 v3 v4 r_3 σ_4))))) ∧
    (¬ 3 ≤ v5 →
      vp_in (((48 * v2) + (16 * v5)) + v3) 96 ∧ (
      ∀ σ_5 : St, σ_5 = sI σ 105 (((48 * v2) + (16 * v5)) + v3).toNatClampNeg 0 →
      ∀ v5_6 : Int32, v5_6 = v5 + 1 →
      wbX12_laysOf_11 post n v1 v2 v3 v4 v5_6 σ_5))) := hw
    refine go_iload C 5 rfl dX12_laysOf_11 ?_
    refine go_iconst (v := 3) C rfl dX12_laysOf_13 ?_
    refine go_icmp_ge C 41 rfl dX12_laysOf_14 (fun hc => ?_) (fun hc => ?_)
    · replace hw := hw.1 hc
      refine go_aload_n C 0 rfl rfl dX12_laysOf_41 ?_
      refine go_get (v := .ref (G.2.2.1 106)) C (shX12 G) (ltX12 hN) lkX12_109 rfl dX12_laysOf_42 ?_
      refine go_bipush (v := 32) C rfl dX12_laysOf_45 ?_
      refine go_iload_n C 2 rfl rfl dX12_laysOf_47 ?_
      refine go_imul C dX12_laysOf_48 ?_
      refine go_iload_n C 3 rfl rfl dX12_laysOf_49 ?_
      refine go_iadd C dX12_laysOf_50 ?_
      refine go_iconst (v := 0) C rfl dX12_laysOf_51 ?_
      refine go_iast C (saX12_standingAhead G) (laX12_standingAhead hN) hw.1 dX12_laysOf_52 (go_nm fun σ_1 eσ_1 => ?_)
      replace hw := hw.2 σ_1 eσ_1
      refine go_aload_n C 0 rfl rfl dX12_laysOf_53 ?_
      refine go_get (v := .ref (G.2.2.1 106)) C (shX12 G) (ltX12 hN) lkX12_109 rfl dX12_laysOf_54 ?_
      refine go_bipush (v := 32) C rfl dX12_laysOf_57 ?_
      refine go_iload_n C 2 rfl rfl dX12_laysOf_59 ?_
      refine go_imul C dX12_laysOf_60 ?_
      refine go_bipush (v := 16) C rfl dX12_laysOf_61 ?_
      refine go_iadd C dX12_laysOf_63 ?_
      refine go_iload_n C 3 rfl rfl dX12_laysOf_64 ?_
      refine go_iadd C dX12_laysOf_65 ?_
      refine go_iconst (v := 0) C rfl dX12_laysOf_66 ?_
      refine go_iast C (saX12_standingAhead G) (laX12_standingAhead hN) hw.1 dX12_laysOf_67 (go_nm fun σ_2 eσ_2 => ?_)
      replace hw := hw.2 σ_2 eσ_2
      refine go_bipush (v := (-40)) C rfl dX12_laysOf_68 ?_
      refine go_iload_n C 1 rfl rfl dX12_laysOf_70 ?_
      refine go_aload_n C 0 rfl rfl dX12_laysOf_71 ?_
      refine go_get (v := .ref (G.2.2.1 83)) C (shX12 G) (ltX12 hN) lkX12_40 rfl dX12_laysOf_72 ?_
      refine go_iload C 4 rfl dX12_laysOf_75 ?_
      refine go_iald C (saX12_nearYears G) (laX12_nearYears hN) hw.1 dX12_laysOf_77 ?_
      replace hw := hw.2
      refine go_isub C dX12_laysOf_78 ?_
      refine go_iconst (v := 1) C rfl dX12_laysOf_79 ?_
      refine go_iadd C dX12_laysOf_80 ?_
      refine go_callS (as := [.int (-40), .int ((v1 - (gI σ_2 83 v4.toNatClampNeg)) + 1)]) C hR cwX12_410 (Nat.le_trans (by decide) hd) (by decide) rfl rfl (Nat.le_of_ble_eq_true rfl) dX12_laysOf_81 (spX12_greater (Nat.le_refl _) hN hw) (fun v_ τ_ hw => ?_)
      obtain ⟨r_3, rfl, hw⟩ := hw
      obtain ⟨σ_4, rfl⟩ : ∃ z, z = τ_ := ⟨_, rfl⟩
      refine go_istore (lv2 := [(5, .int r_3), (0, .ref (G.2.2.1 75)), (1, .int v1), (2, .int v2), (3, .int v3), (4, .int v4)]) C (by rw [hnl]; decide) rfl dX12_laysOf_84 ?_
      refine go_sub [1, 2, 3, 4, 5, 0] rfl ?_
      obtain ⟨n_0, hw⟩ := hw
      exact (gbX12_laysOf_86 C hr hR hnl hd hN) n_0 _ _ _ _ _ _ hw
    · replace hw := hw.2 hc
      refine go_aload_n C 0 rfl rfl dX12_laysOf_17 ?_
      refine go_get (v := .ref (G.2.2.1 105)) C (shX12 G) (ltX12 hN) lkX12_106 rfl dX12_laysOf_18 ?_
      refine go_bipush (v := 48) C rfl dX12_laysOf_21 ?_
      refine go_iload_n C 2 rfl rfl dX12_laysOf_23 ?_
      refine go_imul C dX12_laysOf_24 ?_
      refine go_bipush (v := 16) C rfl dX12_laysOf_25 ?_
      refine go_iload C 5 rfl dX12_laysOf_27 ?_
      refine go_imul C dX12_laysOf_29 ?_
      refine go_iadd C dX12_laysOf_30 ?_
      refine go_iload_n C 3 rfl rfl dX12_laysOf_31 ?_
      refine go_iadd C dX12_laysOf_32 ?_
      refine go_iconst (v := 0) C rfl dX12_laysOf_33 ?_
      refine go_iast C (saX12_nearAhead G) (laX12_nearAhead hN) hw.1 dX12_laysOf_34 (go_nm fun σ_5 eσ_5 => ?_)
      replace hw := hw.2 σ_5 eσ_5
      obtain ⟨v5_6, ev5_6⟩ : ∃ z : Int32, z = v5 + 1 := ⟨_, rfl⟩
      replace hw := hw v5_6 ev5_6
      refine go_iinc (v := v5_6) (lv2 := [(5, .int v5_6), (0, .ref (G.2.2.1 75)), (1, .int v1), (2, .int v2), (3, .int v3), (4, .int v4)]) C 5 rfl (by rw [ev5_6]; rfl) (by rw [hnl]; decide) rfl dX12_laysOf_35 ?_
      refine go_goto C 11 rfl dX12_laysOf_38 ?_
      refine go_sub [1, 2, 3, 4, 5, 0] rfl ?_
      exact ih _ _ _ _ _ _ hw
set_option maxRecDepth 20000 in
set_option maxHeartbeats 4000000 in
theorem spX12_laysOf {l : Launch} {G : GT} {d : Nat}  (hd : 2 ≤ d)  (hN : 119 ≤ G.2.2.2.2.2)  {a1 : Int32} {a2 : Int32} {a3 : Int32} {σ : St} {post : St → Prop} (hw : wpX12_laysOf  a1 a2 a3 σ post) : Sp l G d yX12_laysOf cX12_laysOf 7 none [.ref (G.2.2.1 75), .int a1, .int a2, .int a3] σ (fun v τ => v = none ∧ post τ) := by
  refine Sp.of (by decide) (Nat.le_of_ble_eq_true rfl) fun X C hr hR hnl => ?_
  show Go X G 0 [(0, .ref (G.2.2.1 75)), (1, .int a1), (2, .int a2), (3, .int a3)] [] σ
  have hw : vp_in a2 2 ∧ (
  ∀ v4_1 : Int32, v4_1 = (gI σ 104 a2.toNatClampNeg) →
  ∃ m_11, wbX12_laysOf_11 post m_11 a1 a2 a3 v4_1 0 σ) := hw
  refine go_aload_n C 0 rfl rfl dX12_laysOf_0 ?_
  refine go_get (v := .ref (G.2.2.1 104)) C (shX12 G) (ltX12 hN) lkX12_103 rfl dX12_laysOf_1 ?_
  refine go_iload_n C 2 rfl rfl dX12_laysOf_4 ?_
  refine go_iald C (saX12_tasteOf G) (laX12_tasteOf hN) hw.1 dX12_laysOf_5 ?_
  replace hw := hw.2
  refine go_topi (fun v4_1 ev4_1 => ?_)
  replace hw := hw v4_1 ev4_1
  refine go_istore (lv2 := [(4, .int v4_1), (0, .ref (G.2.2.1 75)), (1, .int a1), (2, .int a2), (3, .int a3)]) C (by rw [hnl]; decide) rfl dX12_laysOf_6 ?_
  refine go_iconst (v := 0) C rfl dX12_laysOf_8 ?_
  refine go_istore (lv2 := [(5, .int 0), (4, .int v4_1), (0, .ref (G.2.2.1 75)), (1, .int a1), (2, .int a2), (3, .int a3)]) C (by rw [hnl]; decide) rfl dX12_laysOf_9 ?_
  refine go_sub [2, 3, 4, 5, 1, 0] rfl ?_
  obtain ⟨n_0, hw⟩ := hw
  exact (gbX12_laysOf_11 C hr hR hnl hd hN) n_0 _ _ _ _ _ _ hw
-- CradleNamesModel.filmOf(III)I
set_option maxRecDepth 20000 in
set_option maxHeartbeats 4000000 in
theorem gbX12_filmOf_6 {X : XT} {G : GT} {l : Launch} {d : Nat}  {post : Int32 → St → Prop} (C : Cx X G cX12_filmOf RX12) (hr : Rt X G (some .int) (fun v τ => ∃ r : Int32, v = some (.int r) ∧ post r τ)) (hR : Rm X l d) (hnl : X.2.2.2.2.2.2.2.2.2.2.1 = 7)  (hd : 1 ≤ d) (hN : 119 ≤ G.2.2.2.2.2)   
    : ∀ (n : Nat) (v1 : Int32) (v2 : Int32) (v3 : Int32) (v4 : Int32) (v5 : Int32) (σ : St), wbX12_filmOf_6   post n v1 v2 v3 v4 v5 σ → Go X G 6 [(0, .ref (G.2.2.1 75)), (1, .int v1), (2, .int v2), (3, .int v3), (4, .int v4), (5, .int v5)] [] σ := by
  intro n
  induction n with
  | zero => intro v1 v2 v3 v4 v5 σ hw; exact hw.elim
  | succ n ih =>
    intro v1 v2 v3 v4 v5 σ hw
    have hw : vp_in 3 9680 ∧ (
    (((gI σ 76 (3 : Int32).toNatClampNeg) ≤ v5 →
      post v4 σ) ∧
    (¬ (gI σ 76 (3 : Int32).toNatClampNeg) ≤ v5 →
      ∀ v6_1 : Int32, v6_1 = (70 + (3 * v5)) →
      ((v5 = v3 →
        ∀ v5_2 : Int32, v5_2 = v5 + 1 →
        wbX12_filmOf_6 post n v1 v2 v3 v4 v5_2 σ) ∧
      (¬ v5 = v3 →
        vp_in v6_1 9680 ∧ (
        ((¬ (gI σ 76 v6_1.toNatClampNeg) = v1 →
          ∀ v5_3 : Int32, v5_3 = v5 + 1 →
          wbX12_filmOf_6 post n v1 v2 v3 v4 v5_3 σ) ∧
        ((gI σ 76 v6_1.toNatClampNeg) = v1 →
          vp_in (v6_1 + 1) 9680 ∧ (
          ((v2 < (gI σ 76 (v6_1 + 1).toNatClampNeg) →
            ∀ v5_4 : Int32, v5_4 = v5 + 1 →
            wbX12_filmOf_6 post n v1 v2 v3 v4 v5_4 σ) ∧
          (¬ v2 < (gI σ 76 (v6_1 + 1).toNatClampNeg) →
            vp_in (v6_1 + 1) 9680 ∧ (
            (((v2 - (gI σ 76 (v6_1 + 1).toNatClampNeg)) ≤ 20 →
              vp_in (v6_1 + 2) 9680 ∧ (
              vp_in (v6_1 + 1) 9680 ∧ (
              ∀ v4_5 : Int32, v4_5 = (v4 + ((gI σ 76 (v6_1 + 2).toNatClampNeg) >>> ((v2 - (gI σ 76 (v6_1 + 1).toNatClampNeg)) &&& 31))) →
              ∀ v5_6 : Int32, v5_6 = v5 + 1 →
              wbX12_filmOf_6 post n v1 v2 v3 v4_5 v5_6 σ))) ∧
            (¬ (v2 - (gI σ 76 (v6_1 + 1).toNatClampNeg)) ≤ 20 →
              ∀ v4_7 : Int32, v4_7 = (v4 + 0) →
              ∀ v5_8 : Int32, v5_8 = v5 + 1 →
              wbX12_filmOf_6 post n v1 v2 v3 v4_7 v5_8 σ)))))))))))))) := hw
    refine go_iload C 5 rfl dX12_filmOf_6 ?_
    refine go_aload_n C 0 rfl rfl dX12_filmOf_8 ?_
    refine go_get (v := .ref (G.2.2.1 76)) C (shX12 G) (ltX12 hN) lkX12_7 rfl dX12_filmOf_9 ?_
    refine go_iconst (v := 3) C rfl dX12_filmOf_12 ?_
    refine go_iald C (saX12_a G) (laX12_a hN) hw.1 dX12_filmOf_13 ?_
    replace hw := hw.2
    refine go_icmp_ge C 108 rfl dX12_filmOf_14 (fun hc => ?_) (fun hc => ?_)
    · replace hw := hw.1 hc
      refine go_iload C 4 rfl dX12_filmOf_108 ?_
      exact go_iret C hr ⟨_, rfl, hw⟩ dX12_filmOf_110
    · replace hw := hw.2 hc
      refine go_bipush (v := 70) C rfl dX12_filmOf_17 ?_
      refine go_iconst (v := 3) C rfl dX12_filmOf_19 ?_
      refine go_iload C 5 rfl dX12_filmOf_20 ?_
      refine go_imul C dX12_filmOf_22 ?_
      refine go_iadd C dX12_filmOf_23 ?_
      refine go_topi (fun v6_1 ev6_1 => ?_)
      replace hw := hw v6_1 ev6_1
      refine go_istore (lv2 := [(6, .int v6_1), (0, .ref (G.2.2.1 75)), (1, .int v1), (2, .int v2), (3, .int v3), (4, .int v4), (5, .int v5)]) C (by rw [hnl]; decide) rfl dX12_filmOf_24 ?_
      refine go_iload C 6 rfl dX12_filmOf_26 ?_
      refine go_iload_n C 4 rfl rfl dX12_filmOf_28 ?_
      refine go_icmp_eq C 102 rfl dX12_filmOf_29 (fun hc => ?_) (fun hc => ?_)
      · replace hw := hw.1 hc
        obtain ⟨v5_2, ev5_2⟩ : ∃ z : Int32, z = v5 + 1 := ⟨_, rfl⟩
        replace hw := hw v5_2 ev5_2
        refine go_iinc (v := v5_2) (lv2 := [(5, .int v5_2), (6, .int v6_1), (0, .ref (G.2.2.1 75)), (1, .int v1), (2, .int v2), (3, .int v3), (4, .int v4)]) C 6 rfl (by rw [ev5_2]; rfl) (by rw [hnl]; decide) rfl dX12_filmOf_102 ?_
        refine go_goto C 6 rfl dX12_filmOf_105 ?_
        refine go_sub [2, 3, 4, 5, 6, 0] rfl ?_
        exact ih _ _ _ _ _ _ hw
      · replace hw := hw.2 hc
        refine go_aload_n C 1 rfl rfl dX12_filmOf_32 ?_
        refine go_get (v := .ref (G.2.2.1 76)) C (shX12 G) (ltX12 hN) lkX12_7 rfl dX12_filmOf_33 ?_
        refine go_iload C 0 rfl dX12_filmOf_36 ?_
        refine go_iald C (saX12_a G) (laX12_a hN) hw.1 dX12_filmOf_38 ?_
        replace hw := hw.2
        refine go_iload_n C 2 rfl rfl dX12_filmOf_39 ?_
        refine go_icmp_ne C 102 rfl dX12_filmOf_40 (fun hc => ?_) (fun hc => ?_)
        · replace hw := hw.1 hc
          obtain ⟨v5_3, ev5_3⟩ : ∃ z : Int32, z = v5 + 1 := ⟨_, rfl⟩
          replace hw := hw v5_3 ev5_3
          refine go_iinc (v := v5_3) (lv2 := [(5, .int v5_3), (6, .int v6_1), (0, .ref (G.2.2.1 75)), (1, .int v1), (2, .int v2), (3, .int v3), (4, .int v4)]) C 6 rfl (by rw [ev5_3]; rfl) (by rw [hnl]; decide) rfl dX12_filmOf_102 ?_
          refine go_goto C 6 rfl dX12_filmOf_105 ?_
          refine go_sub [2, 3, 4, 5, 6, 0] rfl ?_
          exact ih _ _ _ _ _ _ hw
        · replace hw := hw.2 hc
          refine go_aload_n C 1 rfl rfl dX12_filmOf_43 ?_
          refine go_get (v := .ref (G.2.2.1 76)) C (shX12 G) (ltX12 hN) lkX12_7 rfl dX12_filmOf_44 ?_
          refine go_iload C 0 rfl dX12_filmOf_47 ?_
          refine go_iconst (v := 1) C rfl dX12_filmOf_49 ?_
          refine go_iadd C dX12_filmOf_50 ?_
          refine go_iald C (saX12_a G) (laX12_a hN) hw.1 dX12_filmOf_51 ?_
          replace hw := hw.2
          refine go_iload_n C 3 rfl rfl dX12_filmOf_52 ?_
          refine go_icmp_gt C 102 rfl dX12_filmOf_53 (fun hc => ?_) (fun hc => ?_)
          · replace hw := hw.1 hc
            obtain ⟨v5_4, ev5_4⟩ : ∃ z : Int32, z = v5 + 1 := ⟨_, rfl⟩
            replace hw := hw v5_4 ev5_4
            refine go_iinc (v := v5_4) (lv2 := [(5, .int v5_4), (6, .int v6_1), (0, .ref (G.2.2.1 75)), (1, .int v1), (2, .int v2), (3, .int v3), (4, .int v4)]) C 6 rfl (by rw [ev5_4]; rfl) (by rw [hnl]; decide) rfl dX12_filmOf_102 ?_
            refine go_goto C 6 rfl dX12_filmOf_105 ?_
            refine go_sub [2, 3, 4, 5, 6, 0] rfl ?_
            exact ih _ _ _ _ _ _ hw
          · replace hw := hw.2 hc
            refine go_iload C 5 rfl dX12_filmOf_56 ?_
            refine go_iload_n C 3 rfl rfl dX12_filmOf_58 ?_
            refine go_aload_n C 1 rfl rfl dX12_filmOf_59 ?_
            refine go_get (v := .ref (G.2.2.1 76)) C (shX12 G) (ltX12 hN) lkX12_7 rfl dX12_filmOf_60 ?_
            refine go_iload C 0 rfl dX12_filmOf_63 ?_
            refine go_iconst (v := 1) C rfl dX12_filmOf_65 ?_
            refine go_iadd C dX12_filmOf_66 ?_
            refine go_iald C (saX12_a G) (laX12_a hN) hw.1 dX12_filmOf_67 ?_
            replace hw := hw.2
            refine go_isub C dX12_filmOf_68 ?_
            refine go_bipush (v := 20) C rfl dX12_filmOf_69 ?_
            refine go_icmp_le C 78 rfl dX12_filmOf_71 (fun hc => ?_) (fun hc => ?_)
            · replace hw := hw.1 hc
              refine go_aload_n C 1 rfl rfl dX12_filmOf_78 ?_
              refine go_get (v := .ref (G.2.2.1 76)) C (shX12 G) (ltX12 hN) lkX12_7 rfl dX12_filmOf_79 ?_
              refine go_iload C 0 rfl dX12_filmOf_82 ?_
              refine go_iconst (v := 2) C rfl dX12_filmOf_84 ?_
              refine go_iadd C dX12_filmOf_85 ?_
              refine go_iald C (saX12_a G) (laX12_a hN) hw.1 dX12_filmOf_86 ?_
              replace hw := hw.2
              refine go_iload_n C 3 rfl rfl dX12_filmOf_87 ?_
              refine go_aload_n C 1 rfl rfl dX12_filmOf_88 ?_
              refine go_get (v := .ref (G.2.2.1 76)) C (shX12 G) (ltX12 hN) lkX12_7 rfl dX12_filmOf_89 ?_
              refine go_iload C 0 rfl dX12_filmOf_92 ?_
              refine go_iconst (v := 1) C rfl dX12_filmOf_94 ?_
              refine go_iadd C dX12_filmOf_95 ?_
              refine go_iald C (saX12_a G) (laX12_a hN) hw.1 dX12_filmOf_96 ?_
              replace hw := hw.2
              refine go_isub C dX12_filmOf_97 ?_
              refine go_ishr C dX12_filmOf_98 ?_
              refine go_iadd C dX12_filmOf_99 ?_
              refine go_topi (fun v4_5 ev4_5 => ?_)
              replace hw := hw v4_5 ev4_5
              refine go_istore (lv2 := [(4, .int v4_5), (6, .int v6_1), (0, .ref (G.2.2.1 75)), (1, .int v1), (2, .int v2), (3, .int v3), (5, .int v5)]) C (by rw [hnl]; decide) rfl dX12_filmOf_100 ?_
              obtain ⟨v5_6, ev5_6⟩ : ∃ z : Int32, z = v5 + 1 := ⟨_, rfl⟩
              replace hw := hw v5_6 ev5_6
              refine go_iinc (v := v5_6) (lv2 := [(5, .int v5_6), (4, .int v4_5), (6, .int v6_1), (0, .ref (G.2.2.1 75)), (1, .int v1), (2, .int v2), (3, .int v3)]) C 6 rfl (by rw [ev5_6]; rfl) (by rw [hnl]; decide) rfl dX12_filmOf_102 ?_
              refine go_goto C 6 rfl dX12_filmOf_105 ?_
              refine go_sub [3, 4, 5, 6, 1, 0] rfl ?_
              exact ih _ _ _ _ _ _ hw
            · replace hw := hw.2 hc
              refine go_iconst (v := 0) C rfl dX12_filmOf_74 ?_
              refine go_goto C 99 rfl dX12_filmOf_75 ?_
              refine go_iadd C dX12_filmOf_99 ?_
              refine go_topi (fun v4_7 ev4_7 => ?_)
              replace hw := hw v4_7 ev4_7
              refine go_istore (lv2 := [(4, .int v4_7), (6, .int v6_1), (0, .ref (G.2.2.1 75)), (1, .int v1), (2, .int v2), (3, .int v3), (5, .int v5)]) C (by rw [hnl]; decide) rfl dX12_filmOf_100 ?_
              obtain ⟨v5_8, ev5_8⟩ : ∃ z : Int32, z = v5 + 1 := ⟨_, rfl⟩
              replace hw := hw v5_8 ev5_8
              refine go_iinc (v := v5_8) (lv2 := [(5, .int v5_8), (4, .int v4_7), (6, .int v6_1), (0, .ref (G.2.2.1 75)), (1, .int v1), (2, .int v2), (3, .int v3)]) C 6 rfl (by rw [ev5_8]; rfl) (by rw [hnl]; decide) rfl dX12_filmOf_102 ?_
              refine go_goto C 6 rfl dX12_filmOf_105 ?_
              refine go_sub [3, 4, 5, 6, 1, 0] rfl ?_
              exact ih _ _ _ _ _ _ hw
set_option maxRecDepth 20000 in
set_option maxHeartbeats 4000000 in
theorem spX12_filmOf {l : Launch} {G : GT} {d : Nat}  (hd : 1 ≤ d)  (hN : 119 ≤ G.2.2.2.2.2)  {a1 : Int32} {a2 : Int32} {a3 : Int32} {σ : St} {post : Int32 → St → Prop} (hw : wpX12_filmOf  a1 a2 a3 σ post) : Sp l G d yX12_filmOf cX12_filmOf 7 (some .int) [.ref (G.2.2.1 75), .int a1, .int a2, .int a3] σ (fun v τ => ∃ r : Int32, v = some (.int r) ∧ post r τ) := by
  refine Sp.of (by decide) (Nat.le_of_ble_eq_true rfl) fun X C hr hR hnl => ?_
  show Go X G 0 [(0, .ref (G.2.2.1 75)), (1, .int a1), (2, .int a2), (3, .int a3)] [] σ
  have hw : ∃ m_6, wbX12_filmOf_6 post m_6 a1 a2 a3 0 0 σ := hw
  refine go_iconst (v := 0) C rfl dX12_filmOf_0 ?_
  refine go_istore (lv2 := [(4, .int 0), (0, .ref (G.2.2.1 75)), (1, .int a1), (2, .int a2), (3, .int a3)]) C (by rw [hnl]; decide) rfl dX12_filmOf_1 ?_
  refine go_iconst (v := 0) C rfl dX12_filmOf_3 ?_
  refine go_istore (lv2 := [(5, .int 0), (4, .int 0), (0, .ref (G.2.2.1 75)), (1, .int a1), (2, .int a2), (3, .int a3)]) C (by rw [hnl]; decide) rfl dX12_filmOf_4 ?_
  refine go_sub [2, 3, 4, 5, 1, 0] rfl ?_
  obtain ⟨n_0, hw⟩ := hw
  exact (gbX12_filmOf_6 C hr hR hnl hd hN) n_0 _ _ _ _ _ _ hw
-- CradleNamesModel.lays(IIZ)V
set_option maxRecDepth 20000 in
set_option maxHeartbeats 4000000 in
theorem gbX12_lays_303 {X : XT} {G : GT} {l : Launch} {d : Nat}  {post : St → Prop} (C : Cx X G cX12_lays RX12) (hr : Rt X G none (fun v τ => v = none ∧ post τ)) (hR : Rm X l d) (hnl : X.2.2.2.2.2.2.2.2.2.2.1 = 9)  (hd : 4 ≤ d) (hN : 119 ≤ G.2.2.2.2.2)  {K3 : Int32 → Int32 → Int32 → Int32 → St → Prop} (hK3 : ∀ (v1 : Int32) (v2 : Int32) (v3 : Int32) (v4 : Int32) (σ : St), K3 v1 v2 v3 v4 σ → Go X G 3 [(0, .ref (G.2.2.1 75)), (1, .int v1), (2, .int v2), (3, .int v3), (4, .int v4)] [] σ)
    : ∀ (n : Nat) (v1 : Int32) (v2 : Int32) (v3 : Int32) (v4 : Int32) (v8 : Int32) (σ : St), wbX12_lays_303  K3 post n v1 v2 v3 v4 v8 σ → Go X G 303 [(0, .ref (G.2.2.1 75)), (1, .int v1), (2, .int v2), (3, .int v3), (4, .int v4), (8, .int v8)] [] σ := by
  intro n
  induction n with
  | zero => intro v1 v2 v3 v4 v8 σ hw; exact hw.elim
  | succ n ih =>
    intro v1 v2 v3 v4 v8 σ hw
    have hw : ((2 ≤ v8 →
      ∀ v4_1 : Int32, v4_1 = v4 + 1 →
      K3 v1 v2 v3 v4_1 σ) ∧
    (¬ 2 ≤ v8 →
      vp_in v8 2 ∧ (
      (((gI σ 104 v8.toNatClampNeg) = (-1) →
        ∀ v8_2 : Int32, v8_2 = v8 + 1 →
        wbX12_lays_303 K3 post n v1 v2 v3 v4 v8_2 σ) ∧
      (¬ (gI σ 104 v8.toNatClampNeg) = (-1) →
        wpX12_laysOf v1 v8 v4 σ (fun σ_4 =>
        ∀ v8_5 : Int32, v8_5 = v8 + 1 →
        wbX12_lays_303 K3 post n v1 v2 v3 v4 v8_5 σ_4)))))) := hw
    refine go_iload C 5 rfl dX12_lays_303 ?_
    refine go_iconst (v := 2) C rfl dX12_lays_305 ?_
    refine go_icmp_ge C 335 rfl dX12_lays_306 (fun hc => ?_) (fun hc => ?_)
    · replace hw := hw.1 hc
      obtain ⟨v4_1, ev4_1⟩ : ∃ z : Int32, z = v4 + 1 := ⟨_, rfl⟩
      replace hw := hw v4_1 ev4_1
      refine go_iinc (v := v4_1) (lv2 := [(4, .int v4_1), (0, .ref (G.2.2.1 75)), (1, .int v1), (2, .int v2), (3, .int v3), (8, .int v8)]) C 4 rfl (by rw [ev4_1]; rfl) (by rw [hnl]; decide) rfl dX12_lays_335 ?_
      refine go_goto C 3 rfl dX12_lays_338 ?_
      refine go_sub [1, 2, 3, 4, 0] rfl ?_
      exact hK3 _ _ _ _ _ hw
    · replace hw := hw.2 hc
      refine go_aload_n C 0 rfl rfl dX12_lays_309 ?_
      refine go_get (v := .ref (G.2.2.1 104)) C (shX12 G) (ltX12 hN) lkX12_103 rfl dX12_lays_310 ?_
      refine go_iload C 5 rfl dX12_lays_313 ?_
      refine go_iald C (saX12_tasteOf G) (laX12_tasteOf hN) hw.1 dX12_lays_315 ?_
      replace hw := hw.2
      refine go_iconst (v := (-1)) C rfl dX12_lays_316 ?_
      refine go_icmp_eq C 329 rfl dX12_lays_317 (fun hc => ?_) (fun hc => ?_)
      · replace hw := hw.1 hc
        obtain ⟨v8_2, ev8_2⟩ : ∃ z : Int32, z = v8 + 1 := ⟨_, rfl⟩
        replace hw := hw v8_2 ev8_2
        refine go_iinc (v := v8_2) (lv2 := [(8, .int v8_2), (0, .ref (G.2.2.1 75)), (1, .int v1), (2, .int v2), (3, .int v3), (4, .int v4)]) C 5 rfl (by rw [ev8_2]; rfl) (by rw [hnl]; decide) rfl dX12_lays_329 ?_
        refine go_goto C 303 rfl dX12_lays_332 ?_
        refine go_sub [1, 2, 3, 4, 5, 0] rfl ?_
        exact ih _ _ _ _ _ _ hw
      · replace hw := hw.2 hc
        refine go_aload_n C 0 rfl rfl dX12_lays_320 ?_
        refine go_iload_n C 1 rfl rfl dX12_lays_321 ?_
        refine go_iload C 5 rfl dX12_lays_322 ?_
        refine go_iload C 4 rfl dX12_lays_324 ?_
        refine go_callV (as := [.int v1, .int v8, .int v4]) C hR (shX12 G) (ltX12 hN) cwX12_434 (Nat.le_trans (by decide) hd) (by decide) rfl rfl (Nat.le_of_ble_eq_true rfl) dX12_lays_326 (spX12_laysOf (Nat.le_refl _) hN hw) (fun v_ τ_ hw => ?_)
        obtain ⟨rfl, hw⟩ := hw
        obtain ⟨σ_4, rfl⟩ : ∃ z, z = τ_ := ⟨_, rfl⟩
        obtain ⟨v8_5, ev8_5⟩ : ∃ z : Int32, z = v8 + 1 := ⟨_, rfl⟩
        replace hw := hw v8_5 ev8_5
        refine go_iinc (v := v8_5) (lv2 := [(8, .int v8_5), (0, .ref (G.2.2.1 75)), (1, .int v1), (2, .int v2), (3, .int v3), (4, .int v4)]) C 5 rfl (by rw [ev8_5]; rfl) (by rw [hnl]; decide) rfl dX12_lays_329 ?_
        refine go_goto C 303 rfl dX12_lays_332 ?_
        refine go_sub [1, 2, 3, 4, 5, 0] rfl ?_
        exact ih _ _ _ _ _ _ hw
set_option maxRecDepth 20000 in
set_option maxHeartbeats 4000000 in
theorem gbX12_lays_285 {X : XT} {G : GT} {l : Launch} {d : Nat}  {post : St → Prop} (C : Cx X G cX12_lays RX12) (hr : Rt X G none (fun v τ => v = none ∧ post τ)) (hR : Rm X l d) (hnl : X.2.2.2.2.2.2.2.2.2.2.1 = 9)  (hd : 4 ≤ d) (hN : 119 ≤ G.2.2.2.2.2)  {K3 : Int32 → Int32 → Int32 → Int32 → St → Prop} (hK3 : ∀ (v1 : Int32) (v2 : Int32) (v3 : Int32) (v4 : Int32) (σ : St), K3 v1 v2 v3 v4 σ → Go X G 3 [(0, .ref (G.2.2.1 75)), (1, .int v1), (2, .int v2), (3, .int v3), (4, .int v4)] [] σ)
    : ∀ (v1 : Int32) (v2 : Int32) (v3 : Int32) (v4 : Int32) (σ : St), wbX12_lays_285  K3 post v1 v2 v3 v4 σ → Go X G 285 [(0, .ref (G.2.2.1 75)), (1, .int v1), (2, .int v2), (3, .int v3), (4, .int v4)] [] σ := by
  intro v1 v2 v3 v4 σ hw
  have hw : wpX12_filmOf v4 v1 v2 σ (fun r_1 σ_2 =>
  vp_in v4 16 ∧ (
  ∀ σ_3 : St, σ_3 = sI σ_2 112 v4.toNatClampNeg r_1 →
  ∃ m_303, wbX12_lays_303 K3 post m_303 v1 v2 v3 v4 0 σ_3)) := hw
  refine go_aload_n C 0 rfl rfl dX12_lays_285 ?_
  refine go_get (v := .ref (G.2.2.1 112)) C (shX12 G) (ltX12 hN) lkX12_127 rfl dX12_lays_286 ?_
  refine go_iload C 4 rfl dX12_lays_289 ?_
  refine go_aload_n C 0 rfl rfl dX12_lays_291 ?_
  refine go_iload C 4 rfl dX12_lays_292 ?_
  refine go_iload_n C 1 rfl rfl dX12_lays_294 ?_
  refine go_iload_n C 2 rfl rfl dX12_lays_295 ?_
  refine go_callV (as := [.int v4, .int v1, .int v2]) C hR (shX12 G) (ltX12 hN) cwX12_431 (Nat.le_trans (by decide) hd) (by decide) rfl rfl (Nat.le_of_ble_eq_true rfl) dX12_lays_296 (spX12_filmOf (Nat.le_refl _) hN hw) (fun v_ τ_ hw => ?_)
  obtain ⟨r_1, rfl, hw⟩ := hw
  obtain ⟨σ_2, rfl⟩ : ∃ z, z = τ_ := ⟨_, rfl⟩
  refine go_iast C (saX12_filmNow G) (laX12_filmNow hN) hw.1 dX12_lays_299 (go_nm fun σ_3 eσ_3 => ?_)
  replace hw := hw.2 σ_3 eσ_3
  refine go_iconst (v := 0) C rfl dX12_lays_300 ?_
  refine go_istore (lv2 := [(8, .int 0), (0, .ref (G.2.2.1 75)), (1, .int v1), (2, .int v2), (3, .int v3), (4, .int v4)]) C (by rw [hnl]; decide) rfl dX12_lays_301 ?_
  refine go_sub [1, 2, 3, 4, 5, 0] rfl ?_
  obtain ⟨n_0, hw⟩ := hw
  exact (gbX12_lays_303 C hr hR hnl hd hN hK3) n_0 _ _ _ _ _ _ hw
set_option maxRecDepth 20000 in
set_option maxHeartbeats 4000000 in
theorem gbX12_lays_210 {X : XT} {G : GT} {l : Launch} {d : Nat}  {post : St → Prop} (C : Cx X G cX12_lays RX12) (hr : Rt X G none (fun v τ => v = none ∧ post τ)) (hR : Rm X l d) (hnl : X.2.2.2.2.2.2.2.2.2.2.1 = 9)  (hd : 4 ≤ d) (hN : 119 ≤ G.2.2.2.2.2)  {K3 : Int32 → Int32 → Int32 → Int32 → St → Prop} (hK3 : ∀ (v1 : Int32) (v2 : Int32) (v3 : Int32) (v4 : Int32) (σ : St), K3 v1 v2 v3 v4 σ → Go X G 3 [(0, .ref (G.2.2.1 75)), (1, .int v1), (2, .int v2), (3, .int v3), (4, .int v4)] [] σ)
    : ∀ (n : Nat) (v1 : Int32) (v2 : Int32) (v3 : Int32) (v4 : Int32) (v8 : Int32) (σ : St), wbX12_lays_210  K3 post n v1 v2 v3 v4 v8 σ → Go X G 210 [(0, .ref (G.2.2.1 75)), (1, .int v1), (2, .int v2), (3, .int v3), (4, .int v4), (8, .int v8)] [] σ := by
  intro n
  induction n with
  | zero => intro v1 v2 v3 v4 v8 σ hw; exact hw.elim
  | succ n ih =>
    intro v1 v2 v3 v4 v8 σ hw
    have hw : vp_in 1 9680 ∧ (
    (((gI σ 76 (1 : Int32).toNatClampNeg) ≤ v8 →
      wbX12_lays_285 K3 post v1 v2 v3 v4 σ) ∧
    (¬ (gI σ 76 (1 : Int32).toNatClampNeg) ≤ v8 →
      ((¬ v3 = 0 →
        wbX12_lays_285 K3 post v1 v2 v3 v4 σ) ∧
      (v3 = 0 →
        vp_in v4 16 ∧ (
        ((v8 = v4 →
          vp_in v4 16 ∧ (
          ∀ σ_1 : St, σ_1 = sI σ 111 v4.toNatClampNeg ((gI σ 111 v4.toNatClampNeg) + 0) →
          ∀ v8_2 : Int32, v8_2 = v8 + 1 →
          wbX12_lays_210 K3 post n v1 v2 v3 v4 v8_2 σ_1)) ∧
        (¬ v8 = v4 →
          vp_in v8 16 ∧ (
          wpX12_ending (gL σ 78 v8.toNatClampNeg) σ (fun r_3 σ_4 =>
          vp_in v4 16 ∧ (
          wpX12_ending (gL σ_4 78 v4.toNatClampNeg) σ_4 (fun r_5 σ_6 =>
          ((¬ r_3 = r_5 →
            vp_in v4 16 ∧ (
            ∀ σ_7 : St, σ_7 = sI σ_6 111 v4.toNatClampNeg ((gI σ 111 v4.toNatClampNeg) + 0) →
            ∀ v8_8 : Int32, v8_8 = v8 + 1 →
            wbX12_lays_210 K3 post n v1 v2 v3 v4 v8_8 σ_7)) ∧
          (r_3 = r_5 →
            wpX12_all (v1 - 1) v8 σ_6 (fun r_9 σ_10 =>
            vp_in v4 16 ∧ (
            ∀ σ_11 : St, σ_11 = sI σ_10 111 v4.toNatClampNeg ((gI σ 111 v4.toNatClampNeg) + r_9) →
            ∀ v8_12 : Int32, v8_12 = v8 + 1 →
            wbX12_lays_210 K3 post n v1 v2 v3 v4 v8_12 σ_11)))))))))))))))) := hw
    refine go_iload C 5 rfl dX12_lays_210 ?_
    refine go_aload_n C 0 rfl rfl dX12_lays_212 ?_
    refine go_get (v := .ref (G.2.2.1 76)) C (shX12 G) (ltX12 hN) lkX12_7 rfl dX12_lays_213 ?_
    refine go_iconst (v := 1) C rfl dX12_lays_216 ?_
    refine go_iald C (saX12_a G) (laX12_a hN) hw.1 dX12_lays_217 ?_
    replace hw := hw.2
    refine go_icmp_ge C 285 rfl dX12_lays_218 (fun hc => ?_) (fun hc => ?_)
    · replace hw := hw.1 hc
      refine go_sub [0, 1, 2, 3, 4] rfl ?_
      exact (gbX12_lays_285 C hr hR hnl hd hN hK3) _ _ _ _ _ hw
    · replace hw := hw.2 hc
      refine go_iload_n C 3 rfl rfl dX12_lays_221 ?_
      refine go_if_ne C 285 rfl dX12_lays_222 (fun hc => ?_) (fun hc => ?_)
      · replace hw := hw.1 hc
        refine go_sub [0, 1, 2, 3, 4] rfl ?_
        exact (gbX12_lays_285 C hr hR hnl hd hN hK3) _ _ _ _ _ hw
      · replace hw := hw.2 hc
        refine go_aload_n C 0 rfl rfl dX12_lays_225 ?_
        refine go_get (v := .ref (G.2.2.1 111)) C (shX12 G) (ltX12 hN) lkX12_124 rfl dX12_lays_226 ?_
        refine go_iload C 4 rfl dX12_lays_229 ?_
        refine go_dup2 C rfl rfl dX12_lays_231 ?_
        refine go_iald C (saX12_soundsNow G) (laX12_soundsNow hN) hw.1 dX12_lays_232 ?_
        replace hw := hw.2
        refine go_iload C 5 rfl dX12_lays_233 ?_
        refine go_iload C 4 rfl dX12_lays_235 ?_
        refine go_icmp_eq C 276 rfl dX12_lays_237 (fun hc => ?_) (fun hc => ?_)
        · replace hw := hw.1 hc
          refine go_iconst (v := 0) C rfl dX12_lays_276 ?_
          refine go_iadd C dX12_lays_277 ?_
          refine go_iast C (saX12_soundsNow G) (laX12_soundsNow hN) hw.1 dX12_lays_278 (go_nm fun σ_1 eσ_1 => ?_)
          replace hw := hw.2 σ_1 eσ_1
          obtain ⟨v8_2, ev8_2⟩ : ∃ z : Int32, z = v8 + 1 := ⟨_, rfl⟩
          replace hw := hw v8_2 ev8_2
          refine go_iinc (v := v8_2) (lv2 := [(8, .int v8_2), (0, .ref (G.2.2.1 75)), (1, .int v1), (2, .int v2), (3, .int v3), (4, .int v4)]) C 5 rfl (by rw [ev8_2]; rfl) (by rw [hnl]; decide) rfl dX12_lays_279 ?_
          refine go_goto C 210 rfl dX12_lays_282 ?_
          refine go_sub [1, 2, 3, 4, 5, 0] rfl ?_
          exact ih _ _ _ _ _ _ hw
        · replace hw := hw.2 hc
          refine go_aload_n C 0 rfl rfl dX12_lays_240 ?_
          refine go_get (v := .ref (G.2.2.1 78)) C (shX12 G) (ltX12 hN) lkX12_16 rfl dX12_lays_241 ?_
          refine go_iload C 5 rfl dX12_lays_244 ?_
          refine go_lald C (saX12_letters G) (laX12_letters hN) hw.1 dX12_lays_246 ?_
          replace hw := hw.2
          refine go_callS (as := [.long (gL σ 78 v8.toNatClampNeg)]) C hR cwX12_196 (Nat.le_trans (by decide) hd) (by decide) rfl rfl (Nat.le_of_ble_eq_true rfl) dX12_lays_247 (spX12_ending (Nat.le_refl _) hN hw) (fun v_ τ_ hw => ?_)
          obtain ⟨r_3, rfl, hw⟩ := hw
          obtain ⟨σ_4, rfl⟩ : ∃ z, z = τ_ := ⟨_, rfl⟩
          refine go_aload_n C 0 rfl rfl dX12_lays_250 ?_
          refine go_get (v := .ref (G.2.2.1 78)) C (shX12 G) (ltX12 hN) lkX12_16 rfl dX12_lays_251 ?_
          refine go_iload C 4 rfl dX12_lays_254 ?_
          refine go_lald C (saX12_letters G) (laX12_letters hN) hw.1 dX12_lays_256 ?_
          replace hw := hw.2
          refine go_callS (as := [.long (gL σ_4 78 v4.toNatClampNeg)]) C hR cwX12_196 (Nat.le_trans (by decide) hd) (by decide) rfl rfl (Nat.le_of_ble_eq_true rfl) dX12_lays_257 (spX12_ending (Nat.le_refl _) hN hw) (fun v_ τ_ hw => ?_)
          obtain ⟨r_5, rfl, hw⟩ := hw
          obtain ⟨σ_6, rfl⟩ : ∃ z, z = τ_ := ⟨_, rfl⟩
          refine go_lc_ne C 276 rfl dX12_lays_260 dX12_lays_261 (fun hc => ?_) (fun hc => ?_)
          · replace hw := hw.1 hc
            refine go_iconst (v := 0) C rfl dX12_lays_276 ?_
            refine go_iadd C dX12_lays_277 ?_
            refine go_iast C (saX12_soundsNow G) (laX12_soundsNow hN) hw.1 dX12_lays_278 (go_nm fun σ_7 eσ_7 => ?_)
            replace hw := hw.2 σ_7 eσ_7
            obtain ⟨v8_8, ev8_8⟩ : ∃ z : Int32, z = v8 + 1 := ⟨_, rfl⟩
            replace hw := hw v8_8 ev8_8
            refine go_iinc (v := v8_8) (lv2 := [(8, .int v8_8), (0, .ref (G.2.2.1 75)), (1, .int v1), (2, .int v2), (3, .int v3), (4, .int v4)]) C 5 rfl (by rw [ev8_8]; rfl) (by rw [hnl]; decide) rfl dX12_lays_279 ?_
            refine go_goto C 210 rfl dX12_lays_282 ?_
            refine go_sub [1, 2, 3, 4, 5, 0] rfl ?_
            exact ih _ _ _ _ _ _ hw
          · replace hw := hw.2 hc
            refine go_aload_n C 0 rfl rfl dX12_lays_264 ?_
            refine go_iload_n C 1 rfl rfl dX12_lays_265 ?_
            refine go_iconst (v := 1) C rfl dX12_lays_266 ?_
            refine go_isub C dX12_lays_267 ?_
            refine go_iload C 5 rfl dX12_lays_268 ?_
            refine go_callV (as := [.int (v1 - 1), .int v8]) C hR (shX12 G) (ltX12 hN) cwX12_407 (Nat.le_trans (by decide) hd) (by decide) rfl rfl (Nat.le_of_ble_eq_true rfl) dX12_lays_270 (spX12_all (Nat.le_refl _) hN hw) (fun v_ τ_ hw => ?_)
            obtain ⟨r_9, rfl, hw⟩ := hw
            obtain ⟨σ_10, rfl⟩ : ∃ z, z = τ_ := ⟨_, rfl⟩
            refine go_goto C 277 rfl dX12_lays_273 ?_
            refine go_iadd C dX12_lays_277 ?_
            refine go_iast C (saX12_soundsNow G) (laX12_soundsNow hN) hw.1 dX12_lays_278 (go_nm fun σ_11 eσ_11 => ?_)
            replace hw := hw.2 σ_11 eσ_11
            obtain ⟨v8_12, ev8_12⟩ : ∃ z : Int32, z = v8 + 1 := ⟨_, rfl⟩
            replace hw := hw v8_12 ev8_12
            refine go_iinc (v := v8_12) (lv2 := [(8, .int v8_12), (0, .ref (G.2.2.1 75)), (1, .int v1), (2, .int v2), (3, .int v3), (4, .int v4)]) C 5 rfl (by rw [ev8_12]; rfl) (by rw [hnl]; decide) rfl dX12_lays_279 ?_
            refine go_goto C 210 rfl dX12_lays_282 ?_
            refine go_sub [1, 2, 3, 4, 5, 0] rfl ?_
            exact ih _ _ _ _ _ _ hw
set_option maxRecDepth 20000 in
set_option maxHeartbeats 4000000 in
theorem gbX12_lays_172 {X : XT} {G : GT} {l : Launch} {d : Nat}  {post : St → Prop} (C : Cx X G cX12_lays RX12) (hr : Rt X G none (fun v τ => v = none ∧ post τ)) (hR : Rm X l d) (hnl : X.2.2.2.2.2.2.2.2.2.2.1 = 9)  (hd : 4 ≤ d) (hN : 119 ≤ G.2.2.2.2.2)  {K3 : Int32 → Int32 → Int32 → Int32 → St → Prop} (hK3 : ∀ (v1 : Int32) (v2 : Int32) (v3 : Int32) (v4 : Int32) (σ : St), K3 v1 v2 v3 v4 σ → Go X G 3 [(0, .ref (G.2.2.1 75)), (1, .int v1), (2, .int v2), (3, .int v3), (4, .int v4)] [] σ)
    : ∀ (v1 : Int32) (v2 : Int32) (v3 : Int32) (v4 : Int32) (s0 : Int32) (s1 : Int32) (σ : St), wbX12_lays_172  K3 post v1 v2 v3 v4 s0 s1 σ → Go X G 172 [(0, .ref (G.2.2.1 75)), (1, .int v1), (2, .int v2), (3, .int v3), (4, .int v4)] [.int s0, .int s1, .ref (G.2.2.1 109)] σ := by
  intro v1 v2 v3 v4 s0 s1 σ hw
  have hw : vp_in s1 16 ∧ (
  ∀ σ_1 : St, σ_1 = sI σ 109 s1.toNatClampNeg s0 →
  wpX12_all (v1 - 1) v4 σ_1 (fun r_2 σ_3 =>
  wpX12_all (v1 - 2) v4 σ_3 (fun r_4 σ_5 =>
  vp_in v4 16 ∧ (
  ∀ σ_6 : St, σ_6 = sI σ_5 110 v4.toNatClampNeg (r_2 - r_4) →
  vp_in v4 16 ∧ (
  ∀ σ_7 : St, σ_7 = sI σ_6 111 v4.toNatClampNeg 0 →
  ∃ m_210, wbX12_lays_210 K3 post m_210 v1 v2 v3 v4 0 σ_7))))) := hw
  refine go_iast C (saX12_goneFor G) (laX12_goneFor hN) hw.1 dX12_lays_172 (go_nm fun σ_1 eσ_1 => ?_)
  replace hw := hw.2 σ_1 eσ_1
  refine go_aload_n C 0 rfl rfl dX12_lays_173 ?_
  refine go_get (v := .ref (G.2.2.1 110)) C (shX12 G) (ltX12 hN) lkX12_121 rfl dX12_lays_174 ?_
  refine go_iload C 4 rfl dX12_lays_177 ?_
  refine go_aload_n C 0 rfl rfl dX12_lays_179 ?_
  refine go_iload_n C 1 rfl rfl dX12_lays_180 ?_
  refine go_iconst (v := 1) C rfl dX12_lays_181 ?_
  refine go_isub C dX12_lays_182 ?_
  refine go_iload C 4 rfl dX12_lays_183 ?_
  refine go_callV (as := [.int (v1 - 1), .int v4]) C hR (shX12 G) (ltX12 hN) cwX12_407 (Nat.le_trans (by decide) hd) (by decide) rfl rfl (Nat.le_of_ble_eq_true rfl) dX12_lays_185 (spX12_all (Nat.le_refl _) hN hw) (fun v_ τ_ hw => ?_)
  obtain ⟨r_2, rfl, hw⟩ := hw
  obtain ⟨σ_3, rfl⟩ : ∃ z, z = τ_ := ⟨_, rfl⟩
  refine go_aload_n C 0 rfl rfl dX12_lays_188 ?_
  refine go_iload_n C 1 rfl rfl dX12_lays_189 ?_
  refine go_iconst (v := 2) C rfl dX12_lays_190 ?_
  refine go_isub C dX12_lays_191 ?_
  refine go_iload C 4 rfl dX12_lays_192 ?_
  refine go_callV (as := [.int (v1 - 2), .int v4]) C hR (shX12 G) (ltX12 hN) cwX12_407 (Nat.le_trans (by decide) hd) (by decide) rfl rfl (Nat.le_of_ble_eq_true rfl) dX12_lays_194 (spX12_all (Nat.le_refl _) hN hw) (fun v_ τ_ hw => ?_)
  obtain ⟨r_4, rfl, hw⟩ := hw
  obtain ⟨σ_5, rfl⟩ : ∃ z, z = τ_ := ⟨_, rfl⟩
  refine go_isub C dX12_lays_197 ?_
  refine go_iast C (saX12_rises G) (laX12_rises hN) hw.1 dX12_lays_198 (go_nm fun σ_6 eσ_6 => ?_)
  replace hw := hw.2 σ_6 eσ_6
  refine go_aload_n C 0 rfl rfl dX12_lays_199 ?_
  refine go_get (v := .ref (G.2.2.1 111)) C (shX12 G) (ltX12 hN) lkX12_124 rfl dX12_lays_200 ?_
  refine go_iload C 4 rfl dX12_lays_203 ?_
  refine go_iconst (v := 0) C rfl dX12_lays_205 ?_
  refine go_iast C (saX12_soundsNow G) (laX12_soundsNow hN) hw.1 dX12_lays_206 (go_nm fun σ_7 eσ_7 => ?_)
  replace hw := hw.2 σ_7 eσ_7
  refine go_iconst (v := 0) C rfl dX12_lays_207 ?_
  refine go_istore (lv2 := [(8, .int 0), (0, .ref (G.2.2.1 75)), (1, .int v1), (2, .int v2), (3, .int v3), (4, .int v4)]) C (by rw [hnl]; decide) rfl dX12_lays_208 ?_
  refine go_sub [1, 2, 3, 4, 5, 0] rfl ?_
  obtain ⟨n_0, hw⟩ := hw
  exact (gbX12_lays_210 C hr hR hnl hd hN hK3) n_0 _ _ _ _ _ _ hw
set_option maxRecDepth 20000 in
set_option maxHeartbeats 4000000 in
theorem gbX12_lays_145 {X : XT} {G : GT} {l : Launch} {d : Nat}  {post : St → Prop} (C : Cx X G cX12_lays RX12) (hr : Rt X G none (fun v τ => v = none ∧ post τ)) (hR : Rm X l d) (hnl : X.2.2.2.2.2.2.2.2.2.2.1 = 9)  (hd : 4 ≤ d) (hN : 119 ≤ G.2.2.2.2.2)  {K3 : Int32 → Int32 → Int32 → Int32 → St → Prop} (hK3 : ∀ (v1 : Int32) (v2 : Int32) (v3 : Int32) (v4 : Int32) (σ : St), K3 v1 v2 v3 v4 σ → Go X G 3 [(0, .ref (G.2.2.1 75)), (1, .int v1), (2, .int v2), (3, .int v3), (4, .int v4)] [] σ)
    : ∀ (v1 : Int32) (v2 : Int32) (v3 : Int32) (v4 : Int32) (v7 : Int32) (σ : St), wbX12_lays_145  K3 post v1 v2 v3 v4 v7 σ → Go X G 145 [(0, .ref (G.2.2.1 75)), (1, .int v1), (2, .int v2), (3, .int v3), (4, .int v4), (7, .int v7)] [] σ := by
  intro v1 v2 v3 v4 v7 σ hw
  have hw : (((-40) ≤ v7 →
    wpX12_lesser 99 (v1 - v7) σ (fun r_1 σ_2 =>
    wbX12_lays_172 K3 post v1 v2 v3 v4 r_1 v4 σ_2)) ∧
  (¬ (-40) ≤ v7 →
    wbX12_lays_172 K3 post v1 v2 v3 v4 99 v4 σ)) := hw
  refine go_aload_n C 0 rfl rfl dX12_lays_145 ?_
  refine go_get (v := .ref (G.2.2.1 109)) C (shX12 G) (ltX12 hN) lkX12_118 rfl dX12_lays_146 ?_
  refine go_iload C 4 rfl dX12_lays_149 ?_
  refine go_iload C 5 rfl dX12_lays_151 ?_
  refine go_bipush (v := (-40)) C rfl dX12_lays_153 ?_
  refine go_icmp_ge C 163 rfl dX12_lays_155 (fun hc => ?_) (fun hc => ?_)
  · replace hw := hw.1 hc
    refine go_bipush (v := 99) C rfl dX12_lays_163 ?_
    refine go_iload_n C 1 rfl rfl dX12_lays_165 ?_
    refine go_iload C 5 rfl dX12_lays_166 ?_
    refine go_isub C dX12_lays_168 ?_
    refine go_callS (as := [.int 99, .int (v1 - v7)]) C hR cwX12_428 (Nat.le_trans (by decide) hd) (by decide) rfl rfl (Nat.le_of_ble_eq_true rfl) dX12_lays_169 (spX12_lesser (Nat.le_refl _) hN hw) (fun v_ τ_ hw => ?_)
    obtain ⟨r_1, rfl, hw⟩ := hw
    obtain ⟨σ_2, rfl⟩ : ∃ z, z = τ_ := ⟨_, rfl⟩
    refine go_sub [0, 1, 2, 3, 4] rfl ?_
    exact (gbX12_lays_172 C hr hR hnl hd hN hK3) _ _ _ _ _ _ _ hw
  · replace hw := hw.2 hc
    refine go_bipush (v := 99) C rfl dX12_lays_158 ?_
    refine go_goto C 172 rfl dX12_lays_160 ?_
    refine go_sub [0, 1, 2, 3, 4] rfl ?_
    exact (gbX12_lays_172 C hr hR hnl hd hN hK3) _ _ _ _ _ _ _ hw
set_option maxRecDepth 20000 in
set_option maxHeartbeats 4000000 in
theorem gbX12_lays_121 {X : XT} {G : GT} {l : Launch} {d : Nat}  {post : St → Prop} (C : Cx X G cX12_lays RX12) (hr : Rt X G none (fun v τ => v = none ∧ post τ)) (hR : Rm X l d) (hnl : X.2.2.2.2.2.2.2.2.2.2.1 = 9)  (hd : 4 ≤ d) (hN : 119 ≤ G.2.2.2.2.2)  {K3 : Int32 → Int32 → Int32 → Int32 → St → Prop} (hK3 : ∀ (v1 : Int32) (v2 : Int32) (v3 : Int32) (v4 : Int32) (σ : St), K3 v1 v2 v3 v4 σ → Go X G 3 [(0, .ref (G.2.2.1 75)), (1, .int v1), (2, .int v2), (3, .int v3), (4, .int v4)] [] σ)
    : ∀ (n : Nat) (v1 : Int32) (v2 : Int32) (v3 : Int32) (v4 : Int32) (v7 : Int32) (σ : St), wbX12_lays_121  K3 post n v1 v2 v3 v4 v7 σ → Go X G 121 [(0, .ref (G.2.2.1 75)), (1, .int v1), (2, .int v2), (3, .int v3), (4, .int v4), (7, .int v7)] [] σ := by
  intro n
  induction n with
  | zero => intro v1 v2 v3 v4 v7 σ hw; exact hw.elim
  | succ n ih =>
    intro v1 v2 v3 v4 v7 σ hw
    have hw : ((v7 < (-40) →
      wbX12_lays_145 K3 post v1 v2 v3 v4 v7 σ) ∧
    (¬ v7 < (-40) →
      wpX12_all v7 v4 σ (fun r_1 σ_2 =>
      ((¬ r_1 = 0 →
        wbX12_lays_145 K3 post v1 v2 v3 v4 v7 σ_2) ∧
      (r_1 = 0 →
        ∀ v7_3 : Int32, v7_3 = v7 + (-1) →
        wbX12_lays_121 K3 post n v1 v2 v3 v4 v7_3 σ_2))))) := hw
    refine go_iload C 5 rfl dX12_lays_121 ?_
    refine go_bipush (v := (-40)) C rfl dX12_lays_123 ?_
    refine go_icmp_lt C 145 rfl dX12_lays_125 (fun hc => ?_) (fun hc => ?_)
    · replace hw := hw.1 hc
      exact (gbX12_lays_145 C hr hR hnl hd hN hK3) _ _ _ _ _ _ hw
    · replace hw := hw.2 hc
      refine go_aload_n C 0 rfl rfl dX12_lays_128 ?_
      refine go_iload C 5 rfl dX12_lays_129 ?_
      refine go_iload C 4 rfl dX12_lays_131 ?_
      refine go_callV (as := [.int v7, .int v4]) C hR (shX12 G) (ltX12 hN) cwX12_407 (Nat.le_trans (by decide) hd) (by decide) rfl rfl (Nat.le_of_ble_eq_true rfl) dX12_lays_133 (spX12_all (Nat.le_refl _) hN hw) (fun v_ τ_ hw => ?_)
      obtain ⟨r_1, rfl, hw⟩ := hw
      obtain ⟨σ_2, rfl⟩ : ∃ z, z = τ_ := ⟨_, rfl⟩
      refine go_if_ne C 145 rfl dX12_lays_136 (fun hc => ?_) (fun hc => ?_)
      · replace hw := hw.1 hc
        exact (gbX12_lays_145 C hr hR hnl hd hN hK3) _ _ _ _ _ _ hw
      · replace hw := hw.2 hc
        obtain ⟨v7_3, ev7_3⟩ : ∃ z : Int32, z = v7 + (-1) := ⟨_, rfl⟩
        replace hw := hw v7_3 ev7_3
        refine go_iinc (v := v7_3) (lv2 := [(7, .int v7_3), (0, .ref (G.2.2.1 75)), (1, .int v1), (2, .int v2), (3, .int v3), (4, .int v4)]) C 5 rfl (by rw [ev7_3]; rfl) (by rw [hnl]; decide) rfl dX12_lays_139 ?_
        refine go_goto C 121 rfl dX12_lays_142 ?_
        refine go_sub [1, 2, 3, 4, 5, 0] rfl ?_
        exact ih _ _ _ _ _ _ hw
set_option maxRecDepth 20000 in
set_option maxHeartbeats 4000000 in
theorem gbX12_lays_38 {X : XT} {G : GT} {l : Launch} {d : Nat}  {post : St → Prop} (C : Cx X G cX12_lays RX12) (hr : Rt X G none (fun v τ => v = none ∧ post τ)) (hR : Rm X l d) (hnl : X.2.2.2.2.2.2.2.2.2.2.1 = 9)  (hd : 4 ≤ d) (hN : 119 ≤ G.2.2.2.2.2)  {K3 : Int32 → Int32 → Int32 → Int32 → St → Prop} (hK3 : ∀ (v1 : Int32) (v2 : Int32) (v3 : Int32) (v4 : Int32) (σ : St), K3 v1 v2 v3 v4 σ → Go X G 3 [(0, .ref (G.2.2.1 75)), (1, .int v1), (2, .int v2), (3, .int v3), (4, .int v4)] [] σ)
    : ∀ (n : Nat) (v1 : Int32) (v2 : Int32) (v3 : Int32) (v4 : Int32) (v5 : Int32) (v6 : Int32) (v7 : Int32) (σ : St), wbX12_lays_38  K3 post n v1 v2 v3 v4 v5 v6 v7 σ → Go X G 38 [(0, .ref (G.2.2.1 75)), (1, .int v1), (2, .int v2), (3, .int v3), (4, .int v4), (5, .int v5), (6, .int v6), (7, .int v7)] [] σ := by
  intro n
  induction n with
  | zero => intro v1 v2 v3 v4 v5 v6 v7 σ hw; exact hw.elim
  | succ n ih =>
    intro v1 v2 v3 v4 v5 v6 v7 σ hw
    have hw : ((v1 ≤ v7 →
      vp_in v4 32 ∧ (
      ∀ σ_1 : St, σ_1 = sI σ 108 v4.toNatClampNeg v5 →
      vp_in (16 + v4) 32 ∧ (
      ∀ σ_2 : St, σ_2 = sI σ_1 108 (16 + v4).toNatClampNeg v6 →
      ∀ v7_3 : Int32, v7_3 = (v1 - 1) →
      ∃ m_121, wbX12_lays_121 K3 post m_121 v1 v2 v3 v4 v7_3 σ_2))) ∧
    (¬ v1 ≤ v7 →
      vp_in ((32 * (v7 + 40)) + v4) 3232 ∧ (
      ∀ v5_4 : Int32, v5_4 = (v5 + (gI σ 102 ((32 * (v7 + 40)) + v4).toNatClampNeg)) →
      vp_in (((32 * (v7 + 40)) + 16) + v4) 3232 ∧ (
      ∀ v6_5 : Int32, v6_5 = (v6 + (gI σ 102 (((32 * (v7 + 40)) + 16) + v4).toNatClampNeg)) →
      ∀ v7_6 : Int32, v7_6 = v7 + 1 →
      wbX12_lays_38 K3 post n v1 v2 v3 v4 v5_4 v6_5 v7_6 σ)))) := hw
    refine go_iload C 7 rfl dX12_lays_38 ?_
    refine go_iload_n C 1 rfl rfl dX12_lays_40 ?_
    refine go_icmp_ge C 95 rfl dX12_lays_41 (fun hc => ?_) (fun hc => ?_)
    · replace hw := hw.1 hc
      refine go_aload_n C 0 rfl rfl dX12_lays_95 ?_
      refine go_get (v := .ref (G.2.2.1 108)) C (shX12 G) (ltX12 hN) lkX12_115 rfl dX12_lays_96 ?_
      refine go_iload C 4 rfl dX12_lays_99 ?_
      refine go_iload C 5 rfl dX12_lays_101 ?_
      refine go_iast C (saX12_sexAhead G) (laX12_sexAhead hN) hw.1 dX12_lays_103 (go_nm fun σ_1 eσ_1 => ?_)
      replace hw := hw.2 σ_1 eσ_1
      refine go_aload_n C 0 rfl rfl dX12_lays_104 ?_
      refine go_get (v := .ref (G.2.2.1 108)) C (shX12 G) (ltX12 hN) lkX12_115 rfl dX12_lays_105 ?_
      refine go_bipush (v := 16) C rfl dX12_lays_108 ?_
      refine go_iload C 4 rfl dX12_lays_110 ?_
      refine go_iadd C dX12_lays_112 ?_
      refine go_iload C 6 rfl dX12_lays_113 ?_
      refine go_iast C (saX12_sexAhead G) (laX12_sexAhead hN) hw.1 dX12_lays_115 (go_nm fun σ_2 eσ_2 => ?_)
      replace hw := hw.2 σ_2 eσ_2
      refine go_iload_n C 1 rfl rfl dX12_lays_116 ?_
      refine go_iconst (v := 1) C rfl dX12_lays_117 ?_
      refine go_isub C dX12_lays_118 ?_
      refine go_topi (fun v7_3 ev7_3 => ?_)
      replace hw := hw v7_3 ev7_3
      refine go_istore (lv2 := [(7, .int v7_3), (0, .ref (G.2.2.1 75)), (1, .int v1), (2, .int v2), (3, .int v3), (4, .int v4), (5, .int v5), (6, .int v6)]) C (by rw [hnl]; decide) rfl dX12_lays_119 ?_
      refine go_sub [1, 2, 3, 4, 5, 0] rfl ?_
      obtain ⟨n_0, hw⟩ := hw
      exact (gbX12_lays_121 C hr hR hnl hd hN hK3) n_0 _ _ _ _ _ _ hw
    · replace hw := hw.2 hc
      refine go_iload C 5 rfl dX12_lays_44 ?_
      refine go_aload_n C 0 rfl rfl dX12_lays_46 ?_
      refine go_get (v := .ref (G.2.2.1 102)) C (shX12 G) (ltX12 hN) lkX12_97 rfl dX12_lays_47 ?_
      refine go_bipush (v := 32) C rfl dX12_lays_50 ?_
      refine go_iload C 7 rfl dX12_lays_52 ?_
      refine go_bipush (v := 40) C rfl dX12_lays_54 ?_
      refine go_iadd C dX12_lays_56 ?_
      refine go_imul C dX12_lays_57 ?_
      refine go_iload C 4 rfl dX12_lays_58 ?_
      refine go_iadd C dX12_lays_60 ?_
      refine go_iald C (saX12_inSex G) (laX12_inSex hN) hw.1 dX12_lays_61 ?_
      replace hw := hw.2
      refine go_iadd C dX12_lays_62 ?_
      refine go_topi (fun v5_4 ev5_4 => ?_)
      replace hw := hw v5_4 ev5_4
      refine go_istore (lv2 := [(5, .int v5_4), (0, .ref (G.2.2.1 75)), (1, .int v1), (2, .int v2), (3, .int v3), (4, .int v4), (6, .int v6), (7, .int v7)]) C (by rw [hnl]; decide) rfl dX12_lays_63 ?_
      refine go_iload C 6 rfl dX12_lays_65 ?_
      refine go_aload_n C 1 rfl rfl dX12_lays_67 ?_
      refine go_get (v := .ref (G.2.2.1 102)) C (shX12 G) (ltX12 hN) lkX12_97 rfl dX12_lays_68 ?_
      refine go_bipush (v := 32) C rfl dX12_lays_71 ?_
      refine go_iload C 7 rfl dX12_lays_73 ?_
      refine go_bipush (v := 40) C rfl dX12_lays_75 ?_
      refine go_iadd C dX12_lays_77 ?_
      refine go_imul C dX12_lays_78 ?_
      refine go_bipush (v := 16) C rfl dX12_lays_79 ?_
      refine go_iadd C dX12_lays_81 ?_
      refine go_iload C 5 rfl dX12_lays_82 ?_
      refine go_iadd C dX12_lays_84 ?_
      refine go_iald C (saX12_inSex G) (laX12_inSex hN) hw.1 dX12_lays_85 ?_
      replace hw := hw.2
      refine go_iadd C dX12_lays_86 ?_
      refine go_topi (fun v6_5 ev6_5 => ?_)
      replace hw := hw v6_5 ev6_5
      refine go_istore (lv2 := [(6, .int v6_5), (5, .int v5_4), (0, .ref (G.2.2.1 75)), (1, .int v1), (2, .int v2), (3, .int v3), (4, .int v4), (7, .int v7)]) C (by rw [hnl]; decide) rfl dX12_lays_87 ?_
      obtain ⟨v7_6, ev7_6⟩ : ∃ z : Int32, z = v7 + 1 := ⟨_, rfl⟩
      replace hw := hw v7_6 ev7_6
      refine go_iinc (v := v7_6) (lv2 := [(7, .int v7_6), (6, .int v6_5), (5, .int v5_4), (0, .ref (G.2.2.1 75)), (1, .int v1), (2, .int v2), (3, .int v3), (4, .int v4)]) C 7 rfl (by rw [ev7_6]; rfl) (by rw [hnl]; decide) rfl dX12_lays_89 ?_
      refine go_goto C 38 rfl dX12_lays_92 ?_
      refine go_sub [3, 4, 5, 6, 7, 2, 1, 0] rfl ?_
      exact ih _ _ _ _ _ _ _ _ hw
set_option maxRecDepth 20000 in
set_option maxHeartbeats 4000000 in
theorem gbX12_lays_349 {X : XT} {G : GT} {l : Launch} {d : Nat}  {post : St → Prop} (C : Cx X G cX12_lays RX12) (hr : Rt X G none (fun v τ => v = none ∧ post τ)) (hR : Rm X l d) (hnl : X.2.2.2.2.2.2.2.2.2.2.1 = 9)  (hd : 4 ≤ d) (hN : 119 ≤ G.2.2.2.2.2)   
    : ∀ (n : Nat) (v1 : Int32) (v4 : Int32) (σ : St), wbX12_lays_349   post n v1 v4 σ → Go X G 349 [(0, .ref (G.2.2.1 75)), (1, .int v1), (4, .int v4)] [] σ := by
  intro n
  induction n with
  | zero => intro v1 v4 σ hw; exact hw.elim
  | succ n ih =>
    intro v1 v4 σ hw
    have hw : vp_in 2 9680 ∧ (
    (((gI σ 76 (2 : Int32).toNatClampNeg) ≤ v4 →
      post σ) ∧
    (¬ (gI σ 76 (2 : Int32).toNatClampNeg) ≤ v4 →
      vp_in (50 + (2 * v4)) 9680 ∧ (
      ((v1 < (gI σ 76 (50 + (2 * v4)).toNatClampNeg) →
        ∀ σ_1 : St, σ_1 = sI σ 75 55 (gI σ 75 55) →
        ∀ v4_2 : Int32, v4_2 = v4 + 1 →
        wbX12_lays_349 post n v1 v4_2 σ_1) ∧
      (¬ v1 < (gI σ 76 (50 + (2 * v4)).toNatClampNeg) →
        vp_in ((50 + (2 * v4)) + 1) 9680 ∧ (
        ∀ σ_3 : St, σ_3 = sI σ 75 55 (gI σ 76 ((50 + (2 * v4)) + 1).toNatClampNeg) →
        ∀ v4_4 : Int32, v4_4 = v4 + 1 →
        wbX12_lays_349 post n v1 v4_4 σ_3))))))) := hw
    refine go_iload C 2 rfl dX12_lays_349 ?_
    refine go_aload_n C 0 rfl rfl dX12_lays_351 ?_
    refine go_get (v := .ref (G.2.2.1 76)) C (shX12 G) (ltX12 hN) lkX12_7 rfl dX12_lays_352 ?_
    refine go_iconst (v := 2) C rfl dX12_lays_355 ?_
    refine go_iald C (saX12_a G) (laX12_a hN) hw.1 dX12_lays_356 ?_
    replace hw := hw.2
    refine go_icmp_ge C 407 rfl dX12_lays_357 (fun hc => ?_) (fun hc => ?_)
    · replace hw := hw.1 hc
      exact go_vret C hr ⟨rfl, hw⟩ dX12_lays_407
    · replace hw := hw.2 hc
      refine go_aload_n C 0 rfl rfl dX12_lays_360 ?_
      refine go_aload_n C 0 rfl rfl dX12_lays_361 ?_
      refine go_get (v := .ref (G.2.2.1 76)) C (shX12 G) (ltX12 hN) lkX12_7 rfl dX12_lays_362 ?_
      refine go_bipush (v := 50) C rfl dX12_lays_365 ?_
      refine go_iconst (v := 2) C rfl dX12_lays_367 ?_
      refine go_iload C 2 rfl dX12_lays_368 ?_
      refine go_imul C dX12_lays_370 ?_
      refine go_iadd C dX12_lays_371 ?_
      refine go_iald C (saX12_a G) (laX12_a hN) hw.1 dX12_lays_372 ?_
      replace hw := hw.2
      refine go_iload_n C 1 rfl rfl dX12_lays_373 ?_
      refine go_icmp_gt C 394 rfl dX12_lays_374 (fun hc => ?_) (fun hc => ?_)
      · replace hw := hw.1 hc
        refine go_aload_n C 0 rfl rfl dX12_lays_394 ?_
        refine go_get (v := .int (gI σ 75 55)) C (shX12 G) (ltX12 hN) lkX12_438 rfl dX12_lays_395 ?_
        refine go_puti C (shX12 G) (ltX12 hN) lpX12_438 (show 55 < 64 by decide) (pxX12_55 G _ _) dX12_lays_398 (go_nm fun σ_1 eσ_1 => ?_)
        replace hw := hw σ_1 eσ_1
        obtain ⟨v4_2, ev4_2⟩ : ∃ z : Int32, z = v4 + 1 := ⟨_, rfl⟩
        replace hw := hw v4_2 ev4_2
        refine go_iinc (v := v4_2) (lv2 := [(4, .int v4_2), (0, .ref (G.2.2.1 75)), (1, .int v1)]) C 2 rfl (by rw [ev4_2]; rfl) (by rw [hnl]; decide) rfl dX12_lays_401 ?_
        refine go_goto C 349 rfl dX12_lays_404 ?_
        refine go_sub [1, 2, 0] rfl ?_
        exact ih _ _ _ hw
      · replace hw := hw.2 hc
        refine go_aload_n C 0 rfl rfl dX12_lays_377 ?_
        refine go_get (v := .ref (G.2.2.1 76)) C (shX12 G) (ltX12 hN) lkX12_7 rfl dX12_lays_378 ?_
        refine go_bipush (v := 50) C rfl dX12_lays_381 ?_
        refine go_iconst (v := 2) C rfl dX12_lays_383 ?_
        refine go_iload C 2 rfl dX12_lays_384 ?_
        refine go_imul C dX12_lays_386 ?_
        refine go_iadd C dX12_lays_387 ?_
        refine go_iconst (v := 1) C rfl dX12_lays_388 ?_
        refine go_iadd C dX12_lays_389 ?_
        refine go_iald C (saX12_a G) (laX12_a hN) hw.1 dX12_lays_390 ?_
        replace hw := hw.2
        refine go_goto C 398 rfl dX12_lays_391 ?_
        refine go_puti C (shX12 G) (ltX12 hN) lpX12_438 (show 55 < 64 by decide) (pxX12_55 G _ _) dX12_lays_398 (go_nm fun σ_3 eσ_3 => ?_)
        replace hw := hw σ_3 eσ_3
        obtain ⟨v4_4, ev4_4⟩ : ∃ z : Int32, z = v4 + 1 := ⟨_, rfl⟩
        replace hw := hw v4_4 ev4_4
        refine go_iinc (v := v4_4) (lv2 := [(4, .int v4_4), (0, .ref (G.2.2.1 75)), (1, .int v1)]) C 2 rfl (by rw [ev4_4]; rfl) (by rw [hnl]; decide) rfl dX12_lays_401 ?_
        refine go_goto C 349 rfl dX12_lays_404 ?_
        refine go_sub [1, 2, 0] rfl ?_
        exact ih _ _ _ hw
set_option maxRecDepth 20000 in
set_option maxHeartbeats 4000000 in
theorem gbX12_lays_3 {X : XT} {G : GT} {l : Launch} {d : Nat}  {post : St → Prop} (C : Cx X G cX12_lays RX12) (hr : Rt X G none (fun v τ => v = none ∧ post τ)) (hR : Rm X l d) (hnl : X.2.2.2.2.2.2.2.2.2.2.1 = 9)  (hd : 4 ≤ d) (hN : 119 ≤ G.2.2.2.2.2)   
    : ∀ (n : Nat) (v1 : Int32) (v2 : Int32) (v3 : Int32) (v4 : Int32) (σ : St), wbX12_lays_3   post n v1 v2 v3 v4 σ → Go X G 3 [(0, .ref (G.2.2.1 75)), (1, .int v1), (2, .int v2), (3, .int v3), (4, .int v4)] [] σ := by
  intro n
  induction n with
  | zero => intro v1 v2 v3 v4 σ hw; exact hw.elim
  | succ n ih =>
    intro v1 v2 v3 v4 σ hw
    have hw : vp_in 1 9680 ∧ (
    (((gI σ 76 (1 : Int32).toNatClampNeg) ≤ v4 →
      ∀ σ_1 : St, σ_1 = sI σ 75 55 0 →
      ∃ m_349, wbX12_lays_349 post m_349 v1 0 σ_1) ∧
    (¬ (gI σ 76 (1 : Int32).toNatClampNeg) ≤ v4 →
      vp_in 6 9680 ∧ (
      wpX12_greater (-40) ((v1 - (gI σ 76 (6 : Int32).toNatClampNeg)) + 1) σ (fun r_2 σ_3 =>
      ∃ m_38, wbX12_lays_38 (wbX12_lays_3 post n) post m_38 v1 v2 v3 v4 0 0 r_2 σ_3))))) := hw
    refine go_iload C 4 rfl dX12_lays_3 ?_
    refine go_aload_n C 0 rfl rfl dX12_lays_5 ?_
    refine go_get (v := .ref (G.2.2.1 76)) C (shX12 G) (ltX12 hN) lkX12_7 rfl dX12_lays_6 ?_
    refine go_iconst (v := 1) C rfl dX12_lays_9 ?_
    refine go_iald C (saX12_a G) (laX12_a hN) hw.1 dX12_lays_10 ?_
    replace hw := hw.2
    refine go_icmp_ge C 341 rfl dX12_lays_11 (fun hc => ?_) (fun hc => ?_)
    · replace hw := hw.1 hc
      refine go_aload_n C 0 rfl rfl dX12_lays_341 ?_
      refine go_iconst (v := 0) C rfl dX12_lays_342 ?_
      refine go_puti C (shX12 G) (ltX12 hN) lpX12_438 (show 55 < 64 by decide) (pxX12_55 G _ _) dX12_lays_343 (go_nm fun σ_1 eσ_1 => ?_)
      replace hw := hw σ_1 eσ_1
      refine go_iconst (v := 0) C rfl dX12_lays_346 ?_
      refine go_istore (lv2 := [(4, .int 0), (0, .ref (G.2.2.1 75)), (1, .int v1), (2, .int v2), (3, .int v3)]) C (by rw [hnl]; decide) rfl dX12_lays_347 ?_
      refine go_sub [1, 2, 0] rfl ?_
      obtain ⟨n_0, hw⟩ := hw
      exact (gbX12_lays_349 C hr hR hnl hd hN) n_0 _ _ _ hw
    · replace hw := hw.2 hc
      refine go_iconst (v := 0) C rfl dX12_lays_14 ?_
      refine go_istore (lv2 := [(5, .int 0), (0, .ref (G.2.2.1 75)), (1, .int v1), (2, .int v2), (3, .int v3), (4, .int v4)]) C (by rw [hnl]; decide) rfl dX12_lays_15 ?_
      refine go_iconst (v := 0) C rfl dX12_lays_17 ?_
      refine go_istore (lv2 := [(6, .int 0), (5, .int 0), (0, .ref (G.2.2.1 75)), (1, .int v1), (2, .int v2), (3, .int v3), (4, .int v4)]) C (by rw [hnl]; decide) rfl dX12_lays_18 ?_
      refine go_bipush (v := (-40)) C rfl dX12_lays_20 ?_
      refine go_iload_n C 3 rfl rfl dX12_lays_22 ?_
      refine go_aload_n C 2 rfl rfl dX12_lays_23 ?_
      refine go_get (v := .ref (G.2.2.1 76)) C (shX12 G) (ltX12 hN) lkX12_7 rfl dX12_lays_24 ?_
      refine go_bipush (v := 6) C rfl dX12_lays_27 ?_
      refine go_iald C (saX12_a G) (laX12_a hN) hw.1 dX12_lays_29 ?_
      replace hw := hw.2
      refine go_isub C dX12_lays_30 ?_
      refine go_iconst (v := 1) C rfl dX12_lays_31 ?_
      refine go_iadd C dX12_lays_32 ?_
      refine go_callS (as := [.int (-40), .int ((v1 - (gI σ 76 (6 : Int32).toNatClampNeg)) + 1)]) C hR cwX12_410 (Nat.le_trans (by decide) hd) (by decide) rfl rfl (Nat.le_of_ble_eq_true rfl) dX12_lays_33 (spX12_greater (Nat.le_refl _) hN hw) (fun v_ τ_ hw => ?_)
      obtain ⟨r_2, rfl, hw⟩ := hw
      obtain ⟨σ_3, rfl⟩ : ∃ z, z = τ_ := ⟨_, rfl⟩
      refine go_istore (lv2 := [(7, .int r_2), (6, .int 0), (5, .int 0), (0, .ref (G.2.2.1 75)), (1, .int v1), (2, .int v2), (3, .int v3), (4, .int v4)]) C (by rw [hnl]; decide) rfl dX12_lays_36 ?_
      refine go_sub [3, 4, 5, 6, 7, 2, 1, 0] rfl ?_
      obtain ⟨n_0, hw⟩ := hw
      exact (gbX12_lays_38 C hr hR hnl hd hN ih) n_0 _ _ _ _ _ _ _ _ hw
set_option maxRecDepth 20000 in
set_option maxHeartbeats 4000000 in
theorem spX12_lays {l : Launch} {G : GT} {d : Nat}  (hd : 4 ≤ d)  (hN : 119 ≤ G.2.2.2.2.2)  {a1 : Int32} {a2 : Int32} {a3 : Int32} {σ : St} {post : St → Prop} (hw : wpX12_lays  a1 a2 a3 σ post) : Sp l G d yX12_lays cX12_lays 9 none [.ref (G.2.2.1 75), .int a1, .int a2, .int a3] σ (fun v τ => v = none ∧ post τ) := by
  refine Sp.of (by decide) (Nat.le_of_ble_eq_true rfl) fun X C hr hR hnl => ?_
  show Go X G 0 [(0, .ref (G.2.2.1 75)), (1, .int a1), (2, .int a2), (3, .int a3)] [] σ
  have hw : ∃ m_3, wbX12_lays_3 post m_3 a1 a2 a3 0 σ := hw
  refine go_iconst (v := 0) C rfl dX12_lays_0 ?_
  refine go_istore (lv2 := [(4, .int 0), (0, .ref (G.2.2.1 75)), (1, .int a1), (2, .int a2), (3, .int a3)]) C (by rw [hnl]; decide) rfl dX12_lays_1 ?_
  refine go_sub [1, 2, 3, 4, 0] rfl ?_
  obtain ⟨n_0, hw⟩ := hw
  exact (gbX12_lays_3 C hr hR hnl hd hN) n_0 _ _ _ _ _ hw
-- CradleNamesModel.clears()V
set_option maxRecDepth 20000 in
set_option maxHeartbeats 4000000 in
theorem gbX12_clears_97 {X : XT} {G : GT} {l : Launch} {d : Nat}  {post : St → Prop} (C : Cx X G cX12_clears RX12) (hr : Rt X G none (fun v τ => v = none ∧ post τ)) (hR : Rm X l d) (hnl : X.2.2.2.2.2.2.2.2.2.2.1 = 2)  (hd : 1 ≤ d) (hN : 119 ≤ G.2.2.2.2.2)   
    : ∀ (n : Nat) (v1 : Int32) (σ : St), wbX12_clears_97   post n v1 σ → Go X G 97 [(0, .ref (G.2.2.1 75)), (1, .int v1)] [] σ := by
  intro n
  induction n with
  | zero => intro v1 σ hw; exact hw.elim
  | succ n ih =>
    intro v1 σ hw
    have hw : ((61 ≤ v1 →
      post σ) ∧
    (¬ 61 ≤ v1 →
      vp_in v1 61 ∧ (
      ∀ σ_1 : St, σ_1 = sI σ 103 v1.toNatClampNeg 0 →
      ∀ v1_2 : Int32, v1_2 = v1 + 1 →
      wbX12_clears_97 post n v1_2 σ_1))) := hw
    refine go_iload_n C 1 rfl rfl dX12_clears_97 ?_
    refine go_bipush (v := 61) C rfl dX12_clears_98 ?_
    refine go_icmp_ge C 116 rfl dX12_clears_100 (fun hc => ?_) (fun hc => ?_)
    · replace hw := hw.1 hc
      exact go_vret C hr ⟨rfl, hw⟩ dX12_clears_116
    · replace hw := hw.2 hc
      refine go_aload_n C 0 rfl rfl dX12_clears_103 ?_
      refine go_get (v := .ref (G.2.2.1 103)) C (shX12 G) (ltX12 hN) lkX12_100 rfl dX12_clears_104 ?_
      refine go_iload_n C 1 rfl rfl dX12_clears_107 ?_
      refine go_iconst (v := 0) C rfl dX12_clears_108 ?_
      refine go_iast C (saX12_nameless G) (laX12_nameless hN) hw.1 dX12_clears_109 (go_nm fun σ_1 eσ_1 => ?_)
      replace hw := hw.2 σ_1 eσ_1
      obtain ⟨v1_2, ev1_2⟩ : ∃ z : Int32, z = v1 + 1 := ⟨_, rfl⟩
      replace hw := hw v1_2 ev1_2
      refine go_iinc (v := v1_2) (lv2 := [(1, .int v1_2), (0, .ref (G.2.2.1 75))]) C 1 rfl (by rw [ev1_2]; rfl) (by rw [hnl]; decide) rfl dX12_clears_110 ?_
      refine go_goto C 97 rfl dX12_clears_113 ?_
      refine go_sub [1, 0] rfl ?_
      exact ih _ _ hw
set_option maxRecDepth 20000 in
set_option maxHeartbeats 4000000 in
theorem gbX12_clears_68 {X : XT} {G : GT} {l : Launch} {d : Nat}  {post : St → Prop} (C : Cx X G cX12_clears RX12) (hr : Rt X G none (fun v τ => v = none ∧ post τ)) (hR : Rm X l d) (hnl : X.2.2.2.2.2.2.2.2.2.2.1 = 2)  (hd : 1 ≤ d) (hN : 119 ≤ G.2.2.2.2.2)   
    : ∀ (n : Nat) (v1 : Int32) (σ : St), wbX12_clears_68   post n v1 σ → Go X G 68 [(0, .ref (G.2.2.1 75)), (1, .int v1)] [] σ := by
  intro n
  induction n with
  | zero => intro v1 σ hw; exact hw.elim
  | succ n ih =>
    intro v1 σ hw
    have hw : ((3232 ≤ v1 →
      ∃ m_97, wbX12_clears_97 post m_97 0 σ) ∧
    (¬ 3232 ≤ v1 →
      vp_in v1 3232 ∧ (
      ∀ σ_1 : St, σ_1 = sI σ 101 v1.toNatClampNeg 0 →
      vp_in v1 3232 ∧ (
      ∀ σ_2 : St, σ_2 = sI σ_1 102 v1.toNatClampNeg 0 →
      ∀ v1_3 : Int32, v1_3 = v1 + 1 →
      wbX12_clears_68 post n v1_3 σ_2)))) := hw
    refine go_iload_n C 1 rfl rfl dX12_clears_68 ?_
    refine go_sipush (v := 3232) C rfl dX12_clears_69 ?_
    refine go_icmp_ge C 95 rfl dX12_clears_72 (fun hc => ?_) (fun hc => ?_)
    · replace hw := hw.1 hc
      refine go_iconst (v := 0) C rfl dX12_clears_95 ?_
      refine go_istore_n (lv2 := [(1, .int 0), (0, .ref (G.2.2.1 75))]) C rfl (by rw [hnl]; decide) rfl dX12_clears_96 ?_
      refine go_sub [1, 0] rfl ?_
      obtain ⟨n_0, hw⟩ := hw
      exact (gbX12_clears_97 C hr hR hnl hd hN) n_0 _ _ hw
    · replace hw := hw.2 hc
      refine go_aload_n C 0 rfl rfl dX12_clears_75 ?_
      refine go_get (v := .ref (G.2.2.1 101)) C (shX12 G) (ltX12 hN) lkX12_94 rfl dX12_clears_76 ?_
      refine go_iload_n C 1 rfl rfl dX12_clears_79 ?_
      refine go_iconst (v := 0) C rfl dX12_clears_80 ?_
      refine go_iast C (saX12_inStanding G) (laX12_inStanding hN) hw.1 dX12_clears_81 (go_nm fun σ_1 eσ_1 => ?_)
      replace hw := hw.2 σ_1 eσ_1
      refine go_aload_n C 0 rfl rfl dX12_clears_82 ?_
      refine go_get (v := .ref (G.2.2.1 102)) C (shX12 G) (ltX12 hN) lkX12_97 rfl dX12_clears_83 ?_
      refine go_iload_n C 1 rfl rfl dX12_clears_86 ?_
      refine go_iconst (v := 0) C rfl dX12_clears_87 ?_
      refine go_iast C (saX12_inSex G) (laX12_inSex hN) hw.1 dX12_clears_88 (go_nm fun σ_2 eσ_2 => ?_)
      replace hw := hw.2 σ_2 eσ_2
      obtain ⟨v1_3, ev1_3⟩ : ∃ z : Int32, z = v1 + 1 := ⟨_, rfl⟩
      replace hw := hw v1_3 ev1_3
      refine go_iinc (v := v1_3) (lv2 := [(1, .int v1_3), (0, .ref (G.2.2.1 75))]) C 1 rfl (by rw [ev1_3]; rfl) (by rw [hnl]; decide) rfl dX12_clears_89 ?_
      refine go_goto C 68 rfl dX12_clears_92 ?_
      refine go_sub [1, 0] rfl ?_
      exact ih _ _ hw
set_option maxRecDepth 20000 in
set_option maxHeartbeats 4000000 in
theorem gbX12_clears_46 {X : XT} {G : GT} {l : Launch} {d : Nat}  {post : St → Prop} (C : Cx X G cX12_clears RX12) (hr : Rt X G none (fun v τ => v = none ∧ post τ)) (hR : Rm X l d) (hnl : X.2.2.2.2.2.2.2.2.2.2.1 = 2)  (hd : 1 ≤ d) (hN : 119 ≤ G.2.2.2.2.2)   
    : ∀ (n : Nat) (v1 : Int32) (σ : St), wbX12_clears_46   post n v1 σ → Go X G 46 [(0, .ref (G.2.2.1 75)), (1, .int v1)] [] σ := by
  intro n
  induction n with
  | zero => intro v1 σ hw; exact hw.elim
  | succ n ih =>
    intro v1 σ hw
    have hw : ((4848 ≤ v1 →
      ∃ m_68, wbX12_clears_68 post m_68 0 σ) ∧
    (¬ 4848 ≤ v1 →
      vp_in v1 4848 ∧ (
      ∀ σ_1 : St, σ_1 = sI σ 100 v1.toNatClampNeg 0 →
      ∀ v1_2 : Int32, v1_2 = v1 + 1 →
      wbX12_clears_46 post n v1_2 σ_1))) := hw
    refine go_iload_n C 1 rfl rfl dX12_clears_46 ?_
    refine go_sipush (v := 4848) C rfl dX12_clears_47 ?_
    refine go_icmp_ge C 66 rfl dX12_clears_50 (fun hc => ?_) (fun hc => ?_)
    · replace hw := hw.1 hc
      refine go_iconst (v := 0) C rfl dX12_clears_66 ?_
      refine go_istore_n (lv2 := [(1, .int 0), (0, .ref (G.2.2.1 75))]) C rfl (by rw [hnl]; decide) rfl dX12_clears_67 ?_
      refine go_sub [1, 0] rfl ?_
      obtain ⟨n_0, hw⟩ := hw
      exact (gbX12_clears_68 C hr hR hnl hd hN) n_0 _ _ hw
    · replace hw := hw.2 hc
      refine go_aload_n C 0 rfl rfl dX12_clears_53 ?_
      refine go_get (v := .ref (G.2.2.1 100)) C (shX12 G) (ltX12 hN) lkX12_91 rfl dX12_clears_54 ?_
      refine go_iload_n C 1 rfl rfl dX12_clears_57 ?_
      refine go_iconst (v := 0) C rfl dX12_clears_58 ?_
      refine go_iast C (saX12_inPlace G) (laX12_inPlace hN) hw.1 dX12_clears_59 (go_nm fun σ_1 eσ_1 => ?_)
      replace hw := hw.2 σ_1 eσ_1
      obtain ⟨v1_2, ev1_2⟩ : ∃ z : Int32, z = v1 + 1 := ⟨_, rfl⟩
      replace hw := hw v1_2 ev1_2
      refine go_iinc (v := v1_2) (lv2 := [(1, .int v1_2), (0, .ref (G.2.2.1 75))]) C 1 rfl (by rw [ev1_2]; rfl) (by rw [hnl]; decide) rfl dX12_clears_60 ?_
      refine go_goto C 46 rfl dX12_clears_63 ?_
      refine go_sub [1, 0] rfl ?_
      exact ih _ _ hw
set_option maxRecDepth 20000 in
set_option maxHeartbeats 4000000 in
theorem gbX12_clears_24 {X : XT} {G : GT} {l : Launch} {d : Nat}  {post : St → Prop} (C : Cx X G cX12_clears RX12) (hr : Rt X G none (fun v τ => v = none ∧ post τ)) (hR : Rm X l d) (hnl : X.2.2.2.2.2.2.2.2.2.2.1 = 2)  (hd : 1 ≤ d) (hN : 119 ≤ G.2.2.2.2.2)   
    : ∀ (n : Nat) (v1 : Int32) (σ : St), wbX12_clears_24   post n v1 σ → Go X G 24 [(0, .ref (G.2.2.1 75)), (1, .int v1)] [] σ := by
  intro n
  induction n with
  | zero => intro v1 σ hw; exact hw.elim
  | succ n ih =>
    intro v1 σ hw
    have hw : ((1616 ≤ v1 →
      ∃ m_46, wbX12_clears_46 post m_46 0 σ) ∧
    (¬ 1616 ≤ v1 →
      vp_in v1 1616 ∧ (
      ∀ σ_1 : St, σ_1 = sI σ 99 v1.toNatClampNeg 0 →
      ∀ v1_2 : Int32, v1_2 = v1 + 1 →
      wbX12_clears_24 post n v1_2 σ_1))) := hw
    refine go_iload_n C 1 rfl rfl dX12_clears_24 ?_
    refine go_sipush (v := 1616) C rfl dX12_clears_25 ?_
    refine go_icmp_ge C 44 rfl dX12_clears_28 (fun hc => ?_) (fun hc => ?_)
    · replace hw := hw.1 hc
      refine go_iconst (v := 0) C rfl dX12_clears_44 ?_
      refine go_istore_n (lv2 := [(1, .int 0), (0, .ref (G.2.2.1 75))]) C rfl (by rw [hnl]; decide) rfl dX12_clears_45 ?_
      refine go_sub [1, 0] rfl ?_
      obtain ⟨n_0, hw⟩ := hw
      exact (gbX12_clears_46 C hr hR hnl hd hN) n_0 _ _ hw
    · replace hw := hw.2 hc
      refine go_aload_n C 0 rfl rfl dX12_clears_31 ?_
      refine go_get (v := .ref (G.2.2.1 99)) C (shX12 G) (ltX12 hN) lkX12_88 rfl dX12_clears_32 ?_
      refine go_iload_n C 1 rfl rfl dX12_clears_35 ?_
      refine go_iconst (v := 0) C rfl dX12_clears_36 ?_
      refine go_iast C (saX12_together G) (laX12_together hN) hw.1 dX12_clears_37 (go_nm fun σ_1 eσ_1 => ?_)
      replace hw := hw.2 σ_1 eσ_1
      obtain ⟨v1_2, ev1_2⟩ : ∃ z : Int32, z = v1 + 1 := ⟨_, rfl⟩
      replace hw := hw v1_2 ev1_2
      refine go_iinc (v := v1_2) (lv2 := [(1, .int v1_2), (0, .ref (G.2.2.1 75))]) C 1 rfl (by rw [ev1_2]; rfl) (by rw [hnl]; decide) rfl dX12_clears_38 ?_
      refine go_goto C 24 rfl dX12_clears_41 ?_
      refine go_sub [1, 0] rfl ?_
      exact ih _ _ hw
set_option maxRecDepth 20000 in
set_option maxHeartbeats 4000000 in
theorem gbX12_clears_2 {X : XT} {G : GT} {l : Launch} {d : Nat}  {post : St → Prop} (C : Cx X G cX12_clears RX12) (hr : Rt X G none (fun v τ => v = none ∧ post τ)) (hR : Rm X l d) (hnl : X.2.2.2.2.2.2.2.2.2.2.1 = 2)  (hd : 1 ≤ d) (hN : 119 ≤ G.2.2.2.2.2)   
    : ∀ (n : Nat) (v1 : Int32) (σ : St), wbX12_clears_2   post n v1 σ → Go X G 2 [(0, .ref (G.2.2.1 75)), (1, .int v1)] [] σ := by
  intro n
  induction n with
  | zero => intro v1 σ hw; exact hw.elim
  | succ n ih =>
    intro v1 σ hw
    have hw : ((19392 ≤ v1 →
      ∃ m_24, wbX12_clears_24 post m_24 0 σ) ∧
    (¬ 19392 ≤ v1 →
      vp_in v1 19392 ∧ (
      ∀ σ_1 : St, σ_1 = sI σ 98 v1.toNatClampNeg 0 →
      ∀ v1_2 : Int32, v1_2 = v1 + 1 →
      wbX12_clears_2 post n v1_2 σ_1))) := hw
    refine go_iload_n C 1 rfl rfl dX12_clears_2 ?_
    refine go_sipush (v := 19392) C rfl dX12_clears_3 ?_
    refine go_icmp_ge C 22 rfl dX12_clears_6 (fun hc => ?_) (fun hc => ?_)
    · replace hw := hw.1 hc
      refine go_iconst (v := 0) C rfl dX12_clears_22 ?_
      refine go_istore_n (lv2 := [(1, .int 0), (0, .ref (G.2.2.1 75))]) C rfl (by rw [hnl]; decide) rfl dX12_clears_23 ?_
      refine go_sub [1, 0] rfl ?_
      obtain ⟨n_0, hw⟩ := hw
      exact (gbX12_clears_24 C hr hR hnl hd hN) n_0 _ _ hw
    · replace hw := hw.2 hc
      refine go_aload_n C 0 rfl rfl dX12_clears_9 ?_
      refine go_get (v := .ref (G.2.2.1 98)) C (shX12 G) (ltX12 hN) lkX12_85 rfl dX12_clears_10 ?_
      refine go_iload_n C 1 rfl rfl dX12_clears_13 ?_
      refine go_iconst (v := 0) C rfl dX12_clears_14 ?_
      refine go_iast C (saX12_given G) (laX12_given hN) hw.1 dX12_clears_15 (go_nm fun σ_1 eσ_1 => ?_)
      replace hw := hw.2 σ_1 eσ_1
      obtain ⟨v1_2, ev1_2⟩ : ∃ z : Int32, z = v1 + 1 := ⟨_, rfl⟩
      replace hw := hw v1_2 ev1_2
      refine go_iinc (v := v1_2) (lv2 := [(1, .int v1_2), (0, .ref (G.2.2.1 75))]) C 1 rfl (by rw [ev1_2]; rfl) (by rw [hnl]; decide) rfl dX12_clears_16 ?_
      refine go_goto C 2 rfl dX12_clears_19 ?_
      refine go_sub [1, 0] rfl ?_
      exact ih _ _ hw
set_option maxRecDepth 20000 in
set_option maxHeartbeats 4000000 in
theorem spX12_clears {l : Launch} {G : GT} {d : Nat}  (hd : 1 ≤ d)  (hN : 119 ≤ G.2.2.2.2.2)   {σ : St} {post : St → Prop} (hw : wpX12_clears   σ post) : Sp l G d yX12_clears cX12_clears 2 none [.ref (G.2.2.1 75)] σ (fun v τ => v = none ∧ post τ) := by
  refine Sp.of (by decide) (Nat.le_of_ble_eq_true rfl) fun X C hr hR hnl => ?_
  show Go X G 0 [(0, .ref (G.2.2.1 75))] [] σ
  have hw : ∃ m_2, wbX12_clears_2 post m_2 0 σ := hw
  refine go_iconst (v := 0) C rfl dX12_clears_0 ?_
  refine go_istore_n (lv2 := [(1, .int 0), (0, .ref (G.2.2.1 75))]) C rfl (by rw [hnl]; decide) rfl dX12_clears_1 ?_
  refine go_sub [1, 0] rfl ?_
  obtain ⟨n_0, hw⟩ := hw
  exact (gbX12_clears_2 C hr hR hnl hd hN) n_0 _ _ hw
