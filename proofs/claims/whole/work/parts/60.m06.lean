-- CradleNames$Trails.findThousandths()V
set_option maxRecDepth 20000 in
set_option maxHeartbeats 4000000 in
theorem gbX10_findThousandths_86 {X : XT} {G : GT} {l : Launch} {d : Nat}  {post : St → Prop} (C : Cx X G cX10_findThousandths RX10) (hr : Rt X G none (fun v τ => v = none ∧ post τ)) (hR : Rm X l d) (hnl : X.2.2.2.2.2.2.2.2.2.2.1 = 6)  (hd : 3 ≤ d) (hN : 75 ≤ G.2.2.2.2.2)  {K38 : Int32 → Int32 → Int32 → Int32 → St → Prop} (hK38 : ∀ (v1 : Int32) (v2 : Int32) (v3 : Int32) (v4 : Int32) (σ : St), K38 v1 v2 v3 v4 σ → Go X G 38 [(0, .ref (G.2.2.1 52)), (1, .int v1), (2, .int v2), (3, .int v3), (4, .int v4)] [] σ)
    : ∀ (v1 : Int32) (v2 : Int32) (v3 : Int32) (v4 : Int32) (v5 : Int32) (s0 : Int32) (s1 : Int32) (σ : St), wbX10_findThousandths_86  K38 post v1 v2 v3 v4 v5 s0 s1 σ → Go X G 86 [(0, .ref (G.2.2.1 52)), (1, .int v1), (2, .int v2), (3, .int v3), (4, .int v4), (5, .int v5)] [.int s0, .int s1, .ref (G.2.2.1 55)] σ := by
  intro v1 v2 v3 v4 v5 s0 s1 σ hw
  have hw : vp_in s1 976 ∧ (
  ∀ σ_1 : St, σ_1 = sI σ 55 s1.toNatClampNeg s0 →
  ((¬ v3 = 0 →
    wpX0_between 0 4 v4 v1 v1 σ_1 (fun r_2 σ_3 =>
    ¬ v3 = 0 ∧ (
    vp_in v5 976 ∧ (
    ∀ σ_4 : St, σ_4 = sI σ_3 56 v5.toNatClampNeg ((r_2 * 1000) / v3) →
    ∀ v4_5 : Int32, v4_5 = v4 + 1 →
    K38 v1 v2 v3 v4_5 σ_4)))) ∧
  (v3 = 0 →
    vp_in v5 976 ∧ (
    ∀ σ_6 : St, σ_6 = sI σ_1 56 v5.toNatClampNeg 0 →
    ∀ v4_7 : Int32, v4_7 = v4 + 1 →
    K38 v1 v2 v3 v4_7 σ_6)))) := hw
  refine go_iast C (saX10_upper G) (laX10_upper hN) hw.1 dX10_findThousandths_86 (go_nm fun σ_1 eσ_1 => ?_)
  replace hw := hw.2 σ_1 eσ_1
  refine go_aload_n C 0 rfl rfl dX10_findThousandths_87 ?_
  refine go_get (v := .ref (G.2.2.1 56)) C (shX10 G) (ltX10 hN) lkX10_21 rfl dX10_findThousandths_88 ?_
  refine go_iload C 5 rfl dX10_findThousandths_91 ?_
  refine go_iload_n C 3 rfl rfl dX10_findThousandths_93 ?_
  refine go_if_ne C 101 rfl dX10_findThousandths_94 (fun hc => ?_) (fun hc => ?_)
  · replace hw := hw.1 hc
    refine go_aload_n C 0 rfl rfl dX10_findThousandths_101 ?_
    refine go_get (v := .ref (G.2.2.1 (21 + 4 * 0))) C (shX10 G) (ltX10 hN) lkX10_41 rfl dX10_findThousandths_102 ?_
    refine go_iconst (v := 4) C rfl dX10_findThousandths_105 ?_
    refine go_iload C 4 rfl dX10_findThousandths_106 ?_
    refine go_iload_n C 1 rfl rfl dX10_findThousandths_108 ?_
    refine go_iload_n C 1 rfl rfl dX10_findThousandths_109 ?_
    refine go_callV (as := [.int 4, .int v4, .int v1, .int v1]) C hR (shX0 G (show 0 < 2 by decide)) (ltX0 hN (show 0 < 2 by decide)) cwX10_45 (Nat.le_trans (by decide) hd) (by decide) rfl rfl (Nat.le_of_ble_eq_true rfl) dX10_findThousandths_110 (spX0_between (Nat.le_refl _) hN (show 0 < 2 by decide) hw) (fun v_ τ_ hw => ?_)
    obtain ⟨r_2, rfl, hw⟩ := hw
    obtain ⟨σ_3, rfl⟩ : ∃ z, z = τ_ := ⟨_, rfl⟩
    refine go_sipush (v := 1000) C rfl dX10_findThousandths_113 ?_
    refine go_imul C dX10_findThousandths_116 ?_
    refine go_iload_n C 3 rfl rfl dX10_findThousandths_117 ?_
    refine go_idiv C hw.1 dX10_findThousandths_118 ?_
    replace hw := hw.2
    refine go_iast C (saX10_lower G) (laX10_lower hN) hw.1 dX10_findThousandths_119 (go_nm fun σ_4 eσ_4 => ?_)
    replace hw := hw.2 σ_4 eσ_4
    obtain ⟨v4_5, ev4_5⟩ : ∃ z : Int32, z = v4 + 1 := ⟨_, rfl⟩
    replace hw := hw v4_5 ev4_5
    refine go_iinc (v := v4_5) (lv2 := [(4, .int v4_5), (0, .ref (G.2.2.1 52)), (1, .int v1), (2, .int v2), (3, .int v3), (5, .int v5)]) C 4 rfl (by rw [ev4_5]; rfl) (by rw [hnl]; decide) rfl dX10_findThousandths_120 ?_
    refine go_goto C 38 rfl dX10_findThousandths_123 ?_
    refine go_sub [1, 2, 3, 4, 0] rfl ?_
    exact hK38 _ _ _ _ _ hw
  · replace hw := hw.2 hc
    refine go_iconst (v := 0) C rfl dX10_findThousandths_97 ?_
    refine go_goto C 119 rfl dX10_findThousandths_98 ?_
    refine go_iast C (saX10_lower G) (laX10_lower hN) hw.1 dX10_findThousandths_119 (go_nm fun σ_6 eσ_6 => ?_)
    replace hw := hw.2 σ_6 eσ_6
    obtain ⟨v4_7, ev4_7⟩ : ∃ z : Int32, z = v4 + 1 := ⟨_, rfl⟩
    replace hw := hw v4_7 ev4_7
    refine go_iinc (v := v4_7) (lv2 := [(4, .int v4_7), (0, .ref (G.2.2.1 52)), (1, .int v1), (2, .int v2), (3, .int v3), (5, .int v5)]) C 4 rfl (by rw [ev4_7]; rfl) (by rw [hnl]; decide) rfl dX10_findThousandths_120 ?_
    refine go_goto C 38 rfl dX10_findThousandths_123 ?_
    refine go_sub [1, 2, 3, 4, 0] rfl ?_
    exact hK38 _ _ _ _ _ hw
set_option maxRecDepth 20000 in
set_option maxHeartbeats 4000000 in
theorem gbX10_findThousandths_38 {X : XT} {G : GT} {l : Launch} {d : Nat}  {post : St → Prop} (C : Cx X G cX10_findThousandths RX10) (hr : Rt X G none (fun v τ => v = none ∧ post τ)) (hR : Rm X l d) (hnl : X.2.2.2.2.2.2.2.2.2.2.1 = 6)  (hd : 3 ≤ d) (hN : 75 ≤ G.2.2.2.2.2)  {K2 : Int32 → St → Prop} (hK2 : ∀ (v1 : Int32) (σ : St), K2 v1 σ → Go X G 2 [(0, .ref (G.2.2.1 52)), (1, .int v1)] [] σ)
    : ∀ (n : Nat) (v1 : Int32) (v2 : Int32) (v3 : Int32) (v4 : Int32) (σ : St), wbX10_findThousandths_38  K2 post n v1 v2 v3 v4 σ → Go X G 38 [(0, .ref (G.2.2.1 52)), (1, .int v1), (2, .int v2), (3, .int v3), (4, .int v4)] [] σ := by
  intro n
  induction n with
  | zero => intro v1 v2 v3 v4 σ hw; exact hw.elim
  | succ n ih =>
    intro v1 v2 v3 v4 σ hw
    have hw : ((16 ≤ v4 →
      ∀ v1_1 : Int32, v1_1 = v1 + 1 →
      K2 v1_1 σ) ∧
    (¬ 16 ≤ v4 →
      ∀ v5_2 : Int32, v5_2 = ((v1 * 16) + v4) →
      ((¬ v2 = 0 →
        wpX0_between 0 3 v4 v1 v1 σ (fun r_3 σ_4 =>
        ¬ v2 = 0 ∧ (
        wbX10_findThousandths_86 (wbX10_findThousandths_38 K2 post n) post v1 v2 v3 v4 v5_2 ((r_3 * 1000) / v2) v5_2 σ_4))) ∧
      (v2 = 0 →
        wbX10_findThousandths_86 (wbX10_findThousandths_38 K2 post n) post v1 v2 v3 v4 v5_2 0 v5_2 σ)))) := hw
    refine go_iload C 4 rfl dX10_findThousandths_38 ?_
    refine go_bipush (v := 16) C rfl dX10_findThousandths_40 ?_
    refine go_icmp_ge C 126 rfl dX10_findThousandths_42 (fun hc => ?_) (fun hc => ?_)
    · replace hw := hw.1 hc
      obtain ⟨v1_1, ev1_1⟩ : ∃ z : Int32, z = v1 + 1 := ⟨_, rfl⟩
      replace hw := hw v1_1 ev1_1
      refine go_iinc (v := v1_1) (lv2 := [(1, .int v1_1), (0, .ref (G.2.2.1 52)), (2, .int v2), (3, .int v3), (4, .int v4)]) C 1 rfl (by rw [ev1_1]; rfl) (by rw [hnl]; decide) rfl dX10_findThousandths_126 ?_
      refine go_goto C 2 rfl dX10_findThousandths_129 ?_
      refine go_sub [1, 0] rfl ?_
      exact hK2 _ _ hw
    · replace hw := hw.2 hc
      refine go_iload_n C 1 rfl rfl dX10_findThousandths_45 ?_
      refine go_bipush (v := 16) C rfl dX10_findThousandths_46 ?_
      refine go_imul C dX10_findThousandths_48 ?_
      refine go_iload C 4 rfl dX10_findThousandths_49 ?_
      refine go_iadd C dX10_findThousandths_51 ?_
      refine go_topi (fun v5_2 ev5_2 => ?_)
      replace hw := hw v5_2 ev5_2
      refine go_istore (lv2 := [(5, .int v5_2), (0, .ref (G.2.2.1 52)), (1, .int v1), (2, .int v2), (3, .int v3), (4, .int v4)]) C (by rw [hnl]; decide) rfl dX10_findThousandths_52 ?_
      refine go_aload_n C 1 rfl rfl dX10_findThousandths_54 ?_
      refine go_get (v := .ref (G.2.2.1 55)) C (shX10 G) (ltX10 hN) lkX10_18 rfl dX10_findThousandths_55 ?_
      refine go_iload C 0 rfl dX10_findThousandths_58 ?_
      refine go_iload_n C 3 rfl rfl dX10_findThousandths_60 ?_
      refine go_if_ne C 68 rfl dX10_findThousandths_61 (fun hc => ?_) (fun hc => ?_)
      · replace hw := hw.1 hc
        refine go_aload_n C 1 rfl rfl dX10_findThousandths_68 ?_
        refine go_get (v := .ref (G.2.2.1 (21 + 4 * 0))) C (shX10 G) (ltX10 hN) lkX10_41 rfl dX10_findThousandths_69 ?_
        refine go_iconst (v := 3) C rfl dX10_findThousandths_72 ?_
        refine go_iload C 5 rfl dX10_findThousandths_73 ?_
        refine go_iload_n C 2 rfl rfl dX10_findThousandths_75 ?_
        refine go_iload_n C 2 rfl rfl dX10_findThousandths_76 ?_
        refine go_callV (as := [.int 3, .int v4, .int v1, .int v1]) C hR (shX0 G (show 0 < 2 by decide)) (ltX0 hN (show 0 < 2 by decide)) cwX10_45 (Nat.le_trans (by decide) hd) (by decide) rfl rfl (Nat.le_of_ble_eq_true rfl) dX10_findThousandths_77 (spX0_between (Nat.le_refl _) hN (show 0 < 2 by decide) hw) (fun v_ τ_ hw => ?_)
        obtain ⟨r_3, rfl, hw⟩ := hw
        obtain ⟨σ_4, rfl⟩ : ∃ z, z = τ_ := ⟨_, rfl⟩
        refine go_sipush (v := 1000) C rfl dX10_findThousandths_80 ?_
        refine go_imul C dX10_findThousandths_83 ?_
        refine go_iload_n C 3 rfl rfl dX10_findThousandths_84 ?_
        refine go_idiv C hw.1 dX10_findThousandths_85 ?_
        replace hw := hw.2
        refine go_sub [1, 2, 3, 4, 5, 0] rfl ?_
        exact (gbX10_findThousandths_86 C hr hR hnl hd hN ih) _ _ _ _ _ _ _ _ hw
      · replace hw := hw.2 hc
        refine go_iconst (v := 0) C rfl dX10_findThousandths_64 ?_
        refine go_goto C 86 rfl dX10_findThousandths_65 ?_
        refine go_sub [1, 2, 3, 4, 5, 0] rfl ?_
        exact (gbX10_findThousandths_86 C hr hR hnl hd hN ih) _ _ _ _ _ _ _ _ hw
set_option maxRecDepth 20000 in
set_option maxHeartbeats 4000000 in
theorem gbX10_findThousandths_2 {X : XT} {G : GT} {l : Launch} {d : Nat}  {post : St → Prop} (C : Cx X G cX10_findThousandths RX10) (hr : Rt X G none (fun v τ => v = none ∧ post τ)) (hR : Rm X l d) (hnl : X.2.2.2.2.2.2.2.2.2.2.1 = 6)  (hd : 3 ≤ d) (hN : 75 ≤ G.2.2.2.2.2)   
    : ∀ (n : Nat) (v1 : Int32) (σ : St), wbX10_findThousandths_2   post n v1 σ → Go X G 2 [(0, .ref (G.2.2.1 52)), (1, .int v1)] [] σ := by
  intro n
  induction n with
  | zero => intro v1 σ hw; exact hw.elim
  | succ n ih =>
    intro v1 σ hw
    have hw : (((gI σ 9 0) ≤ v1 →
      post σ) ∧
    (¬ (gI σ 9 0) ≤ v1 →
      wpX0_groupTotal 0 3 v1 v1 σ (fun r_1 σ_2 =>
      wpX0_groupTotal 0 4 v1 v1 σ_2 (fun r_3 σ_4 =>
      ∃ m_38, wbX10_findThousandths_38 (wbX10_findThousandths_2 post n) post m_38 v1 r_1 r_3 0 σ_4)))) := hw
    refine go_iload_n C 1 rfl rfl dX10_findThousandths_2 ?_
    refine go_aload_n C 0 rfl rfl dX10_findThousandths_3 ?_
    refine go_get (v := .ref (G.2.2.1 9)) C (shX10 G) (ltX10 hN) lkX10_37 rfl dX10_findThousandths_4 ?_
    refine go_get (v := .int (gI σ 9 0)) C (shX4 G) (ltX4 hN) lkX10_57 rfl dX10_findThousandths_7 ?_
    refine go_icmp_ge C 132 rfl dX10_findThousandths_10 (fun hc => ?_) (fun hc => ?_)
    · replace hw := hw.1 hc
      exact go_vret C hr ⟨rfl, hw⟩ dX10_findThousandths_132
    · replace hw := hw.2 hc
      refine go_aload_n C 0 rfl rfl dX10_findThousandths_13 ?_
      refine go_get (v := .ref (G.2.2.1 (21 + 4 * 0))) C (shX10 G) (ltX10 hN) lkX10_41 rfl dX10_findThousandths_14 ?_
      refine go_iconst (v := 3) C rfl dX10_findThousandths_17 ?_
      refine go_iload_n C 1 rfl rfl dX10_findThousandths_18 ?_
      refine go_iload_n C 1 rfl rfl dX10_findThousandths_19 ?_
      refine go_callV (as := [.int 3, .int v1, .int v1]) C hR (shX0 G (show 0 < 2 by decide)) (ltX0 hN (show 0 < 2 by decide)) cwX10_86 (Nat.le_trans (by decide) hd) (by decide) rfl rfl (Nat.le_of_ble_eq_true rfl) dX10_findThousandths_20 (spX0_groupTotal (Nat.le_refl _) hN (show 0 < 2 by decide) hw) (fun v_ τ_ hw => ?_)
      obtain ⟨r_1, rfl, hw⟩ := hw
      obtain ⟨σ_2, rfl⟩ : ∃ z, z = τ_ := ⟨_, rfl⟩
      refine go_istore_n (lv2 := [(2, .int r_1), (0, .ref (G.2.2.1 52)), (1, .int v1)]) C rfl (by rw [hnl]; decide) rfl dX10_findThousandths_23 ?_
      refine go_aload_n C 1 rfl rfl dX10_findThousandths_24 ?_
      refine go_get (v := .ref (G.2.2.1 (21 + 4 * 0))) C (shX10 G) (ltX10 hN) lkX10_41 rfl dX10_findThousandths_25 ?_
      refine go_iconst (v := 4) C rfl dX10_findThousandths_28 ?_
      refine go_iload_n C 2 rfl rfl dX10_findThousandths_29 ?_
      refine go_iload_n C 2 rfl rfl dX10_findThousandths_30 ?_
      refine go_callV (as := [.int 4, .int v1, .int v1]) C hR (shX0 G (show 0 < 2 by decide)) (ltX0 hN (show 0 < 2 by decide)) cwX10_86 (Nat.le_trans (by decide) hd) (by decide) rfl rfl (Nat.le_of_ble_eq_true rfl) dX10_findThousandths_31 (spX0_groupTotal (Nat.le_refl _) hN (show 0 < 2 by decide) hw) (fun v_ τ_ hw => ?_)
      obtain ⟨r_3, rfl, hw⟩ := hw
      obtain ⟨σ_4, rfl⟩ : ∃ z, z = τ_ := ⟨_, rfl⟩
      refine go_istore_n (lv2 := [(3, .int r_3), (2, .int r_1), (0, .ref (G.2.2.1 52)), (1, .int v1)]) C rfl (by rw [hnl]; decide) rfl dX10_findThousandths_34 ?_
      refine go_iconst (v := 0) C rfl dX10_findThousandths_35 ?_
      refine go_istore (lv2 := [(4, .int 0), (3, .int r_3), (2, .int r_1), (0, .ref (G.2.2.1 52)), (1, .int v1)]) C (by rw [hnl]; decide) rfl dX10_findThousandths_36 ?_
      refine go_sub [3, 4, 2, 1, 0] rfl ?_
      obtain ⟨n_0, hw⟩ := hw
      exact (gbX10_findThousandths_38 C hr hR hnl hd hN ih) n_0 _ _ _ _ _ hw
set_option maxRecDepth 20000 in
set_option maxHeartbeats 4000000 in
theorem spX10_findThousandths {l : Launch} {G : GT} {d : Nat}  (hd : 3 ≤ d)  (hN : 75 ≤ G.2.2.2.2.2)   {σ : St} {post : St → Prop} (hw : wpX10_findThousandths   σ post) : Sp l G d yX10_findThousandths cX10_findThousandths 6 none [.ref (G.2.2.1 52)] σ (fun v τ => v = none ∧ post τ) := by
  refine Sp.of (by decide) (Nat.le_of_ble_eq_true rfl) fun X C hr hR hnl => ?_
  show Go X G 0 [(0, .ref (G.2.2.1 52))] [] σ
  have hw : ∃ m_2, wbX10_findThousandths_2 post m_2 0 σ := hw
  refine go_iconst (v := 0) C rfl dX10_findThousandths_0 ?_
  refine go_istore_n (lv2 := [(1, .int 0), (0, .ref (G.2.2.1 52))]) C rfl (by rw [hnl]; decide) rfl dX10_findThousandths_1 ?_
  refine go_sub [1, 0] rfl ?_
  obtain ⟨n_0, hw⟩ := hw
  exact (gbX10_findThousandths_2 C hr hR hnl hd hN) n_0 _ _ hw
-- CradleNames$Trails.apartBy(I)I
set_option maxRecDepth 20000 in
set_option maxHeartbeats 4000000 in
theorem gbX10_apartBy_25 {X : XT} {G : GT} {l : Launch} {d : Nat}  {post : Int32 → St → Prop} (C : Cx X G cX10_apartBy RX10) (hr : Rt X G (some .int) (fun v τ => ∃ r : Int32, v = some (.int r) ∧ post r τ)) (hR : Rm X l d) (hnl : X.2.2.2.2.2.2.2.2.2.2.1 = 5)  (hd : 2 ≤ d) (hN : 75 ≤ G.2.2.2.2.2)   
    : ∀ (n : Nat) (v1 : Int32) (v2 : Int32) (v3 : Int32) (v4 : Int32) (σ : St), wbX10_apartBy_25   post n v1 v2 v3 v4 σ → Go X G 25 [(0, .ref (G.2.2.1 52)), (1, .int v1), (2, .int v2), (3, .int v3), (4, .int v4)] [] σ := by
  intro n
  induction n with
  | zero => intro v1 v2 v3 v4 σ hw; exact hw.elim
  | succ n ih =>
    intro v1 v2 v3 v4 σ hw
    have hw : (((v2 * 16) ≤ v4 →
      ¬ v2 = 0 ∧ (
      post (v3 / v2) σ)) ∧
    (¬ (v2 * 16) ≤ v4 →
      vp_in v4 976 ∧ (
      vp_in ((v1 * 16) + v4) 976 ∧ (
      ∀ v3_1 : Int32, v3_1 = (v3 + (if 0 ≤ ((gI σ 55 v4.toNatClampNeg) - (gI σ 56 ((v1 * 16) + v4).toNatClampNeg)) then ((gI σ 55 v4.toNatClampNeg) - (gI σ 56 ((v1 * 16) + v4).toNatClampNeg)) else 0 - ((gI σ 55 v4.toNatClampNeg) - (gI σ 56 ((v1 * 16) + v4).toNatClampNeg)))) →
      ∀ v4_2 : Int32, v4_2 = v4 + 1 →
      wbX10_apartBy_25 post n v1 v2 v3_1 v4_2 σ)))) := hw
    refine go_iload C 4 rfl dX10_apartBy_25 ?_
    refine go_iload_n C 2 rfl rfl dX10_apartBy_27 ?_
    refine go_bipush (v := 16) C rfl dX10_apartBy_28 ?_
    refine go_imul C dX10_apartBy_30 ?_
    refine go_icmp_ge C 66 rfl dX10_apartBy_31 (fun hc => ?_) (fun hc => ?_)
    · replace hw := hw.1 hc
      refine go_iload_n C 3 rfl rfl dX10_apartBy_66 ?_
      refine go_iload_n C 2 rfl rfl dX10_apartBy_67 ?_
      refine go_idiv C hw.1 dX10_apartBy_68 ?_
      replace hw := hw.2
      exact go_iret C hr ⟨_, rfl, hw⟩ dX10_apartBy_69
    · replace hw := hw.2 hc
      refine go_iload_n C 3 rfl rfl dX10_apartBy_34 ?_
      refine go_aload_n C 0 rfl rfl dX10_apartBy_35 ?_
      refine go_get (v := .ref (G.2.2.1 55)) C (shX10 G) (ltX10 hN) lkX10_18 rfl dX10_apartBy_36 ?_
      refine go_iload C 4 rfl dX10_apartBy_39 ?_
      refine go_iald C (saX10_upper G) (laX10_upper hN) hw.1 dX10_apartBy_41 ?_
      replace hw := hw.2
      refine go_aload_n C 0 rfl rfl dX10_apartBy_42 ?_
      refine go_get (v := .ref (G.2.2.1 56)) C (shX10 G) (ltX10 hN) lkX10_21 rfl dX10_apartBy_43 ?_
      refine go_iload_n C 1 rfl rfl dX10_apartBy_46 ?_
      refine go_bipush (v := 16) C rfl dX10_apartBy_47 ?_
      refine go_imul C dX10_apartBy_49 ?_
      refine go_iload C 4 rfl dX10_apartBy_50 ?_
      refine go_iadd C dX10_apartBy_52 ?_
      refine go_iald C (saX10_lower G) (laX10_lower hN) hw.1 dX10_apartBy_53 ?_
      replace hw := hw.2
      refine go_isub C dX10_apartBy_54 ?_
      refine go_mabs (d := 0) C (rm_le hR (Nat.le_trans (by decide) hd)) mlX10_89 (Nat.le_of_ble_eq_true rfl) dX10_apartBy_55 ?_
      refine go_iadd C dX10_apartBy_58 ?_
      refine go_topi (fun v3_1 ev3_1 => ?_)
      replace hw := hw v3_1 ev3_1
      refine go_istore_n (lv2 := [(3, .int v3_1), (0, .ref (G.2.2.1 52)), (1, .int v1), (2, .int v2), (4, .int v4)]) C rfl (by rw [hnl]; decide) rfl dX10_apartBy_59 ?_
      obtain ⟨v4_2, ev4_2⟩ : ∃ z : Int32, z = v4 + 1 := ⟨_, rfl⟩
      replace hw := hw v4_2 ev4_2
      refine go_iinc (v := v4_2) (lv2 := [(4, .int v4_2), (3, .int v3_1), (0, .ref (G.2.2.1 52)), (1, .int v1), (2, .int v2)]) C 4 rfl (by rw [ev4_2]; rfl) (by rw [hnl]; decide) rfl dX10_apartBy_60 ?_
      refine go_goto C 25 rfl dX10_apartBy_63 ?_
      refine go_sub [2, 3, 4, 1, 0] rfl ?_
      exact ih _ _ _ _ _ hw
set_option maxRecDepth 20000 in
set_option maxHeartbeats 4000000 in
theorem spX10_apartBy {l : Launch} {G : GT} {d : Nat}  (hd : 2 ≤ d)  (hN : 75 ≤ G.2.2.2.2.2)  {a1 : Int32} {σ : St} {post : Int32 → St → Prop} (hw : wpX10_apartBy  a1 σ post) : Sp l G d yX10_apartBy cX10_apartBy 5 (some .int) [.ref (G.2.2.1 52), .int a1] σ (fun v τ => ∃ r : Int32, v = some (.int r) ∧ post r τ) := by
  refine Sp.of (by decide) (Nat.le_of_ble_eq_true rfl) fun X C hr hR hnl => ?_
  show Go X G 0 [(0, .ref (G.2.2.1 52)), (1, .int a1)] [] σ
  have hw : ∀ v2_1 : Int32, v2_1 = ((gI σ 9 0) - a1) →
  ((v2_1 ≤ 0 →
    post (-1) σ) ∧
  (¬ v2_1 ≤ 0 →
    ((0 ≤ a1 →
      ∃ m_25, wbX10_apartBy_25 post m_25 a1 v2_1 0 0 σ) ∧
    (¬ 0 ≤ a1 →
      post (-1) σ)))) := hw
  refine go_aload_n C 0 rfl rfl dX10_apartBy_0 ?_
  refine go_get (v := .ref (G.2.2.1 9)) C (shX10 G) (ltX10 hN) lkX10_37 rfl dX10_apartBy_1 ?_
  refine go_get (v := .int (gI σ 9 0)) C (shX4 G) (ltX4 hN) lkX10_57 rfl dX10_apartBy_4 ?_
  refine go_iload_n C 1 rfl rfl dX10_apartBy_7 ?_
  refine go_isub C dX10_apartBy_8 ?_
  refine go_topi (fun v2_1 ev2_1 => ?_)
  replace hw := hw v2_1 ev2_1
  refine go_istore_n (lv2 := [(2, .int v2_1), (0, .ref (G.2.2.1 52)), (1, .int a1)]) C rfl (by rw [hnl]; decide) rfl dX10_apartBy_9 ?_
  refine go_iload_n C 0 rfl rfl dX10_apartBy_10 ?_
  refine go_if_le C 18 rfl dX10_apartBy_11 (fun hc => ?_) (fun hc => ?_)
  · replace hw := hw.1 hc
    refine go_iconst (v := (-1)) C rfl dX10_apartBy_18 ?_
    exact go_iret C hr ⟨_, rfl, hw⟩ dX10_apartBy_19
  · replace hw := hw.2 hc
    refine go_iload_n C 2 rfl rfl dX10_apartBy_14 ?_
    refine go_if_ge C 20 rfl dX10_apartBy_15 (fun hc => ?_) (fun hc => ?_)
    · replace hw := hw.1 hc
      refine go_iconst (v := 0) C rfl dX10_apartBy_20 ?_
      refine go_istore_n (lv2 := [(3, .int 0), (2, .int v2_1), (0, .ref (G.2.2.1 52)), (1, .int a1)]) C rfl (by rw [hnl]; decide) rfl dX10_apartBy_21 ?_
      refine go_iconst (v := 0) C rfl dX10_apartBy_22 ?_
      refine go_istore (lv2 := [(4, .int 0), (3, .int 0), (2, .int v2_1), (0, .ref (G.2.2.1 52)), (1, .int a1)]) C (by rw [hnl]; decide) rfl dX10_apartBy_23 ?_
      refine go_sub [3, 4, 2, 1, 0] rfl ?_
      obtain ⟨n_0, hw⟩ := hw
      exact (gbX10_apartBy_25 C hr hR hnl hd hN) n_0 _ _ _ _ _ hw
    · replace hw := hw.2 hc
      refine go_iconst (v := (-1)) C rfl dX10_apartBy_18 ?_
      exact go_iret C hr ⟨_, rfl, hw⟩ dX10_apartBy_19
-- CradleNames$Trails.leastLag()I
set_option maxRecDepth 20000 in
set_option maxHeartbeats 4000000 in
theorem gbX10_leastLag_6 {X : XT} {G : GT} {l : Launch} {d : Nat}  {post : Int32 → St → Prop} (C : Cx X G cX10_leastLag RX10) (hr : Rt X G (some .int) (fun v τ => ∃ r : Int32, v = some (.int r) ∧ post r τ)) (hR : Rm X l d) (hnl : X.2.2.2.2.2.2.2.2.2.2.1 = 5)  (hd : 3 ≤ d) (hN : 75 ≤ G.2.2.2.2.2)   
    : ∀ (n : Nat) (v1 : Int32) (v2 : Int32) (v3 : Int32) (σ : St), wbX10_leastLag_6   post n v1 v2 v3 σ → Go X G 6 [(0, .ref (G.2.2.1 52)), (1, .int v1), (2, .int v2), (3, .int v3)] [] σ := by
  intro n
  induction n with
  | zero => intro v1 v2 v3 σ hw; exact hw.elim
  | succ n ih =>
    intro v1 v2 v3 σ hw
    have hw : ((20 < v3 →
      post v1 σ) ∧
    (¬ 20 < v3 →
      (((gI σ 9 0) ≤ v3 →
        post v1 σ) ∧
      (¬ (gI σ 9 0) ≤ v3 →
        wpX10_apartBy v3 σ (fun r_1 σ_2 =>
        ((v1 = (-1) →
          ∀ v3_3 : Int32, v3_3 = v3 + 1 →
          wbX10_leastLag_6 post n v3 r_1 v3_3 σ_2) ∧
        (¬ v1 = (-1) →
          ((v2 ≤ r_1 →
            ∀ v3_4 : Int32, v3_4 = v3 + 1 →
            wbX10_leastLag_6 post n v1 v2 v3_4 σ_2) ∧
          (¬ v2 ≤ r_1 →
            ∀ v3_5 : Int32, v3_5 = v3 + 1 →
            wbX10_leastLag_6 post n v3 r_1 v3_5 σ_2))))))))) := hw
    refine go_iload_n C 3 rfl rfl dX10_leastLag_6 ?_
    refine go_bipush (v := 20) C rfl dX10_leastLag_7 ?_
    refine go_icmp_gt C 52 rfl dX10_leastLag_9 (fun hc => ?_) (fun hc => ?_)
    · replace hw := hw.1 hc
      refine go_iload_n C 1 rfl rfl dX10_leastLag_52 ?_
      exact go_iret C hr ⟨_, rfl, hw⟩ dX10_leastLag_53
    · replace hw := hw.2 hc
      refine go_iload_n C 3 rfl rfl dX10_leastLag_12 ?_
      refine go_aload_n C 0 rfl rfl dX10_leastLag_13 ?_
      refine go_get (v := .ref (G.2.2.1 9)) C (shX10 G) (ltX10 hN) lkX10_37 rfl dX10_leastLag_14 ?_
      refine go_get (v := .int (gI σ 9 0)) C (shX4 G) (ltX4 hN) lkX10_57 rfl dX10_leastLag_17 ?_
      refine go_icmp_ge C 52 rfl dX10_leastLag_20 (fun hc => ?_) (fun hc => ?_)
      · replace hw := hw.1 hc
        refine go_iload_n C 1 rfl rfl dX10_leastLag_52 ?_
        exact go_iret C hr ⟨_, rfl, hw⟩ dX10_leastLag_53
      · replace hw := hw.2 hc
        refine go_aload_n C 0 rfl rfl dX10_leastLag_23 ?_
        refine go_iload_n C 3 rfl rfl dX10_leastLag_24 ?_
        refine go_callV (as := [.int v3]) C hR (shX10 G) (ltX10 hN) cwX10_94 (Nat.le_trans (by decide) hd) (by decide) rfl rfl (Nat.le_of_ble_eq_true rfl) dX10_leastLag_25 (spX10_apartBy (Nat.le_refl _) hN hw) (fun v_ τ_ hw => ?_)
        obtain ⟨r_1, rfl, hw⟩ := hw
        obtain ⟨σ_2, rfl⟩ : ∃ z, z = τ_ := ⟨_, rfl⟩
        refine go_istore (lv2 := [(4, .int r_1), (0, .ref (G.2.2.1 52)), (1, .int v1), (2, .int v2), (3, .int v3)]) C (by rw [hnl]; decide) rfl dX10_leastLag_28 ?_
        refine go_iload_n C 2 rfl rfl dX10_leastLag_30 ?_
        refine go_iconst (v := (-1)) C rfl dX10_leastLag_31 ?_
        refine go_icmp_eq C 41 rfl dX10_leastLag_32 (fun hc => ?_) (fun hc => ?_)
        · replace hw := hw.1 hc
          refine go_iload_n C 4 rfl rfl dX10_leastLag_41 ?_
          refine go_istore_n (lv2 := [(1, .int v3), (4, .int r_1), (0, .ref (G.2.2.1 52)), (2, .int v2), (3, .int v3)]) C rfl (by rw [hnl]; decide) rfl dX10_leastLag_42 ?_
          refine go_iload C 1 rfl dX10_leastLag_43 ?_
          refine go_istore_n (lv2 := [(2, .int r_1), (1, .int v3), (4, .int r_1), (0, .ref (G.2.2.1 52)), (3, .int v3)]) C rfl (by rw [hnl]; decide) rfl dX10_leastLag_45 ?_
          obtain ⟨v3_3, ev3_3⟩ : ∃ z : Int32, z = v3 + 1 := ⟨_, rfl⟩
          replace hw := hw v3_3 ev3_3
          refine go_iinc (v := v3_3) (lv2 := [(3, .int v3_3), (2, .int r_1), (1, .int v3), (4, .int r_1), (0, .ref (G.2.2.1 52))]) C 4 rfl (by rw [ev3_3]; rfl) (by rw [hnl]; decide) rfl dX10_leastLag_46 ?_
          refine go_goto C 6 rfl dX10_leastLag_49 ?_
          refine go_sub [4, 2, 1, 0] rfl ?_
          exact ih _ _ _ _ hw
        · replace hw := hw.2 hc
          refine go_iload C 0 rfl dX10_leastLag_35 ?_
          refine go_iload_n C 3 rfl rfl dX10_leastLag_37 ?_
          refine go_icmp_ge C 46 rfl dX10_leastLag_38 (fun hc => ?_) (fun hc => ?_)
          · replace hw := hw.1 hc
            obtain ⟨v3_4, ev3_4⟩ : ∃ z : Int32, z = v3 + 1 := ⟨_, rfl⟩
            replace hw := hw v3_4 ev3_4
            refine go_iinc (v := v3_4) (lv2 := [(3, .int v3_4), (4, .int r_1), (0, .ref (G.2.2.1 52)), (1, .int v1), (2, .int v2)]) C 4 rfl (by rw [ev3_4]; rfl) (by rw [hnl]; decide) rfl dX10_leastLag_46 ?_
            refine go_goto C 6 rfl dX10_leastLag_49 ?_
            refine go_sub [2, 3, 4, 0] rfl ?_
            exact ih _ _ _ _ hw
          · replace hw := hw.2 hc
            refine go_iload_n C 4 rfl rfl dX10_leastLag_41 ?_
            refine go_istore_n (lv2 := [(1, .int v3), (4, .int r_1), (0, .ref (G.2.2.1 52)), (2, .int v2), (3, .int v3)]) C rfl (by rw [hnl]; decide) rfl dX10_leastLag_42 ?_
            refine go_iload C 1 rfl dX10_leastLag_43 ?_
            refine go_istore_n (lv2 := [(2, .int r_1), (1, .int v3), (4, .int r_1), (0, .ref (G.2.2.1 52)), (3, .int v3)]) C rfl (by rw [hnl]; decide) rfl dX10_leastLag_45 ?_
            obtain ⟨v3_5, ev3_5⟩ : ∃ z : Int32, z = v3 + 1 := ⟨_, rfl⟩
            replace hw := hw v3_5 ev3_5
            refine go_iinc (v := v3_5) (lv2 := [(3, .int v3_5), (2, .int r_1), (1, .int v3), (4, .int r_1), (0, .ref (G.2.2.1 52))]) C 4 rfl (by rw [ev3_5]; rfl) (by rw [hnl]; decide) rfl dX10_leastLag_46 ?_
            refine go_goto C 6 rfl dX10_leastLag_49 ?_
            refine go_sub [4, 2, 1, 0] rfl ?_
            exact ih _ _ _ _ hw
set_option maxRecDepth 20000 in
set_option maxHeartbeats 4000000 in
theorem spX10_leastLag {l : Launch} {G : GT} {d : Nat}  (hd : 3 ≤ d)  (hN : 75 ≤ G.2.2.2.2.2)   {σ : St} {post : Int32 → St → Prop} (hw : wpX10_leastLag   σ post) : Sp l G d yX10_leastLag cX10_leastLag 5 (some .int) [.ref (G.2.2.1 52)] σ (fun v τ => ∃ r : Int32, v = some (.int r) ∧ post r τ) := by
  refine Sp.of (by decide) (Nat.le_of_ble_eq_true rfl) fun X C hr hR hnl => ?_
  show Go X G 0 [(0, .ref (G.2.2.1 52))] [] σ
  have hw : ∃ m_6, wbX10_leastLag_6 post m_6 (-1) 0 0 σ := hw
  refine go_iconst (v := (-1)) C rfl dX10_leastLag_0 ?_
  refine go_istore_n (lv2 := [(1, .int (-1)), (0, .ref (G.2.2.1 52))]) C rfl (by rw [hnl]; decide) rfl dX10_leastLag_1 ?_
  refine go_iconst (v := 0) C rfl dX10_leastLag_2 ?_
  refine go_istore_n (lv2 := [(2, .int 0), (1, .int (-1)), (0, .ref (G.2.2.1 52))]) C rfl (by rw [hnl]; decide) rfl dX10_leastLag_3 ?_
  refine go_iconst (v := 0) C rfl dX10_leastLag_4 ?_
  refine go_istore_n (lv2 := [(3, .int 0), (2, .int 0), (1, .int (-1)), (0, .ref (G.2.2.1 52))]) C rfl (by rw [hnl]; decide) rfl dX10_leastLag_5 ?_
  refine go_sub [3, 2, 1, 0] rfl ?_
  obtain ⟨n_0, hw⟩ := hw
  exact (gbX10_leastLag_6 C hr hR hnl hd hN) n_0 _ _ _ _ hw
-- CradleNames$Trails.risenOfEnding(II)I
set_option maxRecDepth 20000 in
set_option maxHeartbeats 4000000 in
theorem gbX10_risenOfEnding_5 {X : XT} {G : GT} {l : Launch} {d : Nat}  {post : Int32 → St → Prop} (C : Cx X G cX10_risenOfEnding RX10) (hr : Rt X G (some .int) (fun v τ => ∃ r : Int32, v = some (.int r) ∧ post r τ)) (hR : Rm X l d) (hnl : X.2.2.2.2.2.2.2.2.2.2.1 = 5)  (hd : 3 ≤ d) (hN : 75 ≤ G.2.2.2.2.2)   
    : ∀ (n : Nat) (v1 : Int32) (v2 : Int32) (v3 : Int32) (v4 : Int32) (σ : St), wbX10_risenOfEnding_5   post n v1 v2 v3 v4 σ → Go X G 5 [(0, .ref (G.2.2.1 52)), (1, .int v1), (2, .int v2), (3, .int v3), (4, .int v4)] [] σ := by
  intro n
  induction n with
  | zero => intro v1 v2 v3 v4 σ hw; exact hw.elim
  | succ n ih =>
    intro v1 v2 v3 v4 σ hw
    have hw : (((gI σ 1 0) ≤ v4 →
      post v3 σ) ∧
    (¬ (gI σ 1 0) ≤ v4 →
      wpX5_sameEnding v4 v1 σ (fun r_1 σ_2 =>
      ((r_1 = 0 →
        ∀ v4_3 : Int32, v4_3 = v4 + 1 →
        wbX10_risenOfEnding_5 post n v1 v2 v3 v4_3 σ_2) ∧
      (¬ r_1 = 0 →
        wpX10_in v4 v2 σ_2 (fun r_4 σ_5 =>
        wpX10_in v4 (v2 - 1) σ_5 (fun r_6 σ_7 =>
        ((r_4 ≤ r_6 →
          ∀ v4_8 : Int32, v4_8 = v4 + 1 →
          wbX10_risenOfEnding_5 post n v1 v2 v3 v4_8 σ_7) ∧
        (¬ r_4 ≤ r_6 →
          ∀ v3_9 : Int32, v3_9 = v3 + 1 →
          ∀ v4_10 : Int32, v4_10 = v4 + 1 →
          wbX10_risenOfEnding_5 post n v1 v2 v3_9 v4_10 σ_7))))))))) := hw
    refine go_iload C 4 rfl dX10_risenOfEnding_5 ?_
    refine go_aload_n C 0 rfl rfl dX10_risenOfEnding_7 ?_
    refine go_get (v := .ref (G.2.2.1 1)) C (shX10 G) (ltX10 hN) lkX10_33 rfl dX10_risenOfEnding_8 ?_
    refine go_get (v := .int (gI σ 1 0)) C (shX5 G) (ltX5 hN) lkX10_68 rfl dX10_risenOfEnding_11 ?_
    refine go_icmp_ge C 58 rfl dX10_risenOfEnding_14 (fun hc => ?_) (fun hc => ?_)
    · replace hw := hw.1 hc
      refine go_iload_n C 3 rfl rfl dX10_risenOfEnding_58 ?_
      exact go_iret C hr ⟨_, rfl, hw⟩ dX10_risenOfEnding_59
    · replace hw := hw.2 hc
      refine go_aload_n C 0 rfl rfl dX10_risenOfEnding_17 ?_
      refine go_get (v := .ref (G.2.2.1 1)) C (shX10 G) (ltX10 hN) lkX10_33 rfl dX10_risenOfEnding_18 ?_
      refine go_iload C 4 rfl dX10_risenOfEnding_21 ?_
      refine go_iload_n C 1 rfl rfl dX10_risenOfEnding_23 ?_
      refine go_callV (as := [.int v4, .int v1]) C hR (shX5 G) (ltX5 hN) cwX10_97 (Nat.le_trans (by decide) hd) (by decide) rfl rfl (Nat.le_of_ble_eq_true rfl) dX10_risenOfEnding_24 (spX5_sameEnding (Nat.le_refl _) hN hw) (fun v_ τ_ hw => ?_)
      obtain ⟨r_1, rfl, hw⟩ := hw
      obtain ⟨σ_2, rfl⟩ : ∃ z, z = τ_ := ⟨_, rfl⟩
      refine go_if_eq C 52 rfl dX10_risenOfEnding_27 (fun hc => ?_) (fun hc => ?_)
      · replace hw := hw.1 hc
        obtain ⟨v4_3, ev4_3⟩ : ∃ z : Int32, z = v4 + 1 := ⟨_, rfl⟩
        replace hw := hw v4_3 ev4_3
        refine go_iinc (v := v4_3) (lv2 := [(4, .int v4_3), (0, .ref (G.2.2.1 52)), (1, .int v1), (2, .int v2), (3, .int v3)]) C 4 rfl (by rw [ev4_3]; rfl) (by rw [hnl]; decide) rfl dX10_risenOfEnding_52 ?_
        refine go_goto C 5 rfl dX10_risenOfEnding_55 ?_
        refine go_sub [1, 2, 3, 4, 0] rfl ?_
        exact ih _ _ _ _ _ hw
      · replace hw := hw.2 hc
        refine go_aload_n C 0 rfl rfl dX10_risenOfEnding_30 ?_
        refine go_iload C 4 rfl dX10_risenOfEnding_31 ?_
        refine go_iload_n C 2 rfl rfl dX10_risenOfEnding_33 ?_
        refine go_callV (as := [.int v4, .int v2]) C hR (shX10 G) (ltX10 hN) cwX10_60 (Nat.le_trans (by decide) hd) (by decide) rfl rfl (Nat.le_of_ble_eq_true rfl) dX10_risenOfEnding_34 (spX10_in (Nat.le_refl _) hN hw) (fun v_ τ_ hw => ?_)
        obtain ⟨r_4, rfl, hw⟩ := hw
        obtain ⟨σ_5, rfl⟩ : ∃ z, z = τ_ := ⟨_, rfl⟩
        refine go_aload_n C 0 rfl rfl dX10_risenOfEnding_37 ?_
        refine go_iload C 4 rfl dX10_risenOfEnding_38 ?_
        refine go_iload_n C 2 rfl rfl dX10_risenOfEnding_40 ?_
        refine go_iconst (v := 1) C rfl dX10_risenOfEnding_41 ?_
        refine go_isub C dX10_risenOfEnding_42 ?_
        refine go_callV (as := [.int v4, .int (v2 - 1)]) C hR (shX10 G) (ltX10 hN) cwX10_60 (Nat.le_trans (by decide) hd) (by decide) rfl rfl (Nat.le_of_ble_eq_true rfl) dX10_risenOfEnding_43 (spX10_in (Nat.le_refl _) hN hw) (fun v_ τ_ hw => ?_)
        obtain ⟨r_6, rfl, hw⟩ := hw
        obtain ⟨σ_7, rfl⟩ : ∃ z, z = τ_ := ⟨_, rfl⟩
        refine go_icmp_le C 52 rfl dX10_risenOfEnding_46 (fun hc => ?_) (fun hc => ?_)
        · replace hw := hw.1 hc
          obtain ⟨v4_8, ev4_8⟩ : ∃ z : Int32, z = v4 + 1 := ⟨_, rfl⟩
          replace hw := hw v4_8 ev4_8
          refine go_iinc (v := v4_8) (lv2 := [(4, .int v4_8), (0, .ref (G.2.2.1 52)), (1, .int v1), (2, .int v2), (3, .int v3)]) C 4 rfl (by rw [ev4_8]; rfl) (by rw [hnl]; decide) rfl dX10_risenOfEnding_52 ?_
          refine go_goto C 5 rfl dX10_risenOfEnding_55 ?_
          refine go_sub [1, 2, 3, 4, 0] rfl ?_
          exact ih _ _ _ _ _ hw
        · replace hw := hw.2 hc
          obtain ⟨v3_9, ev3_9⟩ : ∃ z : Int32, z = v3 + 1 := ⟨_, rfl⟩
          replace hw := hw v3_9 ev3_9
          refine go_iinc (v := v3_9) (lv2 := [(3, .int v3_9), (0, .ref (G.2.2.1 52)), (1, .int v1), (2, .int v2), (4, .int v4)]) C 3 rfl (by rw [ev3_9]; rfl) (by rw [hnl]; decide) rfl dX10_risenOfEnding_49 ?_
          obtain ⟨v4_10, ev4_10⟩ : ∃ z : Int32, z = v4 + 1 := ⟨_, rfl⟩
          replace hw := hw v4_10 ev4_10
          refine go_iinc (v := v4_10) (lv2 := [(4, .int v4_10), (3, .int v3_9), (0, .ref (G.2.2.1 52)), (1, .int v1), (2, .int v2)]) C 4 rfl (by rw [ev4_10]; rfl) (by rw [hnl]; decide) rfl dX10_risenOfEnding_52 ?_
          refine go_goto C 5 rfl dX10_risenOfEnding_55 ?_
          refine go_sub [2, 3, 4, 1, 0] rfl ?_
          exact ih _ _ _ _ _ hw
set_option maxRecDepth 20000 in
set_option maxHeartbeats 4000000 in
theorem spX10_risenOfEnding {l : Launch} {G : GT} {d : Nat}  (hd : 3 ≤ d)  (hN : 75 ≤ G.2.2.2.2.2)  {a1 : Int32} {a2 : Int32} {σ : St} {post : Int32 → St → Prop} (hw : wpX10_risenOfEnding  a1 a2 σ post) : Sp l G d yX10_risenOfEnding cX10_risenOfEnding 5 (some .int) [.ref (G.2.2.1 52), .int a1, .int a2] σ (fun v τ => ∃ r : Int32, v = some (.int r) ∧ post r τ) := by
  refine Sp.of (by decide) (Nat.le_of_ble_eq_true rfl) fun X C hr hR hnl => ?_
  show Go X G 0 [(0, .ref (G.2.2.1 52)), (1, .int a1), (2, .int a2)] [] σ
  have hw : ∃ m_5, wbX10_risenOfEnding_5 post m_5 a1 a2 0 0 σ := hw
  refine go_iconst (v := 0) C rfl dX10_risenOfEnding_0 ?_
  refine go_istore_n (lv2 := [(3, .int 0), (0, .ref (G.2.2.1 52)), (1, .int a1), (2, .int a2)]) C rfl (by rw [hnl]; decide) rfl dX10_risenOfEnding_1 ?_
  refine go_iconst (v := 0) C rfl dX10_risenOfEnding_2 ?_
  refine go_istore (lv2 := [(4, .int 0), (3, .int 0), (0, .ref (G.2.2.1 52)), (1, .int a1), (2, .int a2)]) C (by rw [hnl]; decide) rfl dX10_risenOfEnding_3 ?_
  refine go_sub [2, 3, 4, 1, 0] rfl ?_
  obtain ⟨n_0, hw⟩ := hw
  exact (gbX10_risenOfEnding_5 C hr hR hnl hd hN) n_0 _ _ _ _ _ hw
-- CradleNames$Trails.girlsMore(II)I
set_option maxRecDepth 20000 in
set_option maxHeartbeats 4000000 in
theorem spX10_girlsMore {l : Launch} {G : GT} {d : Nat}  (hd : 3 ≤ d)  (hN : 75 ≤ G.2.2.2.2.2)  {a1 : Int32} {a2 : Int32} {σ : St} {post : Int32 → St → Prop} (hw : wpX10_girlsMore  a1 a2 σ post) : Sp l G d yX10_girlsMore cX10_girlsMore 3 (some .int) [.ref (G.2.2.1 52), .int a1, .int a2] σ (fun v τ => ∃ r : Int32, v = some (.int r) ∧ post r τ) := by
  refine Sp.of (by decide) (Nat.le_of_ble_eq_true rfl) fun X C hr hR hnl => ?_
  show Go X G 0 [(0, .ref (G.2.2.1 52)), (1, .int a1), (2, .int a2)] [] σ
  have hw : wpX0_between 0 5 a1 a2 a2 σ (fun r_1 σ_2 =>
  wpX10_in a1 a2 σ_2 (fun r_3 σ_4 =>
  post ((2 * r_1) - r_3) σ_4)) := hw
  refine go_iconst (v := 2) C rfl dX10_girlsMore_0 ?_
  refine go_aload_n C 0 rfl rfl dX10_girlsMore_1 ?_
  refine go_get (v := .ref (G.2.2.1 (21 + 4 * 0))) C (shX10 G) (ltX10 hN) lkX10_41 rfl dX10_girlsMore_2 ?_
  refine go_iconst (v := 5) C rfl dX10_girlsMore_5 ?_
  refine go_iload_n C 1 rfl rfl dX10_girlsMore_6 ?_
  refine go_iload_n C 2 rfl rfl dX10_girlsMore_7 ?_
  refine go_iload_n C 2 rfl rfl dX10_girlsMore_8 ?_
  refine go_callV (as := [.int 5, .int a1, .int a2, .int a2]) C hR (shX0 G (show 0 < 2 by decide)) (ltX0 hN (show 0 < 2 by decide)) cwX10_45 (Nat.le_trans (by decide) hd) (by decide) rfl rfl (Nat.le_of_ble_eq_true rfl) dX10_girlsMore_9 (spX0_between (Nat.le_refl _) hN (show 0 < 2 by decide) hw) (fun v_ τ_ hw => ?_)
  obtain ⟨r_1, rfl, hw⟩ := hw
  obtain ⟨σ_2, rfl⟩ : ∃ z, z = τ_ := ⟨_, rfl⟩
  refine go_imul C dX10_girlsMore_12 ?_
  refine go_aload_n C 0 rfl rfl dX10_girlsMore_13 ?_
  refine go_iload_n C 1 rfl rfl dX10_girlsMore_14 ?_
  refine go_iload_n C 2 rfl rfl dX10_girlsMore_15 ?_
  refine go_callV (as := [.int a1, .int a2]) C hR (shX10 G) (ltX10 hN) cwX10_60 (Nat.le_trans (by decide) hd) (by decide) rfl rfl (Nat.le_of_ble_eq_true rfl) dX10_girlsMore_16 (spX10_in (Nat.le_refl _) hN hw) (fun v_ τ_ hw => ?_)
  obtain ⟨r_3, rfl, hw⟩ := hw
  obtain ⟨σ_4, rfl⟩ : ∃ z, z = τ_ := ⟨_, rfl⟩
  refine go_isub C dX10_girlsMore_19 ?_
  exact go_iret C hr ⟨_, rfl, hw⟩ dX10_girlsMore_20
-- CradleNames$Trails.crossing(I)I
set_option maxRecDepth 20000 in
set_option maxHeartbeats 4000000 in
theorem gbX10_crossing_48 {X : XT} {G : GT} {l : Launch} {d : Nat}  {post : Int32 → St → Prop} (C : Cx X G cX10_crossing RX10) (hr : Rt X G (some .int) (fun v τ => ∃ r : Int32, v = some (.int r) ∧ post r τ)) (hR : Rm X l d) (hnl : X.2.2.2.2.2.2.2.2.2.2.1 = 5)  (hd : 4 ≤ d) (hN : 75 ≤ G.2.2.2.2.2)  {K5 : Int32 → Int32 → Int32 → St → Prop} (hK5 : ∀ (v1 : Int32) (v2 : Int32) (v3 : Int32) (σ : St), K5 v1 v2 v3 σ → Go X G 5 [(0, .ref (G.2.2.1 52)), (1, .int v1), (2, .int v2), (3, .int v3)] [] σ)
    : ∀ (v1 : Int32) (v2 : Int32) (v3 : Int32) (v4 : Int32) (σ : St), wbX10_crossing_48  K5 post v1 v2 v3 v4 σ → Go X G 48 [(0, .ref (G.2.2.1 52)), (1, .int v1), (2, .int v2), (3, .int v3), (4, .int v4)] [] σ := by
  intro v1 v2 v3 v4 σ hw
  have hw : ((¬ v2 = 0 →
    ∀ v3_1 : Int32, v3_1 = v3 + 1 →
    K5 v1 1 v3_1 σ) ∧
  (v2 = 0 →
    ((0 ≤ v4 →
      ∀ v3_2 : Int32, v3_2 = v3 + 1 →
      K5 v1 0 v3_2 σ) ∧
    (¬ 0 ≤ v4 →
      ∀ v3_3 : Int32, v3_3 = v3 + 1 →
      K5 v1 1 v3_3 σ)))) := hw
  refine go_iload_n C 2 rfl rfl dX10_crossing_48 ?_
  refine go_if_ne C 57 rfl dX10_crossing_49 (fun hc => ?_) (fun hc => ?_)
  · replace hw := hw.1 hc
    refine go_iconst (v := 1) C rfl dX10_crossing_57 ?_
    refine go_goto C 62 rfl dX10_crossing_58 ?_
    refine go_istore_n (lv2 := [(2, .int 1), (0, .ref (G.2.2.1 52)), (1, .int v1), (3, .int v3), (4, .int v4)]) C rfl (by rw [hnl]; decide) rfl dX10_crossing_62 ?_
    obtain ⟨v3_1, ev3_1⟩ : ∃ z : Int32, z = v3 + 1 := ⟨_, rfl⟩
    replace hw := hw v3_1 ev3_1
    refine go_iinc (v := v3_1) (lv2 := [(3, .int v3_1), (2, .int 1), (0, .ref (G.2.2.1 52)), (1, .int v1), (4, .int v4)]) C 3 rfl (by rw [ev3_1]; rfl) (by rw [hnl]; decide) rfl dX10_crossing_63 ?_
    refine go_goto C 5 rfl dX10_crossing_66 ?_
    refine go_sub [2, 3, 1, 0] rfl ?_
    exact hK5 _ _ _ _ hw
  · replace hw := hw.2 hc
    refine go_iload C 4 rfl dX10_crossing_52 ?_
    refine go_if_ge C 61 rfl dX10_crossing_54 (fun hc => ?_) (fun hc => ?_)
    · replace hw := hw.1 hc
      refine go_iconst (v := 0) C rfl dX10_crossing_61 ?_
      refine go_istore_n (lv2 := [(2, .int 0), (0, .ref (G.2.2.1 52)), (1, .int v1), (3, .int v3), (4, .int v4)]) C rfl (by rw [hnl]; decide) rfl dX10_crossing_62 ?_
      obtain ⟨v3_2, ev3_2⟩ : ∃ z : Int32, z = v3 + 1 := ⟨_, rfl⟩
      replace hw := hw v3_2 ev3_2
      refine go_iinc (v := v3_2) (lv2 := [(3, .int v3_2), (2, .int 0), (0, .ref (G.2.2.1 52)), (1, .int v1), (4, .int v4)]) C 3 rfl (by rw [ev3_2]; rfl) (by rw [hnl]; decide) rfl dX10_crossing_63 ?_
      refine go_goto C 5 rfl dX10_crossing_66 ?_
      refine go_sub [2, 3, 1, 0] rfl ?_
      exact hK5 _ _ _ _ hw
    · replace hw := hw.2 hc
      refine go_iconst (v := 1) C rfl dX10_crossing_57 ?_
      refine go_goto C 62 rfl dX10_crossing_58 ?_
      refine go_istore_n (lv2 := [(2, .int 1), (0, .ref (G.2.2.1 52)), (1, .int v1), (3, .int v3), (4, .int v4)]) C rfl (by rw [hnl]; decide) rfl dX10_crossing_62 ?_
      obtain ⟨v3_3, ev3_3⟩ : ∃ z : Int32, z = v3 + 1 := ⟨_, rfl⟩
      replace hw := hw v3_3 ev3_3
      refine go_iinc (v := v3_3) (lv2 := [(3, .int v3_3), (2, .int 1), (0, .ref (G.2.2.1 52)), (1, .int v1), (4, .int v4)]) C 3 rfl (by rw [ev3_3]; rfl) (by rw [hnl]; decide) rfl dX10_crossing_63 ?_
      refine go_goto C 5 rfl dX10_crossing_66 ?_
      refine go_sub [2, 3, 1, 0] rfl ?_
      exact hK5 _ _ _ _ hw
set_option maxRecDepth 20000 in
set_option maxHeartbeats 4000000 in
theorem gbX10_crossing_5 {X : XT} {G : GT} {l : Launch} {d : Nat}  {post : Int32 → St → Prop} (C : Cx X G cX10_crossing RX10) (hr : Rt X G (some .int) (fun v τ => ∃ r : Int32, v = some (.int r) ∧ post r τ)) (hR : Rm X l d) (hnl : X.2.2.2.2.2.2.2.2.2.2.1 = 5)  (hd : 4 ≤ d) (hN : 75 ≤ G.2.2.2.2.2)   
    : ∀ (n : Nat) (v1 : Int32) (v2 : Int32) (v3 : Int32) (σ : St), wbX10_crossing_5   post n v1 v2 v3 σ → Go X G 5 [(0, .ref (G.2.2.1 52)), (1, .int v1), (2, .int v2), (3, .int v3)] [] σ := by
  intro n
  induction n with
  | zero => intro v1 v2 v3 σ hw; exact hw.elim
  | succ n ih =>
    intro v1 v2 v3 σ hw
    have hw : (((gI σ 9 0) ≤ v3 →
      post (-1) σ) ∧
    (¬ (gI σ 9 0) ≤ v3 →
      wpX10_girlsMore v1 v3 σ (fun r_1 σ_2 =>
      ((v3 < 0 →
        wbX10_crossing_48 (wbX10_crossing_5 post n) post v1 v2 v3 r_1 σ_2) ∧
      (¬ v3 < 0 →
        ((v2 = 0 →
          wbX10_crossing_48 (wbX10_crossing_5 post n) post v1 v2 v3 r_1 σ_2) ∧
        (¬ v2 = 0 →
          ((r_1 < 0 →
            wbX10_crossing_48 (wbX10_crossing_5 post n) post v1 v2 v3 r_1 σ_2) ∧
          (¬ r_1 < 0 →
            wpX10_in v1 v3 σ_2 (fun r_3 σ_4 =>
            ((r_3 ≤ 0 →
              wbX10_crossing_48 (wbX10_crossing_5 post n) post v1 v2 v3 r_1 σ_4) ∧
            (¬ r_3 ≤ 0 →
              post v3 σ_4)))))))))))) := hw
    refine go_iload_n C 3 rfl rfl dX10_crossing_5 ?_
    refine go_aload_n C 0 rfl rfl dX10_crossing_6 ?_
    refine go_get (v := .ref (G.2.2.1 9)) C (shX10 G) (ltX10 hN) lkX10_37 rfl dX10_crossing_7 ?_
    refine go_get (v := .int (gI σ 9 0)) C (shX4 G) (ltX4 hN) lkX10_57 rfl dX10_crossing_10 ?_
    refine go_icmp_ge C 69 rfl dX10_crossing_13 (fun hc => ?_) (fun hc => ?_)
    · replace hw := hw.1 hc
      refine go_iconst (v := (-1)) C rfl dX10_crossing_69 ?_
      exact go_iret C hr ⟨_, rfl, hw⟩ dX10_crossing_70
    · replace hw := hw.2 hc
      refine go_aload_n C 0 rfl rfl dX10_crossing_16 ?_
      refine go_iload_n C 1 rfl rfl dX10_crossing_17 ?_
      refine go_iload_n C 3 rfl rfl dX10_crossing_18 ?_
      refine go_callV (as := [.int v1, .int v3]) C hR (shX10 G) (ltX10 hN) cwX10_101 (Nat.le_trans (by decide) hd) (by decide) rfl rfl (Nat.le_of_ble_eq_true rfl) dX10_crossing_19 (spX10_girlsMore (Nat.le_refl _) hN hw) (fun v_ τ_ hw => ?_)
      obtain ⟨r_1, rfl, hw⟩ := hw
      obtain ⟨σ_2, rfl⟩ : ∃ z, z = τ_ := ⟨_, rfl⟩
      refine go_istore (lv2 := [(4, .int r_1), (0, .ref (G.2.2.1 52)), (1, .int v1), (2, .int v2), (3, .int v3)]) C (by rw [hnl]; decide) rfl dX10_crossing_22 ?_
      refine go_iload_n C 4 rfl rfl dX10_crossing_24 ?_
      refine go_if_lt C 48 rfl dX10_crossing_25 (fun hc => ?_) (fun hc => ?_)
      · replace hw := hw.1 hc
        refine go_sub [1, 2, 3, 4, 0] rfl ?_
        exact (gbX10_crossing_48 C hr hR hnl hd hN ih) _ _ _ _ _ hw
      · replace hw := hw.2 hc
        refine go_iload_n C 3 rfl rfl dX10_crossing_28 ?_
        refine go_if_eq C 48 rfl dX10_crossing_29 (fun hc => ?_) (fun hc => ?_)
        · replace hw := hw.1 hc
          refine go_sub [1, 2, 3, 4, 0] rfl ?_
          exact (gbX10_crossing_48 C hr hR hnl hd hN ih) _ _ _ _ _ hw
        · replace hw := hw.2 hc
          refine go_iload C 0 rfl dX10_crossing_32 ?_
          refine go_if_lt C 48 rfl dX10_crossing_34 (fun hc => ?_) (fun hc => ?_)
          · replace hw := hw.1 hc
            refine go_sub [1, 2, 3, 4, 0] rfl ?_
            exact (gbX10_crossing_48 C hr hR hnl hd hN ih) _ _ _ _ _ hw
          · replace hw := hw.2 hc
            refine go_aload_n C 1 rfl rfl dX10_crossing_37 ?_
            refine go_iload_n C 2 rfl rfl dX10_crossing_38 ?_
            refine go_iload_n C 4 rfl rfl dX10_crossing_39 ?_
            refine go_callV (as := [.int v1, .int v3]) C hR (shX10 G) (ltX10 hN) cwX10_60 (Nat.le_trans (by decide) hd) (by decide) rfl rfl (Nat.le_of_ble_eq_true rfl) dX10_crossing_40 (spX10_in (Nat.le_refl _) hN hw) (fun v_ τ_ hw => ?_)
            obtain ⟨r_3, rfl, hw⟩ := hw
            obtain ⟨σ_4, rfl⟩ : ∃ z, z = τ_ := ⟨_, rfl⟩
            refine go_if_le C 48 rfl dX10_crossing_43 (fun hc => ?_) (fun hc => ?_)
            · replace hw := hw.1 hc
              refine go_sub [1, 2, 3, 4, 0] rfl ?_
              exact (gbX10_crossing_48 C hr hR hnl hd hN ih) _ _ _ _ _ hw
            · replace hw := hw.2 hc
              refine go_iload_n C 4 rfl rfl dX10_crossing_46 ?_
              exact go_iret C hr ⟨_, rfl, hw⟩ dX10_crossing_47
set_option maxRecDepth 20000 in
set_option maxHeartbeats 4000000 in
theorem spX10_crossing {l : Launch} {G : GT} {d : Nat}  (hd : 4 ≤ d)  (hN : 75 ≤ G.2.2.2.2.2)  {a1 : Int32} {σ : St} {post : Int32 → St → Prop} (hw : wpX10_crossing  a1 σ post) : Sp l G d yX10_crossing cX10_crossing 5 (some .int) [.ref (G.2.2.1 52), .int a1] σ (fun v τ => ∃ r : Int32, v = some (.int r) ∧ post r τ) := by
  refine Sp.of (by decide) (Nat.le_of_ble_eq_true rfl) fun X C hr hR hnl => ?_
  show Go X G 0 [(0, .ref (G.2.2.1 52)), (1, .int a1)] [] σ
  have hw : ∃ m_5, wbX10_crossing_5 post m_5 a1 0 (-40) σ := hw
  refine go_iconst (v := 0) C rfl dX10_crossing_0 ?_
  refine go_istore_n (lv2 := [(2, .int 0), (0, .ref (G.2.2.1 52)), (1, .int a1)]) C rfl (by rw [hnl]; decide) rfl dX10_crossing_1 ?_
  refine go_bipush (v := (-40)) C rfl dX10_crossing_2 ?_
  refine go_istore_n (lv2 := [(3, .int (-40)), (2, .int 0), (0, .ref (G.2.2.1 52)), (1, .int a1)]) C rfl (by rw [hnl]; decide) rfl dX10_crossing_4 ?_
  refine go_sub [2, 3, 1, 0] rfl ?_
  obtain ⟨n_0, hw⟩ := hw
  exact (gbX10_crossing_5 C hr hR hnl hd hN) n_0 _ _ _ _ hw
-- CradleNames$Trails.boysAgain(II)Z
set_option maxRecDepth 20000 in
set_option maxHeartbeats 4000000 in
theorem gbX10_boysAgain_4 {X : XT} {G : GT} {l : Launch} {d : Nat}  {post : Int32 → St → Prop} (C : Cx X G cX10_boysAgain RX10) (hr : Rt X G (some .boolean) (fun v τ => ∃ r : Int32, v = some (.int r) ∧ post r τ)) (hR : Rm X l d) (hnl : X.2.2.2.2.2.2.2.2.2.2.1 = 4)  (hd : 4 ≤ d) (hN : 75 ≤ G.2.2.2.2.2)   
    : ∀ (n : Nat) (v1 : Int32) (v3 : Int32) (σ : St), wbX10_boysAgain_4   post n v1 v3 σ → Go X G 4 [(0, .ref (G.2.2.1 52)), (1, .int v1), (3, .int v3)] [] σ := by
  intro n
  induction n with
  | zero => intro v1 v3 σ hw; exact hw.elim
  | succ n ih =>
    intro v1 v3 σ hw
    have hw : (((gI σ 9 0) ≤ v3 →
      post 0 σ) ∧
    (¬ (gI σ 9 0) ≤ v3 →
      wpX10_girlsMore v1 v3 σ (fun r_1 σ_2 =>
      ((0 ≤ r_1 →
        ∀ v3_3 : Int32, v3_3 = v3 + 1 →
        wbX10_boysAgain_4 post n v1 v3_3 σ_2) ∧
      (¬ 0 ≤ r_1 →
        post 1 σ_2))))) := hw
    refine go_iload_n C 2 rfl rfl dX10_boysAgain_4 ?_
    refine go_aload_n C 0 rfl rfl dX10_boysAgain_5 ?_
    refine go_get (v := .ref (G.2.2.1 9)) C (shX10 G) (ltX10 hN) lkX10_37 rfl dX10_boysAgain_6 ?_
    refine go_get (v := .int (gI σ 9 0)) C (shX4 G) (ltX4 hN) lkX10_57 rfl dX10_boysAgain_9 ?_
    refine go_icmp_ge C 32 rfl dX10_boysAgain_12 (fun hc => ?_) (fun hc => ?_)
    · replace hw := hw.1 hc
      refine go_iconst (v := 0) C rfl dX10_boysAgain_32 ?_
      exact go_zret C hr rfl ⟨_, rfl, hw⟩ dX10_boysAgain_33
    · replace hw := hw.2 hc
      refine go_aload_n C 0 rfl rfl dX10_boysAgain_15 ?_
      refine go_iload_n C 1 rfl rfl dX10_boysAgain_16 ?_
      refine go_iload_n C 2 rfl rfl dX10_boysAgain_17 ?_
      refine go_callV (as := [.int v1, .int v3]) C hR (shX10 G) (ltX10 hN) cwX10_101 (Nat.le_trans (by decide) hd) (by decide) rfl rfl (Nat.le_of_ble_eq_true rfl) dX10_boysAgain_18 (spX10_girlsMore (Nat.le_refl _) hN hw) (fun v_ τ_ hw => ?_)
      obtain ⟨r_1, rfl, hw⟩ := hw
      obtain ⟨σ_2, rfl⟩ : ∃ z, z = τ_ := ⟨_, rfl⟩
      refine go_if_ge C 26 rfl dX10_boysAgain_21 (fun hc => ?_) (fun hc => ?_)
      · replace hw := hw.1 hc
        obtain ⟨v3_3, ev3_3⟩ : ∃ z : Int32, z = v3 + 1 := ⟨_, rfl⟩
        replace hw := hw v3_3 ev3_3
        refine go_iinc (v := v3_3) (lv2 := [(3, .int v3_3), (0, .ref (G.2.2.1 52)), (1, .int v1)]) C 2 rfl (by rw [ev3_3]; rfl) (by rw [hnl]; decide) rfl dX10_boysAgain_26 ?_
        refine go_goto C 4 rfl dX10_boysAgain_29 ?_
        refine go_sub [1, 2, 0] rfl ?_
        exact ih _ _ _ hw
      · replace hw := hw.2 hc
        refine go_iconst (v := 1) C rfl dX10_boysAgain_24 ?_
        exact go_zret C hr rfl ⟨_, rfl, hw⟩ dX10_boysAgain_25
set_option maxRecDepth 20000 in
set_option maxHeartbeats 4000000 in
theorem spX10_boysAgain {l : Launch} {G : GT} {d : Nat}  (hd : 4 ≤ d)  (hN : 75 ≤ G.2.2.2.2.2)  {a1 : Int32} {a2 : Int32} {σ : St} {post : Int32 → St → Prop} (hw : wpX10_boysAgain  a1 a2 σ post) : Sp l G d yX10_boysAgain cX10_boysAgain 4 (some .boolean) [.ref (G.2.2.1 52), .int a1, .int a2] σ (fun v τ => ∃ r : Int32, v = some (.int r) ∧ post r τ) := by
  refine Sp.of (by decide) (Nat.le_of_ble_eq_true rfl) fun X C hr hR hnl => ?_
  show Go X G 0 [(0, .ref (G.2.2.1 52)), (1, .int a1), (2, .int a2)] [] σ
  have hw : ∀ v3_1 : Int32, v3_1 = (a2 + 1) →
  ∃ m_4, wbX10_boysAgain_4 post m_4 a1 v3_1 σ := hw
  refine go_iload_n C 2 rfl rfl dX10_boysAgain_0 ?_
  refine go_iconst (v := 1) C rfl dX10_boysAgain_1 ?_
  refine go_iadd C dX10_boysAgain_2 ?_
  refine go_topi (fun v3_1 ev3_1 => ?_)
  replace hw := hw v3_1 ev3_1
  refine go_istore_n (lv2 := [(3, .int v3_1), (0, .ref (G.2.2.1 52)), (1, .int a1), (2, .int a2)]) C rfl (by rw [hnl]; decide) rfl dX10_boysAgain_3 ?_
  refine go_sub [1, 2, 0] rfl ?_
  obtain ⟨n_0, hw⟩ := hw
  exact (gbX10_boysAgain_4 C hr hR hnl hd hN) n_0 _ _ _ hw
-- CradleNames$Trails.emptyAhead(II)I
set_option maxRecDepth 20000 in
set_option maxHeartbeats 4000000 in
theorem gbX10_emptyAhead_7 {X : XT} {G : GT} {l : Launch} {d : Nat}  {post : Int32 → St → Prop} (C : Cx X G cX10_emptyAhead RX10) (hr : Rt X G (some .int) (fun v τ => ∃ r : Int32, v = some (.int r) ∧ post r τ)) (hR : Rm X l d) (hnl : X.2.2.2.2.2.2.2.2.2.2.1 = 5)  (hd : 3 ≤ d) (hN : 75 ≤ G.2.2.2.2.2)   
    : ∀ (n : Nat) (v1 : Int32) (v3 : Int32) (v4 : Int32) (σ : St), wbX10_emptyAhead_7   post n v1 v3 v4 σ → Go X G 7 [(0, .ref (G.2.2.1 52)), (1, .int v1), (3, .int v3), (4, .int v4)] [] σ := by
  intro n
  induction n with
  | zero => intro v1 v3 v4 σ hw; exact hw.elim
  | succ n ih =>
    intro v1 v3 v4 σ hw
    have hw : ((v4 < (-40) →
      post v3 σ) ∧
    (¬ v4 < (-40) →
      wpX10_in v1 v4 σ (fun r_1 σ_2 =>
      ((¬ r_1 = 0 →
        post v3 σ_2) ∧
      (r_1 = 0 →
        ∀ v3_3 : Int32, v3_3 = v3 + 1 →
        ∀ v4_4 : Int32, v4_4 = v4 + (-1) →
        wbX10_emptyAhead_7 post n v1 v3_3 v4_4 σ_2))))) := hw
    refine go_iload C 3 rfl dX10_emptyAhead_7 ?_
    refine go_bipush (v := (-40)) C rfl dX10_emptyAhead_9 ?_
    refine go_icmp_lt C 33 rfl dX10_emptyAhead_11 (fun hc => ?_) (fun hc => ?_)
    · replace hw := hw.1 hc
      refine go_iload_n C 2 rfl rfl dX10_emptyAhead_33 ?_
      exact go_iret C hr ⟨_, rfl, hw⟩ dX10_emptyAhead_34
    · replace hw := hw.2 hc
      refine go_aload_n C 0 rfl rfl dX10_emptyAhead_14 ?_
      refine go_iload_n C 1 rfl rfl dX10_emptyAhead_15 ?_
      refine go_iload C 3 rfl dX10_emptyAhead_16 ?_
      refine go_callV (as := [.int v1, .int v4]) C hR (shX10 G) (ltX10 hN) cwX10_60 (Nat.le_trans (by decide) hd) (by decide) rfl rfl (Nat.le_of_ble_eq_true rfl) dX10_emptyAhead_18 (spX10_in (Nat.le_refl _) hN hw) (fun v_ τ_ hw => ?_)
      obtain ⟨r_1, rfl, hw⟩ := hw
      obtain ⟨σ_2, rfl⟩ : ∃ z, z = τ_ := ⟨_, rfl⟩
      refine go_if_ne C 33 rfl dX10_emptyAhead_21 (fun hc => ?_) (fun hc => ?_)
      · replace hw := hw.1 hc
        refine go_iload_n C 2 rfl rfl dX10_emptyAhead_33 ?_
        exact go_iret C hr ⟨_, rfl, hw⟩ dX10_emptyAhead_34
      · replace hw := hw.2 hc
        obtain ⟨v3_3, ev3_3⟩ : ∃ z : Int32, z = v3 + 1 := ⟨_, rfl⟩
        replace hw := hw v3_3 ev3_3
        refine go_iinc (v := v3_3) (lv2 := [(3, .int v3_3), (0, .ref (G.2.2.1 52)), (1, .int v1), (4, .int v4)]) C 2 rfl (by rw [ev3_3]; rfl) (by rw [hnl]; decide) rfl dX10_emptyAhead_24 ?_
        obtain ⟨v4_4, ev4_4⟩ : ∃ z : Int32, z = v4 + (-1) := ⟨_, rfl⟩
        replace hw := hw v4_4 ev4_4
        refine go_iinc (v := v4_4) (lv2 := [(4, .int v4_4), (3, .int v3_3), (0, .ref (G.2.2.1 52)), (1, .int v1)]) C 3 rfl (by rw [ev4_4]; rfl) (by rw [hnl]; decide) rfl dX10_emptyAhead_27 ?_
        refine go_goto C 7 rfl dX10_emptyAhead_30 ?_
        refine go_sub [2, 3, 1, 0] rfl ?_
        exact ih _ _ _ _ hw
set_option maxRecDepth 20000 in
set_option maxHeartbeats 4000000 in
theorem spX10_emptyAhead {l : Launch} {G : GT} {d : Nat}  (hd : 3 ≤ d)  (hN : 75 ≤ G.2.2.2.2.2)  {a1 : Int32} {a2 : Int32} {σ : St} {post : Int32 → St → Prop} (hw : wpX10_emptyAhead  a1 a2 σ post) : Sp l G d yX10_emptyAhead cX10_emptyAhead 5 (some .int) [.ref (G.2.2.1 52), .int a1, .int a2] σ (fun v τ => ∃ r : Int32, v = some (.int r) ∧ post r τ) := by
  refine Sp.of (by decide) (Nat.le_of_ble_eq_true rfl) fun X C hr hR hnl => ?_
  show Go X G 0 [(0, .ref (G.2.2.1 52)), (1, .int a1), (2, .int a2)] [] σ
  have hw : ∀ v4_1 : Int32, v4_1 = (a2 - 1) →
  ∃ m_7, wbX10_emptyAhead_7 post m_7 a1 0 v4_1 σ := hw
  refine go_iconst (v := 0) C rfl dX10_emptyAhead_0 ?_
  refine go_istore_n (lv2 := [(3, .int 0), (0, .ref (G.2.2.1 52)), (1, .int a1), (2, .int a2)]) C rfl (by rw [hnl]; decide) rfl dX10_emptyAhead_1 ?_
  refine go_iload_n C 3 rfl rfl dX10_emptyAhead_2 ?_
  refine go_iconst (v := 1) C rfl dX10_emptyAhead_3 ?_
  refine go_isub C dX10_emptyAhead_4 ?_
  refine go_topi (fun v4_1 ev4_1 => ?_)
  replace hw := hw v4_1 ev4_1
  refine go_istore (lv2 := [(4, .int v4_1), (3, .int 0), (0, .ref (G.2.2.1 52)), (1, .int a1), (2, .int a2)]) C (by rw [hnl]; decide) rfl dX10_emptyAhead_5 ?_
  refine go_sub [2, 3, 1, 0] rfl ?_
  obtain ⟨n_0, hw⟩ := hw
  exact (gbX10_emptyAhead_7 C hr hR hnl hd hN) n_0 _ _ _ _ hw
-- CradleNames$Trails.comesBack(II)I
set_option maxRecDepth 20000 in
set_option maxHeartbeats 4000000 in
theorem gbX10_comesBack_44 {X : XT} {G : GT} {l : Launch} {d : Nat}  {post : Int32 → St → Prop} (C : Cx X G cX10_comesBack RX10) (hr : Rt X G (some .int) (fun v τ => ∃ r : Int32, v = some (.int r) ∧ post r τ)) (hR : Rm X l d) (hnl : X.2.2.2.2.2.2.2.2.2.2.1 = 6)  (hd : 4 ≤ d) (hN : 75 ≤ G.2.2.2.2.2)  {K2 : Int32 → Int32 → Int32 → St → Prop} (hK2 : ∀ (v1 : Int32) (v2 : Int32) (v3 : Int32) (σ : St), K2 v1 v2 v3 σ → Go X G 2 [(0, .ref (G.2.2.1 52)), (1, .int v1), (2, .int v2), (3, .int v3)] [] σ)
    : ∀ (v1 : Int32) (v2 : Int32) (v3 : Int32) (v4 : Int32) (s0 : Int32) (σ : St), wbX10_comesBack_44  K2 post v1 v2 v3 v4 s0 σ → Go X G 44 [(0, .ref (G.2.2.1 52)), (1, .int v1), (2, .int v2), (3, .int v3), (4, .int v4)] [.int s0] σ := by
  intro v1 v2 v3 v4 s0 σ hw
  have hw : ((v4 < v2 →
    ∀ v3_1 : Int32, v3_1 = v3 + 1 →
    K2 v1 v2 v3_1 σ) ∧
  (¬ v4 < v2 →
    ((s0 = 0 →
      ∀ v3_2 : Int32, v3_2 = v3 + 1 →
      K2 v1 v2 v3_2 σ) ∧
    (¬ s0 = 0 →
      post v3 σ)))) := hw
  refine go_istore (lv2 := [(5, .int s0), (0, .ref (G.2.2.1 52)), (1, .int v1), (2, .int v2), (3, .int v3), (4, .int v4)]) C (by rw [hnl]; decide) rfl dX10_comesBack_44 ?_
  refine go_iload C 5 rfl dX10_comesBack_46 ?_
  refine go_iload_n C 3 rfl rfl dX10_comesBack_48 ?_
  refine go_icmp_lt C 59 rfl dX10_comesBack_49 (fun hc => ?_) (fun hc => ?_)
  · replace hw := hw.1 hc
    obtain ⟨v3_1, ev3_1⟩ : ∃ z : Int32, z = v3 + 1 := ⟨_, rfl⟩
    replace hw := hw v3_1 ev3_1
    refine go_iinc (v := v3_1) (lv2 := [(3, .int v3_1), (5, .int s0), (0, .ref (G.2.2.1 52)), (1, .int v1), (2, .int v2), (4, .int v4)]) C 4 rfl (by rw [ev3_1]; rfl) (by rw [hnl]; decide) rfl dX10_comesBack_59 ?_
    refine go_goto C 2 rfl dX10_comesBack_62 ?_
    refine go_sub [2, 3, 4, 0] rfl ?_
    exact hK2 _ _ _ _ hw
  · replace hw := hw.2 hc
    refine go_iload C 0 rfl dX10_comesBack_52 ?_
    refine go_if_eq C 59 rfl dX10_comesBack_54 (fun hc => ?_) (fun hc => ?_)
    · replace hw := hw.1 hc
      obtain ⟨v3_2, ev3_2⟩ : ∃ z : Int32, z = v3 + 1 := ⟨_, rfl⟩
      replace hw := hw v3_2 ev3_2
      refine go_iinc (v := v3_2) (lv2 := [(3, .int v3_2), (5, .int s0), (0, .ref (G.2.2.1 52)), (1, .int v1), (2, .int v2), (4, .int v4)]) C 4 rfl (by rw [ev3_2]; rfl) (by rw [hnl]; decide) rfl dX10_comesBack_59 ?_
      refine go_goto C 2 rfl dX10_comesBack_62 ?_
      refine go_sub [2, 3, 4, 0] rfl ?_
      exact hK2 _ _ _ _ hw
    · replace hw := hw.2 hc
      refine go_iload_n C 4 rfl rfl dX10_comesBack_57 ?_
      exact go_iret C hr ⟨_, rfl, hw⟩ dX10_comesBack_58
set_option maxRecDepth 20000 in
set_option maxHeartbeats 4000000 in
theorem gbX10_comesBack_2 {X : XT} {G : GT} {l : Launch} {d : Nat}  {post : Int32 → St → Prop} (C : Cx X G cX10_comesBack RX10) (hr : Rt X G (some .int) (fun v τ => ∃ r : Int32, v = some (.int r) ∧ post r τ)) (hR : Rm X l d) (hnl : X.2.2.2.2.2.2.2.2.2.2.1 = 6)  (hd : 4 ≤ d) (hN : 75 ≤ G.2.2.2.2.2)   
    : ∀ (n : Nat) (v1 : Int32) (v2 : Int32) (v3 : Int32) (σ : St), wbX10_comesBack_2   post n v1 v2 v3 σ → Go X G 2 [(0, .ref (G.2.2.1 52)), (1, .int v1), (2, .int v2), (3, .int v3)] [] σ := by
  intro n
  induction n with
  | zero => intro v1 v2 v3 σ hw; exact hw.elim
  | succ n ih =>
    intro v1 v2 v3 σ hw
    have hw : (((gI σ 9 0) ≤ v3 →
      post (-1) σ) ∧
    (¬ (gI σ 9 0) ≤ v3 →
      wpX10_in v1 v3 σ (fun r_1 σ_2 =>
      ((r_1 ≤ 0 →
        ∀ v3_3 : Int32, v3_3 = v3 + 1 →
        wbX10_comesBack_2 post n v1 v2 v3_3 σ_2) ∧
      (¬ r_1 ≤ 0 →
        wpX10_emptyAhead v1 v3 σ_2 (fun r_4 σ_5 =>
        (((v3 - r_4) ≤ (-40) →
          wbX10_comesBack_44 (wbX10_comesBack_2 post n) post v1 v2 v3 r_4 0 σ_5) ∧
        (¬ (v3 - r_4) ≤ (-40) →
          wbX10_comesBack_44 (wbX10_comesBack_2 post n) post v1 v2 v3 r_4 1 σ_5)))))))) := hw
    refine go_iload_n C 3 rfl rfl dX10_comesBack_2 ?_
    refine go_aload_n C 0 rfl rfl dX10_comesBack_3 ?_
    refine go_get (v := .ref (G.2.2.1 9)) C (shX10 G) (ltX10 hN) lkX10_37 rfl dX10_comesBack_4 ?_
    refine go_get (v := .int (gI σ 9 0)) C (shX4 G) (ltX4 hN) lkX10_57 rfl dX10_comesBack_7 ?_
    refine go_icmp_ge C 65 rfl dX10_comesBack_10 (fun hc => ?_) (fun hc => ?_)
    · replace hw := hw.1 hc
      refine go_iconst (v := (-1)) C rfl dX10_comesBack_65 ?_
      exact go_iret C hr ⟨_, rfl, hw⟩ dX10_comesBack_66
    · replace hw := hw.2 hc
      refine go_aload_n C 0 rfl rfl dX10_comesBack_13 ?_
      refine go_iload_n C 1 rfl rfl dX10_comesBack_14 ?_
      refine go_iload_n C 3 rfl rfl dX10_comesBack_15 ?_
      refine go_callV (as := [.int v1, .int v3]) C hR (shX10 G) (ltX10 hN) cwX10_60 (Nat.le_trans (by decide) hd) (by decide) rfl rfl (Nat.le_of_ble_eq_true rfl) dX10_comesBack_16 (spX10_in (Nat.le_refl _) hN hw) (fun v_ τ_ hw => ?_)
      obtain ⟨r_1, rfl, hw⟩ := hw
      obtain ⟨σ_2, rfl⟩ : ∃ z, z = τ_ := ⟨_, rfl⟩
      refine go_if_le C 59 rfl dX10_comesBack_19 (fun hc => ?_) (fun hc => ?_)
      · replace hw := hw.1 hc
        obtain ⟨v3_3, ev3_3⟩ : ∃ z : Int32, z = v3 + 1 := ⟨_, rfl⟩
        replace hw := hw v3_3 ev3_3
        refine go_iinc (v := v3_3) (lv2 := [(3, .int v3_3), (0, .ref (G.2.2.1 52)), (1, .int v1), (2, .int v2)]) C 3 rfl (by rw [ev3_3]; rfl) (by rw [hnl]; decide) rfl dX10_comesBack_59 ?_
        refine go_goto C 2 rfl dX10_comesBack_62 ?_
        refine go_sub [1, 2, 3, 0] rfl ?_
        exact ih _ _ _ _ hw
      · replace hw := hw.2 hc
        refine go_aload_n C 0 rfl rfl dX10_comesBack_22 ?_
        refine go_iload_n C 1 rfl rfl dX10_comesBack_23 ?_
        refine go_iload_n C 3 rfl rfl dX10_comesBack_24 ?_
        refine go_callV (as := [.int v1, .int v3]) C hR (shX10 G) (ltX10 hN) cwX10_104 (Nat.le_trans (by decide) hd) (by decide) rfl rfl (Nat.le_of_ble_eq_true rfl) dX10_comesBack_25 (spX10_emptyAhead (Nat.le_refl _) hN hw) (fun v_ τ_ hw => ?_)
        obtain ⟨r_4, rfl, hw⟩ := hw
        obtain ⟨σ_5, rfl⟩ : ∃ z, z = τ_ := ⟨_, rfl⟩
        refine go_istore (lv2 := [(4, .int r_4), (0, .ref (G.2.2.1 52)), (1, .int v1), (2, .int v2), (3, .int v3)]) C (by rw [hnl]; decide) rfl dX10_comesBack_28 ?_
        refine go_iload_n C 4 rfl rfl dX10_comesBack_30 ?_
        refine go_iload C 0 rfl dX10_comesBack_31 ?_
        refine go_isub C dX10_comesBack_33 ?_
        refine go_bipush (v := (-40)) C rfl dX10_comesBack_34 ?_
        refine go_icmp_le C 43 rfl dX10_comesBack_36 (fun hc => ?_) (fun hc => ?_)
        · replace hw := hw.1 hc
          refine go_iconst (v := 0) C rfl dX10_comesBack_43 ?_
          refine go_sub [1, 2, 3, 4, 0] rfl ?_
          exact (gbX10_comesBack_44 C hr hR hnl hd hN ih) _ _ _ _ _ _ hw
        · replace hw := hw.2 hc
          refine go_iconst (v := 1) C rfl dX10_comesBack_39 ?_
          refine go_goto C 44 rfl dX10_comesBack_40 ?_
          refine go_sub [1, 2, 3, 4, 0] rfl ?_
          exact (gbX10_comesBack_44 C hr hR hnl hd hN ih) _ _ _ _ _ _ hw
set_option maxRecDepth 20000 in
set_option maxHeartbeats 4000000 in
theorem spX10_comesBack {l : Launch} {G : GT} {d : Nat}  (hd : 4 ≤ d)  (hN : 75 ≤ G.2.2.2.2.2)  {a1 : Int32} {a2 : Int32} {σ : St} {post : Int32 → St → Prop} (hw : wpX10_comesBack  a1 a2 σ post) : Sp l G d yX10_comesBack cX10_comesBack 6 (some .int) [.ref (G.2.2.1 52), .int a1, .int a2] σ (fun v τ => ∃ r : Int32, v = some (.int r) ∧ post r τ) := by
  refine Sp.of (by decide) (Nat.le_of_ble_eq_true rfl) fun X C hr hR hnl => ?_
  show Go X G 0 [(0, .ref (G.2.2.1 52)), (1, .int a1), (2, .int a2)] [] σ
  have hw : ∃ m_2, wbX10_comesBack_2 post m_2 a1 a2 0 σ := hw
  refine go_iconst (v := 0) C rfl dX10_comesBack_0 ?_
  refine go_istore_n (lv2 := [(3, .int 0), (0, .ref (G.2.2.1 52)), (1, .int a1), (2, .int a2)]) C rfl (by rw [hnl]; decide) rfl dX10_comesBack_1 ?_
  refine go_sub [1, 2, 3, 0] rfl ?_
  obtain ⟨n_0, hw⟩ := hw
  exact (gbX10_comesBack_2 C hr hR hnl hd hN) n_0 _ _ _ _ hw
-- CradleNames$Trails.unlike(III)J
set_option maxRecDepth 20000 in
set_option maxHeartbeats 4000000 in
theorem gbX10_unlike_12 {X : XT} {G : GT} {l : Launch} {d : Nat}  {post : Int64 → St → Prop} (C : Cx X G cX10_unlike RX10) (hr : Rt X G (some .long) (fun v τ => ∃ r : Int64, v = some (.long r) ∧ post r τ)) (hR : Rm X l d) (hnl : X.2.2.2.2.2.2.2.2.2.2.1 = 7) {FX10_unlike : Int32 → Int32 → Int32 → St → (Int64 → St → Prop) → Prop} {dF : Nat} (h5 : 5 ≤ dF) (hFX10_unlike : ∀ (a1 : Int32) (a2 : Int32) (a3 : Int32) (σ : St) (post : Int64 → St → Prop), FX10_unlike a1 a2 a3 σ post → Sp l G dF yX10_unlike cX10_unlike 7 (some .long) [.ref (G.2.2.1 52), .int a1, .int a2, .int a3] σ (fun v τ => ∃ r : Int64, v = some (.long r) ∧ post r τ)) (hd : dF + 1 ≤ d) (hN : 75 ≤ G.2.2.2.2.2)   
    : ∀ (n : Nat) (v2 : Int32) (v3 : Int32) (v4 : Int64) (v6 : Int32) (σ : St), wbX10_unlike_12 FX10_unlike  post n v2 v3 v4 v6 σ → Go X G 12 [(0, .ref (G.2.2.1 52)), (2, .int v2), (3, .int v3), (4, .long v4), (6, .int v6)] [] σ := by
  intro n
  induction n with
  | zero => intro v2 v3 v4 v6 σ hw; exact hw.elim
  | succ n ih =>
    intro v2 v3 v4 v6 σ hw
    have hw : ((((gI σ 52 10) - v2) < v6 →
      post v4 σ) ∧
    (¬ ((gI σ 52 10) - v2) < v6 →
      ((¬ ((v3 >>> (v6 &&& 31)) &&& 1) = 0 →
        ∀ v6_1 : Int32, v6_1 = v6 + 1 →
        wbX10_unlike_12 FX10_unlike post n v2 v3 v4 v6_1 σ) ∧
      (((v3 >>> (v6 &&& 31)) &&& 1) = 0 →
        vp_in v6 16 ∧ (
        vp_in v6 16 ∧ (
        FX10_unlike (v6 + 1) (v2 - 1) (v3 ||| (gI σ 59 v6.toNatClampNeg)) σ (fun r_2 σ_3 =>
        ∀ v4_4 : Int64, v4_4 = (v4 + ((gI σ 58 v6.toNatClampNeg).toInt64 * r_2)) →
        ∀ v6_5 : Int32, v6_5 = v6 + 1 →
        wbX10_unlike_12 FX10_unlike post n v2 v3 v4_4 v6_5 σ_3))))))) := hw
    refine go_iload C 4 rfl dX10_unlike_12 ?_
    refine go_aload_n C 0 rfl rfl dX10_unlike_14 ?_
    refine go_get (v := .int (gI σ 52 10)) C (shX10 G) (ltX10 hN) lkX10_107 rfl dX10_unlike_15 ?_
    refine go_iload_n C 1 rfl rfl dX10_unlike_18 ?_
    refine go_isub C dX10_unlike_19 ?_
    refine go_icmp_gt C 72 rfl dX10_unlike_20 (fun hc => ?_) (fun hc => ?_)
    · replace hw := hw.1 hc
      refine go_lload C 3 rfl dX10_unlike_72 ?_
      exact go_lret C hr ⟨_, rfl, hw⟩ dX10_unlike_74
    · replace hw := hw.2 hc
      refine go_iload_n C 2 rfl rfl dX10_unlike_23 ?_
      refine go_iload C 4 rfl dX10_unlike_24 ?_
      refine go_ishr C dX10_unlike_26 ?_
      refine go_iconst (v := 1) C rfl dX10_unlike_27 ?_
      refine go_iand C dX10_unlike_28 ?_
      refine go_if_ne C 66 rfl dX10_unlike_29 (fun hc => ?_) (fun hc => ?_)
      · replace hw := hw.1 hc
        obtain ⟨v6_1, ev6_1⟩ : ∃ z : Int32, z = v6 + 1 := ⟨_, rfl⟩
        replace hw := hw v6_1 ev6_1
        refine go_iinc (v := v6_1) (lv2 := [(6, .int v6_1), (0, .ref (G.2.2.1 52)), (2, .int v2), (3, .int v3), (4, .long v4)]) C 4 rfl (by rw [ev6_1]; rfl) (by rw [hnl]; decide) rfl dX10_unlike_66 ?_
        refine go_goto C 12 rfl dX10_unlike_69 ?_
        refine go_sub [1, 2, 3, 4, 0] rfl ?_
        exact ih _ _ _ _ _ hw
      · replace hw := hw.2 hc
        refine go_lload C 3 rfl dX10_unlike_32 ?_
        refine go_aload_n C 0 rfl rfl dX10_unlike_34 ?_
        refine go_get (v := .ref (G.2.2.1 58)) C (shX10 G) (ltX10 hN) lkX10_27 rfl dX10_unlike_35 ?_
        refine go_iload C 4 rfl dX10_unlike_38 ?_
        refine go_iald C (saX10_counts G) (laX10_counts hN) hw.1 dX10_unlike_40 ?_
        replace hw := hw.2
        refine go_i2l C dX10_unlike_41 ?_
        refine go_aload_n C 0 rfl rfl dX10_unlike_42 ?_
        refine go_iload C 4 rfl dX10_unlike_43 ?_
        refine go_iconst (v := 1) C rfl dX10_unlike_45 ?_
        refine go_iadd C dX10_unlike_46 ?_
        refine go_iload_n C 1 rfl rfl dX10_unlike_47 ?_
        refine go_iconst (v := 1) C rfl dX10_unlike_48 ?_
        refine go_isub C dX10_unlike_49 ?_
        refine go_iload_n C 2 rfl rfl dX10_unlike_50 ?_
        refine go_aload_n C 0 rfl rfl dX10_unlike_51 ?_
        refine go_get (v := .ref (G.2.2.1 59)) C (shX10 G) (ltX10 hN) lkX10_30 rfl dX10_unlike_52 ?_
        refine go_iload C 4 rfl dX10_unlike_55 ?_
        refine go_iald C (saX10_kin G) (laX10_kin hN) hw.1 dX10_unlike_57 ?_
        replace hw := hw.2
        refine go_ior C dX10_unlike_58 ?_
        refine go_callV (as := [.int (v6 + 1), .int (v2 - 1), .int (v3 ||| (gI σ 59 v6.toNatClampNeg))]) C hR (shX10 G) (ltX10 hN) cwX10_113 (by omega) (by decide) rfl rfl (Nat.le_of_ble_eq_true rfl) dX10_unlike_59 (hFX10_unlike _ _ _ _ _ hw) (fun v_ τ_ hw => ?_)
        obtain ⟨r_2, rfl, hw⟩ := hw
        obtain ⟨σ_3, rfl⟩ : ∃ z, z = τ_ := ⟨_, rfl⟩
        refine go_lmul C dX10_unlike_62 ?_
        refine go_ladd C dX10_unlike_63 ?_
        refine go_topl (fun v4_4 ev4_4 => ?_)
        replace hw := hw v4_4 ev4_4
        refine go_lstore (lv2 := [(4, .long v4_4), (0, .ref (G.2.2.1 52)), (2, .int v2), (3, .int v3), (6, .int v6)]) C (by rw [hnl]; decide) rfl dX10_unlike_64 ?_
        obtain ⟨v6_5, ev6_5⟩ : ∃ z : Int32, z = v6 + 1 := ⟨_, rfl⟩
        replace hw := hw v6_5 ev6_5
        refine go_iinc (v := v6_5) (lv2 := [(6, .int v6_5), (4, .long v4_4), (0, .ref (G.2.2.1 52)), (2, .int v2), (3, .int v3)]) C 4 rfl (by rw [ev6_5]; rfl) (by rw [hnl]; decide) rfl dX10_unlike_66 ?_
        refine go_goto C 12 rfl dX10_unlike_69 ?_
        refine go_sub [2, 3, 4, 1, 0] rfl ?_
        exact ih _ _ _ _ _ hw
set_option maxRecDepth 20000 in
set_option maxHeartbeats 4000000 in
theorem spX10_unlike {l : Launch} {G : GT} {d : Nat} {FX10_unlike : Int32 → Int32 → Int32 → St → (Int64 → St → Prop) → Prop} {dF : Nat} (h5 : 5 ≤ dF) (hFX10_unlike : ∀ (a1 : Int32) (a2 : Int32) (a3 : Int32) (σ : St) (post : Int64 → St → Prop), FX10_unlike a1 a2 a3 σ post → Sp l G dF yX10_unlike cX10_unlike 7 (some .long) [.ref (G.2.2.1 52), .int a1, .int a2, .int a3] σ (fun v τ => ∃ r : Int64, v = some (.long r) ∧ post r τ)) (hd : dF + 1 ≤ d)  (hN : 75 ≤ G.2.2.2.2.2)  {a1 : Int32} {a2 : Int32} {a3 : Int32} {σ : St} {post : Int64 → St → Prop} (hw : wpX10_unlike FX10_unlike a1 a2 a3 σ post) : Sp l G d yX10_unlike cX10_unlike 7 (some .long) [.ref (G.2.2.1 52), .int a1, .int a2, .int a3] σ (fun v τ => ∃ r : Int64, v = some (.long r) ∧ post r τ) := by
  refine Sp.of (by decide) (Nat.le_of_ble_eq_true rfl) fun X C hr hR hnl => ?_
  show Go X G 0 [(0, .ref (G.2.2.1 52)), (1, .int a1), (2, .int a2), (3, .int a3)] [] σ
  have hw : ((0 < a2 →
    ∃ m_12, wbX10_unlike_12 FX10_unlike post m_12 a2 a3 0 a1 σ) ∧
  (¬ 0 < a2 →
    post 1 σ)) := hw
  refine go_iload_n C 2 rfl rfl dX10_unlike_0 ?_
  refine go_if_gt C 6 rfl dX10_unlike_1 (fun hc => ?_) (fun hc => ?_)
  · replace hw := hw.1 hc
    refine go_lconst (v := 0) C rfl dX10_unlike_6 ?_
    refine go_lstore (lv2 := [(4, .long 0), (0, .ref (G.2.2.1 52)), (1, .int a1), (2, .int a2), (3, .int a3)]) C (by rw [hnl]; decide) rfl dX10_unlike_7 ?_
    refine go_iload_n C 2 rfl rfl dX10_unlike_9 ?_
    refine go_istore (lv2 := [(6, .int a1), (4, .long 0), (0, .ref (G.2.2.1 52)), (1, .int a1), (2, .int a2), (3, .int a3)]) C (by rw [hnl]; decide) rfl dX10_unlike_10 ?_
    refine go_sub [2, 4, 5, 1, 0] rfl ?_
    obtain ⟨n_0, hw⟩ := hw
    exact (gbX10_unlike_12 C hr hR hnl h5 hFX10_unlike hd hN) n_0 _ _ _ _ _ hw
  · replace hw := hw.2 hc
    refine go_lconst (v := 1) C rfl dX10_unlike_4 ?_
    exact go_lret C hr ⟨_, rfl, hw⟩ dX10_unlike_5
theorem srX10_unlike {l : Launch} {G : GT} (hN : 75 ≤ G.2.2.2.2.2) : ∀ (n : Nat) (a1 : Int32) (a2 : Int32) (a3 : Int32) (σ : St) (post : Int64 → St → Prop), wrX10_unlike n a1 a2 a3 σ post → Sp l G (5 + 4 * n) yX10_unlike cX10_unlike 7 (some .long) [.ref (G.2.2.1 52), .int a1, .int a2, .int a3] σ (fun v τ => ∃ r : Int64, v = some (.long r) ∧ post r τ)
  | 0, _, _, _, _, _, hw => hw.elim
  | n + 1, _, _, _, _, _, hw => spX10_unlike (by omega) (srX10_unlike hN n) (by omega) hN  hw
-- CradleNames$Trails.kinOf(I)I
set_option maxRecDepth 20000 in
set_option maxHeartbeats 4000000 in
theorem gbX10_kinOf_4 {X : XT} {G : GT} {l : Launch} {d : Nat}  {post : Int32 → St → Prop} (C : Cx X G cX10_kinOf RX10) (hr : Rt X G (some .int) (fun v τ => ∃ r : Int32, v = some (.int r) ∧ post r τ)) (hR : Rm X l d) (hnl : X.2.2.2.2.2.2.2.2.2.2.1 = 4)  (hd : 3 ≤ d) (hN : 75 ≤ G.2.2.2.2.2)   
    : ∀ (n : Nat) (v1 : Int32) (v2 : Int32) (v3 : Int32) (σ : St), wbX10_kinOf_4   post n v1 v2 v3 σ → Go X G 4 [(0, .ref (G.2.2.1 52)), (1, .int v1), (2, .int v2), (3, .int v3)] [] σ := by
  intro n
  induction n with
  | zero => intro v1 v2 v3 σ hw; exact hw.elim
  | succ n ih =>
    intro v1 v2 v3 σ hw
    have hw : (((gI σ 52 10) ≤ v3 →
      post v2 σ) ∧
    (¬ (gI σ 52 10) ≤ v3 →
      vp_in v1 16 ∧ (
      vp_in v3 16 ∧ (
      wpX5_akin (gI σ 57 v1.toNatClampNeg) (gI σ 57 v3.toNatClampNeg) σ (fun r_1 σ_2 =>
      ((r_1 = 0 →
        ∀ v3_3 : Int32, v3_3 = v3 + 1 →
        wbX10_kinOf_4 post n v1 v2 v3_3 σ_2) ∧
      (¬ r_1 = 0 →
        ∀ v2_4 : Int32, v2_4 = (v2 ||| (1 <<< (v3 &&& 31))) →
        ∀ v3_5 : Int32, v3_5 = v3 + 1 →
        wbX10_kinOf_4 post n v1 v2_4 v3_5 σ_2))))))) := hw
    refine go_iload_n C 3 rfl rfl dX10_kinOf_4 ?_
    refine go_aload_n C 0 rfl rfl dX10_kinOf_5 ?_
    refine go_get (v := .int (gI σ 52 10)) C (shX10 G) (ltX10 hN) lkX10_107 rfl dX10_kinOf_6 ?_
    refine go_icmp_ge C 46 rfl dX10_kinOf_9 (fun hc => ?_) (fun hc => ?_)
    · replace hw := hw.1 hc
      refine go_iload_n C 2 rfl rfl dX10_kinOf_46 ?_
      exact go_iret C hr ⟨_, rfl, hw⟩ dX10_kinOf_47
    · replace hw := hw.2 hc
      refine go_aload_n C 0 rfl rfl dX10_kinOf_12 ?_
      refine go_get (v := .ref (G.2.2.1 1)) C (shX10 G) (ltX10 hN) lkX10_33 rfl dX10_kinOf_13 ?_
      refine go_aload_n C 0 rfl rfl dX10_kinOf_16 ?_
      refine go_get (v := .ref (G.2.2.1 57)) C (shX10 G) (ltX10 hN) lkX10_24 rfl dX10_kinOf_17 ?_
      refine go_iload_n C 1 rfl rfl dX10_kinOf_20 ?_
      refine go_iald C (saX10_who G) (laX10_who hN) hw.1 dX10_kinOf_21 ?_
      replace hw := hw.2
      refine go_aload_n C 0 rfl rfl dX10_kinOf_22 ?_
      refine go_get (v := .ref (G.2.2.1 57)) C (shX10 G) (ltX10 hN) lkX10_24 rfl dX10_kinOf_23 ?_
      refine go_iload_n C 3 rfl rfl dX10_kinOf_26 ?_
      refine go_iald C (saX10_who G) (laX10_who hN) hw.1 dX10_kinOf_27 ?_
      replace hw := hw.2
      refine go_callV (as := [.int (gI σ 57 v1.toNatClampNeg), .int (gI σ 57 v3.toNatClampNeg)]) C hR (shX5 G) (ltX5 hN) cwX10_119 (Nat.le_trans (by decide) hd) (by decide) rfl rfl (Nat.le_of_ble_eq_true rfl) dX10_kinOf_28 (spX5_akin (Nat.le_refl _) hN hw) (fun v_ τ_ hw => ?_)
      obtain ⟨r_1, rfl, hw⟩ := hw
      obtain ⟨σ_2, rfl⟩ : ∃ z, z = τ_ := ⟨_, rfl⟩
      refine go_if_eq C 40 rfl dX10_kinOf_31 (fun hc => ?_) (fun hc => ?_)
      · replace hw := hw.1 hc
        obtain ⟨v3_3, ev3_3⟩ : ∃ z : Int32, z = v3 + 1 := ⟨_, rfl⟩
        replace hw := hw v3_3 ev3_3
        refine go_iinc (v := v3_3) (lv2 := [(3, .int v3_3), (0, .ref (G.2.2.1 52)), (1, .int v1), (2, .int v2)]) C 3 rfl (by rw [ev3_3]; rfl) (by rw [hnl]; decide) rfl dX10_kinOf_40 ?_
        refine go_goto C 4 rfl dX10_kinOf_43 ?_
        refine go_sub [1, 2, 3, 0] rfl ?_
        exact ih _ _ _ _ hw
      · replace hw := hw.2 hc
        refine go_iload_n C 2 rfl rfl dX10_kinOf_34 ?_
        refine go_iconst (v := 1) C rfl dX10_kinOf_35 ?_
        refine go_iload_n C 3 rfl rfl dX10_kinOf_36 ?_
        refine go_ishl C dX10_kinOf_37 ?_
        refine go_ior C dX10_kinOf_38 ?_
        refine go_topi (fun v2_4 ev2_4 => ?_)
        replace hw := hw v2_4 ev2_4
        refine go_istore_n (lv2 := [(2, .int v2_4), (0, .ref (G.2.2.1 52)), (1, .int v1), (3, .int v3)]) C rfl (by rw [hnl]; decide) rfl dX10_kinOf_39 ?_
        obtain ⟨v3_5, ev3_5⟩ : ∃ z : Int32, z = v3 + 1 := ⟨_, rfl⟩
        replace hw := hw v3_5 ev3_5
        refine go_iinc (v := v3_5) (lv2 := [(3, .int v3_5), (2, .int v2_4), (0, .ref (G.2.2.1 52)), (1, .int v1)]) C 3 rfl (by rw [ev3_5]; rfl) (by rw [hnl]; decide) rfl dX10_kinOf_40 ?_
        refine go_goto C 4 rfl dX10_kinOf_43 ?_
        refine go_sub [2, 3, 1, 0] rfl ?_
        exact ih _ _ _ _ hw
set_option maxRecDepth 20000 in
set_option maxHeartbeats 4000000 in
theorem spX10_kinOf {l : Launch} {G : GT} {d : Nat}  (hd : 3 ≤ d)  (hN : 75 ≤ G.2.2.2.2.2)  {a1 : Int32} {σ : St} {post : Int32 → St → Prop} (hw : wpX10_kinOf  a1 σ post) : Sp l G d yX10_kinOf cX10_kinOf 4 (some .int) [.ref (G.2.2.1 52), .int a1] σ (fun v τ => ∃ r : Int32, v = some (.int r) ∧ post r τ) := by
  refine Sp.of (by decide) (Nat.le_of_ble_eq_true rfl) fun X C hr hR hnl => ?_
  show Go X G 0 [(0, .ref (G.2.2.1 52)), (1, .int a1)] [] σ
  have hw : ∃ m_4, wbX10_kinOf_4 post m_4 a1 0 0 σ := hw
  refine go_iconst (v := 0) C rfl dX10_kinOf_0 ?_
  refine go_istore_n (lv2 := [(2, .int 0), (0, .ref (G.2.2.1 52)), (1, .int a1)]) C rfl (by rw [hnl]; decide) rfl dX10_kinOf_1 ?_
  refine go_iconst (v := 0) C rfl dX10_kinOf_2 ?_
  refine go_istore_n (lv2 := [(3, .int 0), (2, .int 0), (0, .ref (G.2.2.1 52)), (1, .int a1)]) C rfl (by rw [hnl]; decide) rfl dX10_kinOf_3 ?_
  refine go_sub [2, 3, 1, 0] rfl ?_
  obtain ⟨n_0, hw⟩ := hw
  exact (gbX10_kinOf_4 C hr hR hnl hd hN) n_0 _ _ _ _ hw
-- CradleNames$Trails.sharing(IIIZ)I
set_option maxRecDepth 20000 in
set_option maxHeartbeats 4000000 in
theorem gbX10_sharing_143 {X : XT} {G : GT} {l : Launch} {d : Nat}  {post : Int32 → St → Prop} (C : Cx X G cX10_sharing RX10) (hr : Rt X G (some .int) (fun v τ => ∃ r : Int32, v = some (.int r) ∧ post r τ)) (hR : Rm X l d) (hnl : X.2.2.2.2.2.2.2.2.2.2.1 = 9)  (hd : 54 ≤ d) (hN : 75 ≤ G.2.2.2.2.2)   
    : ∀ (n : Nat) (v3 : Int32) (v5 : Int32) (v6 : Int64) (v8 : Int32) (σ : St), wbX10_sharing_143   post n v3 v5 v6 v8 σ → Go X G 143 [(0, .ref (G.2.2.1 52)), (3, .int v3), (5, .int v5), (6, .long v6), (8, .int v8)] [] σ := by
  intro n
  induction n with
  | zero => intro v3 v5 v6 v8 σ hw; exact hw.elim
  | succ n ih =>
    intro v3 v5 v6 v8 σ hw
    have hw : ((v3 ≤ v8 →
      ((0 < v6 →
        wrX10_unlike 12 0 v3 0 σ (fun r_1 σ_2 =>
        ¬ v6 = 0 ∧ (
        post ((((v6 - r_1) * 1000000) / v6).toInt32) σ_2))) ∧
      (¬ 0 < v6 →
        post (-1) σ))) ∧
    (¬ v3 ≤ v8 →
      ¬ (v8 + 1).toInt64 = 0 ∧ (
      ∀ v6_3 : Int64, v6_3 = ((v6 * (v5 - v8).toInt64) / (v8 + 1).toInt64) →
      ∀ v8_4 : Int32, v8_4 = v8 + 1 →
      wbX10_sharing_143 post n v3 v5 v6_3 v8_4 σ))) := hw
    refine go_iload C 4 rfl dX10_sharing_143 ?_
    refine go_iload_n C 1 rfl rfl dX10_sharing_145 ?_
    refine go_icmp_ge C 172 rfl dX10_sharing_146 (fun hc => ?_) (fun hc => ?_)
    · replace hw := hw.1 hc
      refine go_lload C 3 rfl dX10_sharing_172 ?_
      refine go_lconst (v := 0) C rfl dX10_sharing_174 ?_
      refine go_lc_gt C 183 rfl dX10_sharing_175 dX10_sharing_176 (fun hc => ?_) (fun hc => ?_)
      · replace hw := hw.1 hc
        refine go_lload C 3 rfl dX10_sharing_183 ?_
        refine go_aload_n C 0 rfl rfl dX10_sharing_185 ?_
        refine go_iconst (v := 0) C rfl dX10_sharing_186 ?_
        refine go_iload_n C 1 rfl rfl dX10_sharing_187 ?_
        refine go_iconst (v := 0) C rfl dX10_sharing_188 ?_
        refine go_callV (as := [.int 0, .int v3, .int 0]) C hR (shX10 G) (ltX10 hN) cwX10_113 (Nat.le_trans (by decide) hd) (by decide) rfl rfl (Nat.le_of_ble_eq_true rfl) dX10_sharing_189 (srX10_unlike hN 12 _ _ _ _ _ hw) (fun v_ τ_ hw => ?_)
        obtain ⟨r_1, rfl, hw⟩ := hw
        obtain ⟨σ_2, rfl⟩ : ∃ z, z = τ_ := ⟨_, rfl⟩
        refine go_lsub C dX10_sharing_192 ?_
        refine go_ldc2 (v := 1000000) C kcX10_117 dX10_sharing_193 ?_
        refine go_lmul C dX10_sharing_196 ?_
        refine go_lload C 3 rfl dX10_sharing_197 ?_
        refine go_ldiv C hw.1 dX10_sharing_199 ?_
        replace hw := hw.2
        refine go_l2i C dX10_sharing_200 ?_
        exact go_iret C hr ⟨_, rfl, hw⟩ dX10_sharing_201
      · replace hw := hw.2 hc
        refine go_iconst (v := (-1)) C rfl dX10_sharing_179 ?_
        refine go_goto C 201 rfl dX10_sharing_180 ?_
        exact go_iret C hr ⟨_, rfl, hw⟩ dX10_sharing_201
    · replace hw := hw.2 hc
      refine go_lload C 3 rfl dX10_sharing_149 ?_
      refine go_iload C 2 rfl dX10_sharing_151 ?_
      refine go_iload C 4 rfl dX10_sharing_153 ?_
      refine go_isub C dX10_sharing_155 ?_
      refine go_i2l C dX10_sharing_156 ?_
      refine go_lmul C dX10_sharing_157 ?_
      refine go_iload C 4 rfl dX10_sharing_158 ?_
      refine go_iconst (v := 1) C rfl dX10_sharing_160 ?_
      refine go_iadd C dX10_sharing_161 ?_
      refine go_i2l C dX10_sharing_162 ?_
      refine go_ldiv C hw.1 dX10_sharing_163 ?_
      replace hw := hw.2
      refine go_topl (fun v6_3 ev6_3 => ?_)
      replace hw := hw v6_3 ev6_3
      refine go_lstore (lv2 := [(6, .long v6_3), (0, .ref (G.2.2.1 52)), (3, .int v3), (5, .int v5), (8, .int v8)]) C (by rw [hnl]; decide) rfl dX10_sharing_164 ?_
      obtain ⟨v8_4, ev8_4⟩ : ∃ z : Int32, z = v8 + 1 := ⟨_, rfl⟩
      replace hw := hw v8_4 ev8_4
      refine go_iinc (v := v8_4) (lv2 := [(8, .int v8_4), (6, .long v6_3), (0, .ref (G.2.2.1 52)), (3, .int v3), (5, .int v5)]) C 4 rfl (by rw [ev8_4]; rfl) (by rw [hnl]; decide) rfl dX10_sharing_166 ?_
      refine go_goto C 143 rfl dX10_sharing_169 ?_
      refine go_sub [2, 3, 4, 1, 0] rfl ?_
      exact ih _ _ _ _ _ hw
set_option maxRecDepth 20000 in
set_option maxHeartbeats 4000000 in
theorem gbX10_sharing_100 {X : XT} {G : GT} {l : Launch} {d : Nat}  {post : Int32 → St → Prop} (C : Cx X G cX10_sharing RX10) (hr : Rt X G (some .int) (fun v τ => ∃ r : Int32, v = some (.int r) ∧ post r τ)) (hR : Rm X l d) (hnl : X.2.2.2.2.2.2.2.2.2.2.1 = 9)  (hd : 54 ≤ d) (hN : 75 ≤ G.2.2.2.2.2)   
    : ∀ (n : Nat) (v3 : Int32) (v4 : Int32) (v5 : Int32) (v6 : Int32) (σ : St), wbX10_sharing_100   post n v3 v4 v5 v6 σ → Go X G 100 [(0, .ref (G.2.2.1 52)), (3, .int v3), (4, .int v4), (5, .int v5), (6, .int v6)] [] σ := by
  intro n
  induction n with
  | zero => intro v3 v4 v5 v6 σ hw; exact hw.elim
  | succ n ih =>
    intro v3 v4 v5 v6 σ hw
    have hw : (((gI σ 52 10) ≤ v6 →
      ∃ m_143, wbX10_sharing_143 post m_143 v3 v5 1 0 σ) ∧
    (¬ (gI σ 52 10) ≤ v6 →
      ((v4 = 0 →
        vp_in v6 16 ∧ (
        ∀ σ_1 : St, σ_1 = sI σ 59 v6.toNatClampNeg 0 →
        ∀ v6_2 : Int32, v6_2 = v6 + 1 →
        wbX10_sharing_100 post n v3 v4 v5 v6_2 σ_1)) ∧
      (¬ v4 = 0 →
        wpX10_kinOf v6 σ (fun r_3 σ_4 =>
        vp_in v6 16 ∧ (
        ∀ σ_5 : St, σ_5 = sI σ_4 59 v6.toNatClampNeg r_3 →
        ∀ v6_6 : Int32, v6_6 = v6 + 1 →
        wbX10_sharing_100 post n v3 v4 v5 v6_6 σ_5)))))) := hw
    refine go_iload C 4 rfl dX10_sharing_100 ?_
    refine go_aload_n C 0 rfl rfl dX10_sharing_102 ?_
    refine go_get (v := .int (gI σ 52 10)) C (shX10 G) (ltX10 hN) lkX10_107 rfl dX10_sharing_103 ?_
    refine go_icmp_ge C 137 rfl dX10_sharing_106 (fun hc => ?_) (fun hc => ?_)
    · replace hw := hw.1 hc
      refine go_lconst (v := 1) C rfl dX10_sharing_137 ?_
      refine go_lstore (lv2 := [(6, .long 1), (0, .ref (G.2.2.1 52)), (3, .int v3), (4, .int v4), (5, .int v5)]) C (by rw [hnl]; decide) rfl dX10_sharing_138 ?_
      refine go_iconst (v := 0) C rfl dX10_sharing_140 ?_
      refine go_istore (lv2 := [(8, .int 0), (6, .long 1), (0, .ref (G.2.2.1 52)), (3, .int v3), (4, .int v4), (5, .int v5)]) C (by rw [hnl]; decide) rfl dX10_sharing_141 ?_
      refine go_sub [2, 3, 5, 1, 0] rfl ?_
      obtain ⟨n_0, hw⟩ := hw
      exact (gbX10_sharing_143 C hr hR hnl hd hN) n_0 _ _ _ _ _ hw
    · replace hw := hw.2 hc
      refine go_aload_n C 0 rfl rfl dX10_sharing_109 ?_
      refine go_get (v := .ref (G.2.2.1 59)) C (shX10 G) (ltX10 hN) lkX10_30 rfl dX10_sharing_110 ?_
      refine go_iload C 4 rfl dX10_sharing_113 ?_
      refine go_iload C 2 rfl dX10_sharing_115 ?_
      refine go_if_eq C 129 rfl dX10_sharing_117 (fun hc => ?_) (fun hc => ?_)
      · replace hw := hw.1 hc
        refine go_iconst (v := 0) C rfl dX10_sharing_129 ?_
        refine go_iast C (saX10_kin G) (laX10_kin hN) hw.1 dX10_sharing_130 (go_nm fun σ_1 eσ_1 => ?_)
        replace hw := hw.2 σ_1 eσ_1
        obtain ⟨v6_2, ev6_2⟩ : ∃ z : Int32, z = v6 + 1 := ⟨_, rfl⟩
        replace hw := hw v6_2 ev6_2
        refine go_iinc (v := v6_2) (lv2 := [(6, .int v6_2), (0, .ref (G.2.2.1 52)), (3, .int v3), (4, .int v4), (5, .int v5)]) C 4 rfl (by rw [ev6_2]; rfl) (by rw [hnl]; decide) rfl dX10_sharing_131 ?_
        refine go_goto C 100 rfl dX10_sharing_134 ?_
        refine go_sub [1, 2, 3, 4, 0] rfl ?_
        exact ih _ _ _ _ _ hw
      · replace hw := hw.2 hc
        refine go_aload_n C 0 rfl rfl dX10_sharing_120 ?_
        refine go_iload C 4 rfl dX10_sharing_121 ?_
        refine go_callV (as := [.int v6]) C hR (shX10 G) (ltX10 hN) cwX10_110 (Nat.le_trans (by decide) hd) (by decide) rfl rfl (Nat.le_of_ble_eq_true rfl) dX10_sharing_123 (spX10_kinOf (Nat.le_refl _) hN hw) (fun v_ τ_ hw => ?_)
        obtain ⟨r_3, rfl, hw⟩ := hw
        obtain ⟨σ_4, rfl⟩ : ∃ z, z = τ_ := ⟨_, rfl⟩
        refine go_goto C 130 rfl dX10_sharing_126 ?_
        refine go_iast C (saX10_kin G) (laX10_kin hN) hw.1 dX10_sharing_130 (go_nm fun σ_5 eσ_5 => ?_)
        replace hw := hw.2 σ_5 eσ_5
        obtain ⟨v6_6, ev6_6⟩ : ∃ z : Int32, z = v6 + 1 := ⟨_, rfl⟩
        replace hw := hw v6_6 ev6_6
        refine go_iinc (v := v6_6) (lv2 := [(6, .int v6_6), (0, .ref (G.2.2.1 52)), (3, .int v3), (4, .int v4), (5, .int v5)]) C 4 rfl (by rw [ev6_6]; rfl) (by rw [hnl]; decide) rfl dX10_sharing_131 ?_
        refine go_goto C 100 rfl dX10_sharing_134 ?_
        refine go_sub [1, 2, 3, 4, 0] rfl ?_
        exact ih _ _ _ _ _ hw
set_option maxRecDepth 20000 in
set_option maxHeartbeats 4000000 in
theorem gbX10_sharing_11 {X : XT} {G : GT} {l : Launch} {d : Nat}  {post : Int32 → St → Prop} (C : Cx X G cX10_sharing RX10) (hr : Rt X G (some .int) (fun v τ => ∃ r : Int32, v = some (.int r) ∧ post r τ)) (hR : Rm X l d) (hnl : X.2.2.2.2.2.2.2.2.2.2.1 = 9)  (hd : 54 ≤ d) (hN : 75 ≤ G.2.2.2.2.2)   
    : ∀ (n : Nat) (v1 : Int32) (v2 : Int32) (v3 : Int32) (v4 : Int32) (v5 : Int32) (v6 : Int32) (σ : St), wbX10_sharing_11   post n v1 v2 v3 v4 v5 v6 σ → Go X G 11 [(0, .ref (G.2.2.1 52)), (1, .int v1), (2, .int v2), (3, .int v3), (4, .int v4), (5, .int v5), (6, .int v6)] [] σ := by
  intro n
  induction n with
  | zero => intro v1 v2 v3 v4 v5 v6 σ hw; exact hw.elim
  | succ n ih =>
    intro v1 v2 v3 v4 v5 v6 σ hw
    have hw : (((gI σ 1 0) ≤ v6 →
      ((v3 ≤ v5 →
        ∃ m_100, wbX10_sharing_100 post m_100 v3 v4 v5 0 σ) ∧
      (¬ v3 ≤ v5 →
        post (-1) σ))) ∧
    (¬ (gI σ 1 0) ≤ v6 →
      wpX0_between 0 (0 + v1) v6 v2 v2 σ (fun r_1 σ_2 =>
      ((r_1 ≤ 0 →
        ∀ v6_3 : Int32, v6_3 = v6 + 1 →
        wbX10_sharing_11 post n v1 v2 v3 v4 v5 v6_3 σ_2) ∧
      (¬ r_1 ≤ 0 →
        vp_in (gI σ_2 52 10) 16 ∧ (
        ∀ σ_4 : St, σ_4 = sI σ_2 57 (gI σ_2 52 10).toNatClampNeg v6 →
        vp_in (gI σ_4 52 10) 16 ∧ (
        ∀ σ_5 : St, σ_5 = sI σ_4 58 (gI σ_4 52 10).toNatClampNeg r_1 →
        ∀ v5_6 : Int32, v5_6 = (v5 + r_1) →
        ∀ σ_7 : St, σ_7 = sI σ_5 52 10 ((gI σ_5 52 10) + 1) →
        ∀ v6_8 : Int32, v6_8 = v6 + 1 →
        wbX10_sharing_11 post n v1 v2 v3 v4 v5_6 v6_8 σ_7))))))) := hw
    refine go_iload C 6 rfl dX10_sharing_11 ?_
    refine go_aload_n C 0 rfl rfl dX10_sharing_13 ?_
    refine go_get (v := .ref (G.2.2.1 1)) C (shX10 G) (ltX10 hN) lkX10_33 rfl dX10_sharing_14 ?_
    refine go_get (v := .int (gI σ 1 0)) C (shX5 G) (ltX5 hN) lkX10_68 rfl dX10_sharing_17 ?_
    refine go_icmp_ge C 89 rfl dX10_sharing_20 (fun hc => ?_) (fun hc => ?_)
    · replace hw := hw.1 hc
      refine go_iload C 5 rfl dX10_sharing_89 ?_
      refine go_iload_n C 3 rfl rfl dX10_sharing_91 ?_
      refine go_icmp_ge C 97 rfl dX10_sharing_92 (fun hc => ?_) (fun hc => ?_)
      · replace hw := hw.1 hc
        refine go_iconst (v := 0) C rfl dX10_sharing_97 ?_
        refine go_istore (lv2 := [(6, .int 0), (0, .ref (G.2.2.1 52)), (1, .int v1), (2, .int v2), (3, .int v3), (4, .int v4), (5, .int v5)]) C (by rw [hnl]; decide) rfl dX10_sharing_98 ?_
        refine go_sub [1, 4, 5, 6, 0] rfl ?_
        obtain ⟨n_0, hw⟩ := hw
        exact (gbX10_sharing_100 C hr hR hnl hd hN) n_0 _ _ _ _ _ hw
      · replace hw := hw.2 hc
        refine go_iconst (v := (-1)) C rfl dX10_sharing_95 ?_
        exact go_iret C hr ⟨_, rfl, hw⟩ dX10_sharing_96
    · replace hw := hw.2 hc
      refine go_aload_n C 0 rfl rfl dX10_sharing_23 ?_
      refine go_get (v := .ref (G.2.2.1 (21 + 4 * 0))) C (shX10 G) (ltX10 hN) lkX10_41 rfl dX10_sharing_24 ?_
      refine go_iconst (v := 0) C rfl dX10_sharing_27 ?_
      refine go_iload_n C 1 rfl rfl dX10_sharing_28 ?_
      refine go_iadd C dX10_sharing_29 ?_
      refine go_iload C 6 rfl dX10_sharing_30 ?_
      refine go_iload_n C 2 rfl rfl dX10_sharing_32 ?_
      refine go_iload_n C 2 rfl rfl dX10_sharing_33 ?_
      refine go_callV (as := [.int (0 + v1), .int v6, .int v2, .int v2]) C hR (shX0 G (show 0 < 2 by decide)) (ltX0 hN (show 0 < 2 by decide)) cwX10_45 (Nat.le_trans (by decide) hd) (by decide) rfl rfl (Nat.le_of_ble_eq_true rfl) dX10_sharing_34 (spX0_between (Nat.le_refl _) hN (show 0 < 2 by decide) hw) (fun v_ τ_ hw => ?_)
      obtain ⟨r_1, rfl, hw⟩ := hw
      obtain ⟨σ_2, rfl⟩ : ∃ z, z = τ_ := ⟨_, rfl⟩
      refine go_istore (lv2 := [(7, .int r_1), (0, .ref (G.2.2.1 52)), (1, .int v1), (2, .int v2), (3, .int v3), (4, .int v4), (5, .int v5), (6, .int v6)]) C (by rw [hnl]; decide) rfl dX10_sharing_37 ?_
      refine go_iload C 0 rfl dX10_sharing_39 ?_
      refine go_if_le C 83 rfl dX10_sharing_41 (fun hc => ?_) (fun hc => ?_)
      · replace hw := hw.1 hc
        obtain ⟨v6_3, ev6_3⟩ : ∃ z : Int32, z = v6 + 1 := ⟨_, rfl⟩
        replace hw := hw v6_3 ev6_3
        refine go_iinc (v := v6_3) (lv2 := [(6, .int v6_3), (7, .int r_1), (0, .ref (G.2.2.1 52)), (1, .int v1), (2, .int v2), (3, .int v3), (4, .int v4), (5, .int v5)]) C 7 rfl (by rw [ev6_3]; rfl) (by rw [hnl]; decide) rfl dX10_sharing_83 ?_
        refine go_goto C 11 rfl dX10_sharing_86 ?_
        refine go_sub [2, 3, 4, 5, 6, 7, 0] rfl ?_
        exact ih _ _ _ _ _ _ _ hw
      · replace hw := hw.2 hc
        refine go_aload_n C 1 rfl rfl dX10_sharing_44 ?_
        refine go_get (v := .ref (G.2.2.1 57)) C (shX10 G) (ltX10 hN) lkX10_24 rfl dX10_sharing_45 ?_
        refine go_aload_n C 1 rfl rfl dX10_sharing_48 ?_
        refine go_get (v := .int (gI σ_2 52 10)) C (shX10 G) (ltX10 hN) lkX10_107 rfl dX10_sharing_49 ?_
        refine go_iload C 7 rfl dX10_sharing_52 ?_
        refine go_iast C (saX10_who G) (laX10_who hN) hw.1 dX10_sharing_54 (go_nm fun σ_4 eσ_4 => ?_)
        replace hw := hw.2 σ_4 eσ_4
        refine go_aload_n C 1 rfl rfl dX10_sharing_55 ?_
        refine go_get (v := .ref (G.2.2.1 58)) C (shX10 G) (ltX10 hN) lkX10_27 rfl dX10_sharing_56 ?_
        refine go_aload_n C 1 rfl rfl dX10_sharing_59 ?_
        refine go_get (v := .int (gI σ_4 52 10)) C (shX10 G) (ltX10 hN) lkX10_107 rfl dX10_sharing_60 ?_
        refine go_iload C 0 rfl dX10_sharing_63 ?_
        refine go_iast C (saX10_counts G) (laX10_counts hN) hw.1 dX10_sharing_65 (go_nm fun σ_5 eσ_5 => ?_)
        replace hw := hw.2 σ_5 eσ_5
        refine go_iload C 6 rfl dX10_sharing_66 ?_
        refine go_iload C 0 rfl dX10_sharing_68 ?_
        refine go_iadd C dX10_sharing_70 ?_
        refine go_topi (fun v5_6 ev5_6 => ?_)
        replace hw := hw v5_6 ev5_6
        refine go_istore (lv2 := [(5, .int v5_6), (7, .int r_1), (0, .ref (G.2.2.1 52)), (1, .int v1), (2, .int v2), (3, .int v3), (4, .int v4), (6, .int v6)]) C (by rw [hnl]; decide) rfl dX10_sharing_71 ?_
        refine go_aload_n C 2 rfl rfl dX10_sharing_73 ?_
        refine go_dup C rfl dX10_sharing_74 ?_
        refine go_get (v := .int (gI σ_5 52 10)) C (shX10 G) (ltX10 hN) lkX10_107 rfl dX10_sharing_75 ?_
        refine go_iconst (v := 1) C rfl dX10_sharing_78 ?_
        refine go_iadd C dX10_sharing_79 ?_
        refine go_puti C (shX10 G) (ltX10 hN) lpX10_107 (show 10 < 11 by decide) (pxX10_10 G _ _) dX10_sharing_80 (go_nm fun σ_7 eσ_7 => ?_)
        replace hw := hw σ_7 eσ_7
        obtain ⟨v6_8, ev6_8⟩ : ∃ z : Int32, z = v6 + 1 := ⟨_, rfl⟩
        replace hw := hw v6_8 ev6_8
        refine go_iinc (v := v6_8) (lv2 := [(6, .int v6_8), (5, .int v5_6), (7, .int r_1), (0, .ref (G.2.2.1 52)), (1, .int v1), (2, .int v2), (3, .int v3), (4, .int v4)]) C 7 rfl (by rw [ev6_8]; rfl) (by rw [hnl]; decide) rfl dX10_sharing_83 ?_
        refine go_goto C 11 rfl dX10_sharing_86 ?_
        refine go_sub [3, 4, 5, 6, 7, 1, 0] rfl ?_
        exact ih _ _ _ _ _ _ _ hw
set_option maxRecDepth 20000 in
set_option maxHeartbeats 4000000 in
theorem spX10_sharing {l : Launch} {G : GT} {d : Nat}  (hd : 54 ≤ d)  (hN : 75 ≤ G.2.2.2.2.2)  {a1 : Int32} {a2 : Int32} {a3 : Int32} {a4 : Int32} {σ : St} {post : Int32 → St → Prop} (hw : wpX10_sharing  a1 a2 a3 a4 σ post) : Sp l G d yX10_sharing cX10_sharing 9 (some .int) [.ref (G.2.2.1 52), .int a1, .int a2, .int a3, .int a4] σ (fun v τ => ∃ r : Int32, v = some (.int r) ∧ post r τ) := by
  refine Sp.of (by decide) (Nat.le_of_ble_eq_true rfl) fun X C hr hR hnl => ?_
  show Go X G 0 [(0, .ref (G.2.2.1 52)), (1, .int a1), (2, .int a2), (3, .int a3), (4, .int a4)] [] σ
  have hw : ∀ σ_1 : St, σ_1 = sI σ 52 10 0 →
  ∃ m_11, wbX10_sharing_11 post m_11 a1 a2 a3 a4 0 0 σ_1 := hw
  refine go_iconst (v := 0) C rfl dX10_sharing_0 ?_
  refine go_istore (lv2 := [(5, .int 0), (0, .ref (G.2.2.1 52)), (1, .int a1), (2, .int a2), (3, .int a3), (4, .int a4)]) C (by rw [hnl]; decide) rfl dX10_sharing_1 ?_
  refine go_aload_n C 1 rfl rfl dX10_sharing_3 ?_
  refine go_iconst (v := 0) C rfl dX10_sharing_4 ?_
  refine go_puti C (shX10 G) (ltX10 hN) lpX10_107 (show 10 < 11 by decide) (pxX10_10 G _ _) dX10_sharing_5 (go_nm fun σ_1 eσ_1 => ?_)
  replace hw := hw σ_1 eσ_1
  refine go_iconst (v := 0) C rfl dX10_sharing_8 ?_
  refine go_istore (lv2 := [(6, .int 0), (5, .int 0), (0, .ref (G.2.2.1 52)), (1, .int a1), (2, .int a2), (3, .int a3), (4, .int a4)]) C (by rw [hnl]; decide) rfl dX10_sharing_9 ?_
  refine go_sub [2, 3, 4, 5, 6, 1, 0] rfl ?_
  obtain ⟨n_0, hw⟩ := hw
  exact (gbX10_sharing_11 C hr hR hnl hd hN) n_0 _ _ _ _ _ _ _ hw
-- CradleNames$Trails.akinLastYear(II)I
set_option maxRecDepth 20000 in
set_option maxHeartbeats 4000000 in
theorem gbX10_akinLastYear_16 {X : XT} {G : GT} {l : Launch} {d : Nat}  {post : Int32 → St → Prop} (C : Cx X G cX10_akinLastYear RX10) (hr : Rt X G (some .int) (fun v τ => ∃ r : Int32, v = some (.int r) ∧ post r τ)) (hR : Rm X l d) (hnl : X.2.2.2.2.2.2.2.2.2.2.1 = 6)  (hd : 3 ≤ d) (hN : 75 ≤ G.2.2.2.2.2)   
    : ∀ (n : Nat) (v1 : Int32) (v2 : Int32) (v3 : Int32) (v4 : Int32) (v5 : Int32) (σ : St), wbX10_akinLastYear_16   post n v1 v2 v3 v4 v5 σ → Go X G 16 [(0, .ref (G.2.2.1 52)), (1, .int v1), (2, .int v2), (3, .int v3), (4, .int v4), (5, .int v5)] [] σ := by
  intro n
  induction n with
  | zero => intro v1 v2 v3 v4 v5 σ hw; exact hw.elim
  | succ n ih =>
    intro v1 v2 v3 v4 v5 σ hw
    have hw : (((gI σ 1 0) ≤ v5 →
      post v4 σ) ∧
    (¬ (gI σ 1 0) ≤ v5 →
      wpX5_akin v2 v5 σ (fun r_1 σ_2 =>
      ((r_1 = 0 →
        ∀ v5_3 : Int32, v5_3 = v5 + 1 →
        wbX10_akinLastYear_16 post n v1 v2 v3 v4 v5_3 σ_2) ∧
      (¬ r_1 = 0 →
        wpX0_between 0 (0 + v1) v5 v3 v3 σ_2 (fun r_4 σ_5 =>
        ∀ v4_6 : Int32, v4_6 = (v4 + r_4) →
        ∀ v5_7 : Int32, v5_7 = v5 + 1 →
        wbX10_akinLastYear_16 post n v1 v2 v3 v4_6 v5_7 σ_5)))))) := hw
    refine go_iload C 5 rfl dX10_akinLastYear_16 ?_
    refine go_aload_n C 0 rfl rfl dX10_akinLastYear_18 ?_
    refine go_get (v := .ref (G.2.2.1 1)) C (shX10 G) (ltX10 hN) lkX10_33 rfl dX10_akinLastYear_19 ?_
    refine go_get (v := .int (gI σ 1 0)) C (shX5 G) (ltX5 hN) lkX10_68 rfl dX10_akinLastYear_22 ?_
    refine go_icmp_ge C 66 rfl dX10_akinLastYear_25 (fun hc => ?_) (fun hc => ?_)
    · replace hw := hw.1 hc
      refine go_iload C 4 rfl dX10_akinLastYear_66 ?_
      exact go_iret C hr ⟨_, rfl, hw⟩ dX10_akinLastYear_68
    · replace hw := hw.2 hc
      refine go_aload_n C 0 rfl rfl dX10_akinLastYear_28 ?_
      refine go_get (v := .ref (G.2.2.1 1)) C (shX10 G) (ltX10 hN) lkX10_33 rfl dX10_akinLastYear_29 ?_
      refine go_iload_n C 2 rfl rfl dX10_akinLastYear_32 ?_
      refine go_iload C 5 rfl dX10_akinLastYear_33 ?_
      refine go_callV (as := [.int v2, .int v5]) C hR (shX5 G) (ltX5 hN) cwX10_119 (Nat.le_trans (by decide) hd) (by decide) rfl rfl (Nat.le_of_ble_eq_true rfl) dX10_akinLastYear_35 (spX5_akin (Nat.le_refl _) hN hw) (fun v_ τ_ hw => ?_)
      obtain ⟨r_1, rfl, hw⟩ := hw
      obtain ⟨σ_2, rfl⟩ : ∃ z, z = τ_ := ⟨_, rfl⟩
      refine go_if_eq C 60 rfl dX10_akinLastYear_38 (fun hc => ?_) (fun hc => ?_)
      · replace hw := hw.1 hc
        obtain ⟨v5_3, ev5_3⟩ : ∃ z : Int32, z = v5 + 1 := ⟨_, rfl⟩
        replace hw := hw v5_3 ev5_3
        refine go_iinc (v := v5_3) (lv2 := [(5, .int v5_3), (0, .ref (G.2.2.1 52)), (1, .int v1), (2, .int v2), (3, .int v3), (4, .int v4)]) C 5 rfl (by rw [ev5_3]; rfl) (by rw [hnl]; decide) rfl dX10_akinLastYear_60 ?_
        refine go_goto C 16 rfl dX10_akinLastYear_63 ?_
        refine go_sub [1, 2, 3, 4, 5, 0] rfl ?_
        exact ih _ _ _ _ _ _ hw
      · replace hw := hw.2 hc
        refine go_iload C 4 rfl dX10_akinLastYear_41 ?_
        refine go_aload_n C 0 rfl rfl dX10_akinLastYear_43 ?_
        refine go_get (v := .ref (G.2.2.1 (21 + 4 * 0))) C (shX10 G) (ltX10 hN) lkX10_41 rfl dX10_akinLastYear_44 ?_
        refine go_iconst (v := 0) C rfl dX10_akinLastYear_47 ?_
        refine go_iload_n C 1 rfl rfl dX10_akinLastYear_48 ?_
        refine go_iadd C dX10_akinLastYear_49 ?_
        refine go_iload C 5 rfl dX10_akinLastYear_50 ?_
        refine go_iload_n C 3 rfl rfl dX10_akinLastYear_52 ?_
        refine go_iload_n C 3 rfl rfl dX10_akinLastYear_53 ?_
        refine go_callV (as := [.int (0 + v1), .int v5, .int v3, .int v3]) C hR (shX0 G (show 0 < 2 by decide)) (ltX0 hN (show 0 < 2 by decide)) cwX10_45 (Nat.le_trans (by decide) hd) (by decide) rfl rfl (Nat.le_of_ble_eq_true rfl) dX10_akinLastYear_54 (spX0_between (Nat.le_refl _) hN (show 0 < 2 by decide) hw) (fun v_ τ_ hw => ?_)
        obtain ⟨r_4, rfl, hw⟩ := hw
        obtain ⟨σ_5, rfl⟩ : ∃ z, z = τ_ := ⟨_, rfl⟩
        refine go_iadd C dX10_akinLastYear_57 ?_
        refine go_topi (fun v4_6 ev4_6 => ?_)
        replace hw := hw v4_6 ev4_6
        refine go_istore (lv2 := [(4, .int v4_6), (0, .ref (G.2.2.1 52)), (1, .int v1), (2, .int v2), (3, .int v3), (5, .int v5)]) C (by rw [hnl]; decide) rfl dX10_akinLastYear_58 ?_
        obtain ⟨v5_7, ev5_7⟩ : ∃ z : Int32, z = v5 + 1 := ⟨_, rfl⟩
        replace hw := hw v5_7 ev5_7
        refine go_iinc (v := v5_7) (lv2 := [(5, .int v5_7), (4, .int v4_6), (0, .ref (G.2.2.1 52)), (1, .int v1), (2, .int v2), (3, .int v3)]) C 5 rfl (by rw [ev5_7]; rfl) (by rw [hnl]; decide) rfl dX10_akinLastYear_60 ?_
        refine go_goto C 16 rfl dX10_akinLastYear_63 ?_
        refine go_sub [2, 3, 4, 5, 1, 0] rfl ?_
        exact ih _ _ _ _ _ _ hw
set_option maxRecDepth 20000 in
set_option maxHeartbeats 4000000 in
theorem spX10_akinLastYear {l : Launch} {G : GT} {d : Nat}  (hd : 3 ≤ d)  (hN : 75 ≤ G.2.2.2.2.2)  {a1 : Int32} {a2 : Int32} {σ : St} {post : Int32 → St → Prop} (hw : wpX10_akinLastYear  a1 a2 σ post) : Sp l G d yX10_akinLastYear cX10_akinLastYear 6 (some .int) [.ref (G.2.2.1 52), .int a1, .int a2] σ (fun v τ => ∃ r : Int32, v = some (.int r) ∧ post r τ) := by
  refine Sp.of (by decide) (Nat.le_of_ble_eq_true rfl) fun X C hr hR hnl => ?_
  show Go X G 0 [(0, .ref (G.2.2.1 52)), (1, .int a1), (2, .int a2)] [] σ
  have hw : ∀ v3_1 : Int32, v3_1 = ((gI σ 9 0) - 1) →
  ∃ m_16, wbX10_akinLastYear_16 post m_16 a1 a2 v3_1 0 0 σ := hw
  refine go_aload_n C 0 rfl rfl dX10_akinLastYear_0 ?_
  refine go_get (v := .ref (G.2.2.1 9)) C (shX10 G) (ltX10 hN) lkX10_37 rfl dX10_akinLastYear_1 ?_
  refine go_get (v := .int (gI σ 9 0)) C (shX4 G) (ltX4 hN) lkX10_57 rfl dX10_akinLastYear_4 ?_
  refine go_iconst (v := 1) C rfl dX10_akinLastYear_7 ?_
  refine go_isub C dX10_akinLastYear_8 ?_
  refine go_topi (fun v3_1 ev3_1 => ?_)
  replace hw := hw v3_1 ev3_1
  refine go_istore_n (lv2 := [(3, .int v3_1), (0, .ref (G.2.2.1 52)), (1, .int a1), (2, .int a2)]) C rfl (by rw [hnl]; decide) rfl dX10_akinLastYear_9 ?_
  refine go_iconst (v := 0) C rfl dX10_akinLastYear_10 ?_
  refine go_istore (lv2 := [(4, .int 0), (3, .int v3_1), (0, .ref (G.2.2.1 52)), (1, .int a1), (2, .int a2)]) C (by rw [hnl]; decide) rfl dX10_akinLastYear_11 ?_
  refine go_iconst (v := 0) C rfl dX10_akinLastYear_13 ?_
  refine go_istore (lv2 := [(5, .int 0), (4, .int 0), (3, .int v3_1), (0, .ref (G.2.2.1 52)), (1, .int a1), (2, .int a2)]) C (by rw [hnl]; decide) rfl dX10_akinLastYear_14 ?_
  refine go_sub [3, 4, 5, 2, 1, 0] rfl ?_
  obtain ⟨n_0, hw⟩ := hw
  exact (gbX10_akinLastYear_16 C hr hR hnl hd hN) n_0 _ _ _ _ _ _ hw
-- CradleNames$Trails.firstLiving()I
set_option maxRecDepth 20000 in
set_option maxHeartbeats 4000000 in
theorem spX10_firstLiving {l : Launch} {G : GT} {d : Nat}  (hd : 2 ≤ d)  (hN : 75 ≤ G.2.2.2.2.2)   {σ : St} {post : Int32 → St → Prop} (hw : wpX10_firstLiving   σ post) : Sp l G d yX10_firstLiving cX10_firstLiving 1 (some .int) [.ref (G.2.2.1 52)] σ (fun v τ => ∃ r : Int32, v = some (.int r) ∧ post r τ) := by
  refine Sp.of (by decide) (Nat.le_of_ble_eq_true rfl) fun X C hr hR hnl => ?_
  show Go X G 0 [(0, .ref (G.2.2.1 52))] [] σ
  have hw : post (if ((gI σ 9 0) - (gI σ 9 1)) < (-40) then (-40) else ((gI σ 9 0) - (gI σ 9 1))) σ := hw
  refine go_aload_n C 0 rfl rfl dX10_firstLiving_0 ?_
  refine go_get (v := .ref (G.2.2.1 9)) C (shX10 G) (ltX10 hN) lkX10_37 rfl dX10_firstLiving_1 ?_
  refine go_get (v := .int (gI σ 9 0)) C (shX4 G) (ltX4 hN) lkX10_57 rfl dX10_firstLiving_4 ?_
  refine go_aload_n C 0 rfl rfl dX10_firstLiving_7 ?_
  refine go_get (v := .ref (G.2.2.1 9)) C (shX10 G) (ltX10 hN) lkX10_37 rfl dX10_firstLiving_8 ?_
  refine go_get (v := .int (gI σ 9 1)) C (shX4 G) (ltX4 hN) lkX10_51 rfl dX10_firstLiving_11 ?_
  refine go_isub C dX10_firstLiving_14 ?_
  refine go_bipush (v := (-40)) C rfl dX10_firstLiving_15 ?_
  refine go_mmax (d := 0) C (rm_le hR (Nat.le_trans (by decide) hd)) mlX10_122 (Nat.le_of_ble_eq_true rfl) dX10_firstLiving_17 ?_
  exact go_iret C hr ⟨_, rfl, hw⟩ dX10_firstLiving_20
-- CradleNames$Trails.halfBorn(I)I
set_option maxRecDepth 20000 in
set_option maxHeartbeats 4000000 in
theorem gbX10_halfBorn_32 {X : XT} {G : GT} {l : Launch} {d : Nat}  {post : Int32 → St → Prop} (C : Cx X G cX10_halfBorn RX10) (hr : Rt X G (some .int) (fun v τ => ∃ r : Int32, v = some (.int r) ∧ post r τ)) (hR : Rm X l d) (hnl : X.2.2.2.2.2.2.2.2.2.2.1 = 6)  (hd : 3 ≤ d) (hN : 75 ≤ G.2.2.2.2.2)   
    : ∀ (n : Nat) (v1 : Int32) (v2 : Int32) (v3 : Int32) (v4 : Int32) (v5 : Int32) (σ : St), wbX10_halfBorn_32   post n v1 v2 v3 v4 v5 σ → Go X G 32 [(0, .ref (G.2.2.1 52)), (1, .int v1), (2, .int v2), (3, .int v3), (4, .int v4), (5, .int v5)] [] σ := by
  intro n
  induction n with
  | zero => intro v1 v2 v3 v4 v5 σ hw; exact hw.elim
  | succ n ih =>
    intro v1 v2 v3 v4 v5 σ hw
    have hw : ((v3 ≤ v5 →
      post v3 σ) ∧
    (¬ v3 ≤ v5 →
      wpX0_between 0 6 v1 v2 v5 σ (fun r_1 σ_2 =>
      (((2 * r_1) < v4 →
        ∀ v5_3 : Int32, v5_3 = v5 + 1 →
        wbX10_halfBorn_32 post n v1 v2 v3 v4 v5_3 σ_2) ∧
      (¬ (2 * r_1) < v4 →
        post v5 σ_2))))) := hw
    refine go_iload C 5 rfl dX10_halfBorn_32 ?_
    refine go_iload_n C 3 rfl rfl dX10_halfBorn_34 ?_
    refine go_icmp_ge C 67 rfl dX10_halfBorn_35 (fun hc => ?_) (fun hc => ?_)
    · replace hw := hw.1 hc
      refine go_iload_n C 3 rfl rfl dX10_halfBorn_67 ?_
      exact go_iret C hr ⟨_, rfl, hw⟩ dX10_halfBorn_68
    · replace hw := hw.2 hc
      refine go_iconst (v := 2) C rfl dX10_halfBorn_38 ?_
      refine go_aload_n C 0 rfl rfl dX10_halfBorn_39 ?_
      refine go_get (v := .ref (G.2.2.1 (21 + 4 * 0))) C (shX10 G) (ltX10 hN) lkX10_41 rfl dX10_halfBorn_40 ?_
      refine go_bipush (v := 6) C rfl dX10_halfBorn_43 ?_
      refine go_iload_n C 1 rfl rfl dX10_halfBorn_45 ?_
      refine go_iload_n C 2 rfl rfl dX10_halfBorn_46 ?_
      refine go_iload C 5 rfl dX10_halfBorn_47 ?_
      refine go_callV (as := [.int 6, .int v1, .int v2, .int v5]) C hR (shX0 G (show 0 < 2 by decide)) (ltX0 hN (show 0 < 2 by decide)) cwX10_45 (Nat.le_trans (by decide) hd) (by decide) rfl rfl (Nat.le_of_ble_eq_true rfl) dX10_halfBorn_49 (spX0_between (Nat.le_refl _) hN (show 0 < 2 by decide) hw) (fun v_ τ_ hw => ?_)
      obtain ⟨r_1, rfl, hw⟩ := hw
      obtain ⟨σ_2, rfl⟩ : ∃ z, z = τ_ := ⟨_, rfl⟩
      refine go_imul C dX10_halfBorn_52 ?_
      refine go_iload C 4 rfl dX10_halfBorn_53 ?_
      refine go_icmp_lt C 61 rfl dX10_halfBorn_55 (fun hc => ?_) (fun hc => ?_)
      · replace hw := hw.1 hc
        obtain ⟨v5_3, ev5_3⟩ : ∃ z : Int32, z = v5 + 1 := ⟨_, rfl⟩
        replace hw := hw v5_3 ev5_3
        refine go_iinc (v := v5_3) (lv2 := [(5, .int v5_3), (0, .ref (G.2.2.1 52)), (1, .int v1), (2, .int v2), (3, .int v3), (4, .int v4)]) C 5 rfl (by rw [ev5_3]; rfl) (by rw [hnl]; decide) rfl dX10_halfBorn_61 ?_
        refine go_goto C 32 rfl dX10_halfBorn_64 ?_
        refine go_sub [1, 2, 3, 4, 5, 0] rfl ?_
        exact ih _ _ _ _ _ _ hw
      · replace hw := hw.2 hc
        refine go_iload C 5 rfl dX10_halfBorn_58 ?_
        exact go_iret C hr ⟨_, rfl, hw⟩ dX10_halfBorn_60
set_option maxRecDepth 20000 in
set_option maxHeartbeats 4000000 in
theorem spX10_halfBorn {l : Launch} {G : GT} {d : Nat}  (hd : 3 ≤ d)  (hN : 75 ≤ G.2.2.2.2.2)  {a1 : Int32} {σ : St} {post : Int32 → St → Prop} (hw : wpX10_halfBorn  a1 σ post) : Sp l G d yX10_halfBorn cX10_halfBorn 6 (some .int) [.ref (G.2.2.1 52), .int a1] σ (fun v τ => ∃ r : Int32, v = some (.int r) ∧ post r τ) := by
  refine Sp.of (by decide) (Nat.le_of_ble_eq_true rfl) fun X C hr hR hnl => ?_
  show Go X G 0 [(0, .ref (G.2.2.1 52)), (1, .int a1)] [] σ
  have hw : wpX10_firstLiving  σ (fun r_1 σ_2 =>
  ∀ v3_3 : Int32, v3_3 = ((gI σ_2 9 0) - 1) →
  wpX0_between 0 6 a1 r_1 v3_3 σ_2 (fun r_4 σ_5 =>
  ∃ m_32, wbX10_halfBorn_32 post m_32 a1 r_1 v3_3 r_4 r_1 σ_5)) := hw
  refine go_aload_n C 0 rfl rfl dX10_halfBorn_0 ?_
  refine go_callV (as := []) C hR (shX10 G) (ltX10 hN) cwX10_125 (Nat.le_trans (by decide) hd) (by decide) rfl rfl (Nat.le_of_ble_eq_true rfl) dX10_halfBorn_1 (spX10_firstLiving (Nat.le_refl _) hN hw) (fun v_ τ_ hw => ?_)
  obtain ⟨r_1, rfl, hw⟩ := hw
  obtain ⟨σ_2, rfl⟩ : ∃ z, z = τ_ := ⟨_, rfl⟩
  refine go_istore_n (lv2 := [(2, .int r_1), (0, .ref (G.2.2.1 52)), (1, .int a1)]) C rfl (by rw [hnl]; decide) rfl dX10_halfBorn_4 ?_
  refine go_aload_n C 1 rfl rfl dX10_halfBorn_5 ?_
  refine go_get (v := .ref (G.2.2.1 9)) C (shX10 G) (ltX10 hN) lkX10_37 rfl dX10_halfBorn_6 ?_
  refine go_get (v := .int (gI σ_2 9 0)) C (shX4 G) (ltX4 hN) lkX10_57 rfl dX10_halfBorn_9 ?_
  refine go_iconst (v := 1) C rfl dX10_halfBorn_12 ?_
  refine go_isub C dX10_halfBorn_13 ?_
  refine go_topi (fun v3_3 ev3_3 => ?_)
  replace hw := hw v3_3 ev3_3
  refine go_istore_n (lv2 := [(3, .int v3_3), (2, .int r_1), (0, .ref (G.2.2.1 52)), (1, .int a1)]) C rfl (by rw [hnl]; decide) rfl dX10_halfBorn_14 ?_
  refine go_aload_n C 2 rfl rfl dX10_halfBorn_15 ?_
  refine go_get (v := .ref (G.2.2.1 (21 + 4 * 0))) C (shX10 G) (ltX10 hN) lkX10_41 rfl dX10_halfBorn_16 ?_
  refine go_bipush (v := 6) C rfl dX10_halfBorn_19 ?_
  refine go_iload_n C 3 rfl rfl dX10_halfBorn_21 ?_
  refine go_iload_n C 1 rfl rfl dX10_halfBorn_22 ?_
  refine go_iload_n C 0 rfl rfl dX10_halfBorn_23 ?_
  refine go_callV (as := [.int 6, .int a1, .int r_1, .int v3_3]) C hR (shX0 G (show 0 < 2 by decide)) (ltX0 hN (show 0 < 2 by decide)) cwX10_45 (Nat.le_trans (by decide) hd) (by decide) rfl rfl (Nat.le_of_ble_eq_true rfl) dX10_halfBorn_24 (spX0_between (Nat.le_refl _) hN (show 0 < 2 by decide) hw) (fun v_ τ_ hw => ?_)
  obtain ⟨r_4, rfl, hw⟩ := hw
  obtain ⟨σ_5, rfl⟩ : ∃ z, z = τ_ := ⟨_, rfl⟩
  refine go_istore (lv2 := [(4, .int r_4), (3, .int v3_3), (2, .int r_1), (0, .ref (G.2.2.1 52)), (1, .int a1)]) C (by rw [hnl]; decide) rfl dX10_halfBorn_27 ?_
  refine go_iload_n C 2 rfl rfl dX10_halfBorn_29 ?_
  refine go_istore (lv2 := [(5, .int r_1), (4, .int r_4), (3, .int v3_3), (2, .int r_1), (0, .ref (G.2.2.1 52)), (1, .int a1)]) C (by rw [hnl]; decide) rfl dX10_halfBorn_30 ?_
  refine go_sub [4, 5, 3, 2, 1, 0] rfl ?_
  obtain ⟨n_0, hw⟩ := hw
  exact (gbX10_halfBorn_32 C hr hR hnl hd hN) n_0 _ _ _ _ _ _ hw
-- CradleNames$Trails.spanStart(III)I
set_option maxRecDepth 20000 in
set_option maxHeartbeats 4000000 in
theorem gbX10_spanStart_34 {X : XT} {G : GT} {l : Launch} {d : Nat}  {post : Int32 → St → Prop} (C : Cx X G cX10_spanStart RX10) (hr : Rt X G (some .int) (fun v τ => ∃ r : Int32, v = some (.int r) ∧ post r τ)) (hR : Rm X l d) (hnl : X.2.2.2.2.2.2.2.2.2.2.1 = 8)  (hd : 3 ≤ d) (hN : 75 ≤ G.2.2.2.2.2)   
    : ∀ (n : Nat) (v1 : Int32) (v2 : Int32) (v3 : Int32) (v5 : Int64) (v7 : Int32) (σ : St), wbX10_spanStart_34   post n v1 v2 v3 v5 v7 σ → Go X G 34 [(0, .ref (G.2.2.1 52)), (1, .int v1), (2, .int v2), (3, .int v3), (5, .long v5), (7, .int v7)] [] σ := by
  intro n
  induction n with
  | zero => intro v1 v2 v3 v5 v7 σ hw; exact hw.elim
  | succ n ih =>
    intro v1 v2 v3 v5 v7 σ hw
    have hw : (((gI σ 9 0) < (v7 + v3) →
      post (-1000) σ) ∧
    (¬ (gI σ 9 0) < (v7 + v3) →
      wpX0_between 0 6 v1 v7 ((v7 + v3) - 1) σ (fun r_1 σ_2 =>
      (((r_1.toInt64 * 100) < (v2.toInt64 * v5) →
        ∀ v7_3 : Int32, v7_3 = v7 + 1 →
        wbX10_spanStart_34 post n v1 v2 v3 v5 v7_3 σ_2) ∧
      (¬ (r_1.toInt64 * 100) < (v2.toInt64 * v5) →
        post v7 σ_2))))) := hw
    refine go_iload C 5 rfl dX10_spanStart_34 ?_
    refine go_iload_n C 3 rfl rfl dX10_spanStart_36 ?_
    refine go_iadd C dX10_spanStart_37 ?_
    refine go_aload_n C 0 rfl rfl dX10_spanStart_38 ?_
    refine go_get (v := .ref (G.2.2.1 9)) C (shX10 G) (ltX10 hN) lkX10_37 rfl dX10_spanStart_39 ?_
    refine go_get (v := .int (gI σ 9 0)) C (shX4 G) (ltX4 hN) lkX10_57 rfl dX10_spanStart_42 ?_
    refine go_icmp_gt C 89 rfl dX10_spanStart_45 (fun hc => ?_) (fun hc => ?_)
    · replace hw := hw.1 hc
      refine go_sipush (v := (-1000)) C rfl dX10_spanStart_89 ?_
      exact go_iret C hr ⟨_, rfl, hw⟩ dX10_spanStart_92
    · replace hw := hw.2 hc
      refine go_aload_n C 0 rfl rfl dX10_spanStart_48 ?_
      refine go_get (v := .ref (G.2.2.1 (21 + 4 * 0))) C (shX10 G) (ltX10 hN) lkX10_41 rfl dX10_spanStart_49 ?_
      refine go_bipush (v := 6) C rfl dX10_spanStart_52 ?_
      refine go_iload_n C 1 rfl rfl dX10_spanStart_54 ?_
      refine go_iload C 5 rfl dX10_spanStart_55 ?_
      refine go_iload C 5 rfl dX10_spanStart_57 ?_
      refine go_iload_n C 3 rfl rfl dX10_spanStart_59 ?_
      refine go_iadd C dX10_spanStart_60 ?_
      refine go_iconst (v := 1) C rfl dX10_spanStart_61 ?_
      refine go_isub C dX10_spanStart_62 ?_
      refine go_callV (as := [.int 6, .int v1, .int v7, .int ((v7 + v3) - 1)]) C hR (shX0 G (show 0 < 2 by decide)) (ltX0 hN (show 0 < 2 by decide)) cwX10_45 (Nat.le_trans (by decide) hd) (by decide) rfl rfl (Nat.le_of_ble_eq_true rfl) dX10_spanStart_63 (spX0_between (Nat.le_refl _) hN (show 0 < 2 by decide) hw) (fun v_ τ_ hw => ?_)
      obtain ⟨r_1, rfl, hw⟩ := hw
      obtain ⟨σ_2, rfl⟩ : ∃ z, z = τ_ := ⟨_, rfl⟩
      refine go_i2l C dX10_spanStart_66 ?_
      refine go_ldc2 (v := 100) C kcX10_132 dX10_spanStart_67 ?_
      refine go_lmul C dX10_spanStart_70 ?_
      refine go_iload_n C 2 rfl rfl dX10_spanStart_71 ?_
      refine go_i2l C dX10_spanStart_72 ?_
      refine go_lload C 4 rfl dX10_spanStart_73 ?_
      refine go_lmul C dX10_spanStart_75 ?_
      refine go_lc_lt C 83 rfl dX10_spanStart_76 dX10_spanStart_77 (fun hc => ?_) (fun hc => ?_)
      · replace hw := hw.1 hc
        obtain ⟨v7_3, ev7_3⟩ : ∃ z : Int32, z = v7 + 1 := ⟨_, rfl⟩
        replace hw := hw v7_3 ev7_3
        refine go_iinc (v := v7_3) (lv2 := [(7, .int v7_3), (0, .ref (G.2.2.1 52)), (1, .int v1), (2, .int v2), (3, .int v3), (5, .long v5)]) C 5 rfl (by rw [ev7_3]; rfl) (by rw [hnl]; decide) rfl dX10_spanStart_83 ?_
        refine go_goto C 34 rfl dX10_spanStart_86 ?_
        refine go_sub [1, 2, 3, 4, 5, 0] rfl ?_
        exact ih _ _ _ _ _ _ hw
      · replace hw := hw.2 hc
        refine go_iload C 5 rfl dX10_spanStart_80 ?_
        exact go_iret C hr ⟨_, rfl, hw⟩ dX10_spanStart_82
set_option maxRecDepth 20000 in
set_option maxHeartbeats 4000000 in
theorem spX10_spanStart {l : Launch} {G : GT} {d : Nat}  (hd : 3 ≤ d)  (hN : 75 ≤ G.2.2.2.2.2)  {a1 : Int32} {a2 : Int32} {a3 : Int32} {σ : St} {post : Int32 → St → Prop} (hw : wpX10_spanStart  a1 a2 a3 σ post) : Sp l G d yX10_spanStart cX10_spanStart 8 (some .int) [.ref (G.2.2.1 52), .int a1, .int a2, .int a3] σ (fun v τ => ∃ r : Int32, v = some (.int r) ∧ post r τ) := by
  refine Sp.of (by decide) (Nat.le_of_ble_eq_true rfl) fun X C hr hR hnl => ?_
  show Go X G 0 [(0, .ref (G.2.2.1 52)), (1, .int a1), (2, .int a2), (3, .int a3)] [] σ
  have hw : wpX10_firstLiving  σ (fun r_1 σ_2 =>
  wpX0_between 0 6 a1 r_1 ((gI σ_2 9 0) - 1) σ_2 (fun r_3 σ_4 =>
  ∀ v5_5 : Int64, v5_5 = r_3.toInt64 →
  ∃ m_34, wbX10_spanStart_34 post m_34 a1 a2 a3 v5_5 r_1 σ_4)) := hw
  refine go_aload_n C 0 rfl rfl dX10_spanStart_0 ?_
  refine go_callV (as := []) C hR (shX10 G) (ltX10 hN) cwX10_125 (Nat.le_trans (by decide) hd) (by decide) rfl rfl (Nat.le_of_ble_eq_true rfl) dX10_spanStart_1 (spX10_firstLiving (Nat.le_refl _) hN hw) (fun v_ τ_ hw => ?_)
  obtain ⟨r_1, rfl, hw⟩ := hw
  obtain ⟨σ_2, rfl⟩ : ∃ z, z = τ_ := ⟨_, rfl⟩
  refine go_istore (lv2 := [(4, .int r_1), (0, .ref (G.2.2.1 52)), (1, .int a1), (2, .int a2), (3, .int a3)]) C (by rw [hnl]; decide) rfl dX10_spanStart_4 ?_
  refine go_aload_n C 1 rfl rfl dX10_spanStart_6 ?_
  refine go_get (v := .ref (G.2.2.1 (21 + 4 * 0))) C (shX10 G) (ltX10 hN) lkX10_41 rfl dX10_spanStart_7 ?_
  refine go_bipush (v := 6) C rfl dX10_spanStart_10 ?_
  refine go_iload_n C 2 rfl rfl dX10_spanStart_12 ?_
  refine go_iload C 0 rfl dX10_spanStart_13 ?_
  refine go_aload_n C 1 rfl rfl dX10_spanStart_15 ?_
  refine go_get (v := .ref (G.2.2.1 9)) C (shX10 G) (ltX10 hN) lkX10_37 rfl dX10_spanStart_16 ?_
  refine go_get (v := .int (gI σ_2 9 0)) C (shX4 G) (ltX4 hN) lkX10_57 rfl dX10_spanStart_19 ?_
  refine go_iconst (v := 1) C rfl dX10_spanStart_22 ?_
  refine go_isub C dX10_spanStart_23 ?_
  refine go_callV (as := [.int 6, .int a1, .int r_1, .int ((gI σ_2 9 0) - 1)]) C hR (shX0 G (show 0 < 2 by decide)) (ltX0 hN (show 0 < 2 by decide)) cwX10_45 (Nat.le_trans (by decide) hd) (by decide) rfl rfl (Nat.le_of_ble_eq_true rfl) dX10_spanStart_24 (spX0_between (Nat.le_refl _) hN (show 0 < 2 by decide) hw) (fun v_ τ_ hw => ?_)
  obtain ⟨r_3, rfl, hw⟩ := hw
  obtain ⟨σ_4, rfl⟩ : ∃ z, z = τ_ := ⟨_, rfl⟩
  refine go_i2l C dX10_spanStart_27 ?_
  refine go_topl (fun v5_5 ev5_5 => ?_)
  replace hw := hw v5_5 ev5_5
  refine go_lstore (lv2 := [(5, .long v5_5), (4, .int r_1), (0, .ref (G.2.2.1 52)), (1, .int a1), (2, .int a2), (3, .int a3)]) C (by rw [hnl]; decide) rfl dX10_spanStart_28 ?_
  refine go_iload C 1 rfl dX10_spanStart_30 ?_
  refine go_istore (lv2 := [(7, .int r_1), (5, .long v5_5), (4, .int r_1), (0, .ref (G.2.2.1 52)), (1, .int a1), (2, .int a2), (3, .int a3)]) C (by rw [hnl]; decide) rfl dX10_spanStart_32 ?_
  refine go_sub [3, 4, 5, 6, 1, 0] rfl ?_
  obtain ⟨n_0, hw⟩ := hw
  exact (gbX10_spanStart_34 C hr hR hnl hd hN) n_0 _ _ _ _ _ _ hw
