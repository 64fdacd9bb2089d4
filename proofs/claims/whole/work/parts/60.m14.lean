-- CradleNamesModel.keepsText(I)V
set_option maxRecDepth 20000 in
set_option maxHeartbeats 4000000 in
theorem gbX12_keepsText_88 {X : XT} {G : GT} {l : Launch} {d : Nat}  {post : St → Prop} (C : Cx X G cX12_keepsText RX12) (hr : Rt X G none (fun v τ => v = none ∧ post τ)) (hR : Rm X l d) (hnl : X.2.2.2.2.2.2.2.2.2.2.1 = 3)  (hd : 1 ≤ d) (hN : 119 ≤ G.2.2.2.2.2)   
    : ∀ (n : Nat) (v1 : Int32) (v2 : Int32) (σ : St), wbX12_keepsText_88   post n v1 v2 σ → Go X G 88 [(0, .ref (G.2.2.1 75)), (1, .int v1), (2, .int v2)] [] σ := by
  intro n
  induction n with
  | zero => intro v1 v2 σ hw; exact hw.elim
  | succ n ih =>
    intro v1 v2 σ hw
    have hw : (((gI σ 75 35) ≤ v2 →
      post σ) ∧
    (¬ (gI σ 75 35) ≤ v2 →
      vp_in v2 400 ∧ (
      vp_in ((400 * v1) + v2) 2400 ∧ (
      ∀ σ_1 : St, σ_1 = sI σ 85 ((400 * v1) + v2).toNatClampNeg (gI σ 94 v2.toNatClampNeg) →
      vp_in v2 400 ∧ (
      vp_in ((400 * v1) + v2) 2400 ∧ (
      ∀ σ_2 : St, σ_2 = sI σ_1 86 ((400 * v1) + v2).toNatClampNeg (gI σ_1 95 v2.toNatClampNeg) →
      ∀ v2_3 : Int32, v2_3 = v2 + 1 →
      wbX12_keepsText_88 post n v1 v2_3 σ_2)))))) := hw
    refine go_iload_n C 2 rfl rfl dX12_keepsText_88 ?_
    refine go_aload_n C 0 rfl rfl dX12_keepsText_89 ?_
    refine go_get (v := .int (gI σ 75 35)) C (shX12 G) (ltX12 hN) lkX12_291 rfl dX12_keepsText_90 ?_
    refine go_icmp_ge C 138 rfl dX12_keepsText_93 (fun hc => ?_) (fun hc => ?_)
    · replace hw := hw.1 hc
      exact go_vret C hr ⟨rfl, hw⟩ dX12_keepsText_138
    · replace hw := hw.2 hc
      refine go_aload_n C 0 rfl rfl dX12_keepsText_96 ?_
      refine go_get (v := .ref (G.2.2.1 85)) C (shX12 G) (ltX12 hN) lkX12_46 rfl dX12_keepsText_97 ?_
      refine go_sipush (v := 400) C rfl dX12_keepsText_100 ?_
      refine go_iload_n C 1 rfl rfl dX12_keepsText_103 ?_
      refine go_imul C dX12_keepsText_104 ?_
      refine go_iload_n C 2 rfl rfl dX12_keepsText_105 ?_
      refine go_iadd C dX12_keepsText_106 ?_
      refine go_aload_n C 0 rfl rfl dX12_keepsText_107 ?_
      refine go_get (v := .ref (G.2.2.1 94)) C (shX12 G) (ltX12 hN) lkX12_73 rfl dX12_keepsText_108 ?_
      refine go_iload_n C 2 rfl rfl dX12_keepsText_111 ?_
      refine go_iald C (saX12_newOrder G) (laX12_newOrder hN) hw.1 dX12_keepsText_112 ?_
      replace hw := hw.2
      refine go_iast C (saX12_order G) (laX12_order hN) hw.1 dX12_keepsText_113 (go_nm fun σ_1 eσ_1 => ?_)
      replace hw := hw.2 σ_1 eσ_1
      refine go_aload_n C 0 rfl rfl dX12_keepsText_114 ?_
      refine go_get (v := .ref (G.2.2.1 86)) C (shX12 G) (ltX12 hN) lkX12_49 rfl dX12_keepsText_115 ?_
      refine go_sipush (v := 400) C rfl dX12_keepsText_118 ?_
      refine go_iload_n C 1 rfl rfl dX12_keepsText_121 ?_
      refine go_imul C dX12_keepsText_122 ?_
      refine go_iload_n C 2 rfl rfl dX12_keepsText_123 ?_
      refine go_iadd C dX12_keepsText_124 ?_
      refine go_aload_n C 0 rfl rfl dX12_keepsText_125 ?_
      refine go_get (v := .ref (G.2.2.1 95)) C (shX12 G) (ltX12 hN) lkX12_76 rfl dX12_keepsText_126 ?_
      refine go_iload_n C 2 rfl rfl dX12_keepsText_129 ?_
      refine go_iald C (saX12_newValue G) (laX12_newValue hN) hw.1 dX12_keepsText_130 ?_
      replace hw := hw.2
      refine go_iast C (saX12_value G) (laX12_value hN) hw.1 dX12_keepsText_131 (go_nm fun σ_2 eσ_2 => ?_)
      replace hw := hw.2 σ_2 eσ_2
      obtain ⟨v2_3, ev2_3⟩ : ∃ z : Int32, z = v2 + 1 := ⟨_, rfl⟩
      replace hw := hw v2_3 ev2_3
      refine go_iinc (v := v2_3) (lv2 := [(2, .int v2_3), (0, .ref (G.2.2.1 75)), (1, .int v1)]) C 2 rfl (by rw [ev2_3]; rfl) (by rw [hnl]; decide) rfl dX12_keepsText_132 ?_
      refine go_goto C 88 rfl dX12_keepsText_135 ?_
      refine go_sub [1, 2, 0] rfl ?_
      exact ih _ _ _ hw
set_option maxRecDepth 20000 in
set_option maxHeartbeats 4000000 in
theorem gbX12_keepsText_32 {X : XT} {G : GT} {l : Launch} {d : Nat}  {post : St → Prop} (C : Cx X G cX12_keepsText RX12) (hr : Rt X G none (fun v τ => v = none ∧ post τ)) (hR : Rm X l d) (hnl : X.2.2.2.2.2.2.2.2.2.2.1 = 3)  (hd : 1 ≤ d) (hN : 119 ≤ G.2.2.2.2.2)   
    : ∀ (n : Nat) (v1 : Int32) (v2 : Int32) (σ : St), wbX12_keepsText_32   post n v1 v2 σ → Go X G 32 [(0, .ref (G.2.2.1 75)), (1, .int v1), (2, .int v2)] [] σ := by
  intro n
  induction n with
  | zero => intro v1 v2 σ hw; exact hw.elim
  | succ n ih =>
    intro v1 v2 σ hw
    have hw : (((gI σ 75 30) ≤ v2 →
      ∃ m_88, wbX12_keepsText_88 post m_88 v1 0 σ) ∧
    (¬ (gI σ 75 30) ≤ v2 →
      vp_in v2 12 ∧ (
      vp_in ((12 * v1) + v2) 72 ∧ (
      ∀ σ_1 : St, σ_1 = sI σ 81 ((12 * v1) + v2).toNatClampNeg (gI σ 92 v2.toNatClampNeg) →
      vp_in v2 12 ∧ (
      vp_in ((12 * v1) + v2) 72 ∧ (
      ∀ σ_2 : St, σ_2 = sI σ_1 82 ((12 * v1) + v2).toNatClampNeg ((400 * v1) + (gI σ_1 93 v2.toNatClampNeg)) →
      ∀ v2_3 : Int32, v2_3 = v2 + 1 →
      wbX12_keepsText_32 post n v1 v2_3 σ_2)))))) := hw
    refine go_iload_n C 2 rfl rfl dX12_keepsText_32 ?_
    refine go_aload_n C 0 rfl rfl dX12_keepsText_33 ?_
    refine go_get (v := .int (gI σ 75 30)) C (shX12 G) (ltX12 hN) lkX12_356 rfl dX12_keepsText_34 ?_
    refine go_icmp_ge C 86 rfl dX12_keepsText_37 (fun hc => ?_) (fun hc => ?_)
    · replace hw := hw.1 hc
      refine go_iconst (v := 0) C rfl dX12_keepsText_86 ?_
      refine go_istore_n (lv2 := [(2, .int 0), (0, .ref (G.2.2.1 75)), (1, .int v1)]) C rfl (by rw [hnl]; decide) rfl dX12_keepsText_87 ?_
      refine go_sub [1, 2, 0] rfl ?_
      obtain ⟨n_0, hw⟩ := hw
      exact (gbX12_keepsText_88 C hr hR hnl hd hN) n_0 _ _ _ hw
    · replace hw := hw.2 hc
      refine go_aload_n C 0 rfl rfl dX12_keepsText_40 ?_
      refine go_get (v := .ref (G.2.2.1 81)) C (shX12 G) (ltX12 hN) lkX12_34 rfl dX12_keepsText_41 ?_
      refine go_bipush (v := 12) C rfl dX12_keepsText_44 ?_
      refine go_iload_n C 1 rfl rfl dX12_keepsText_46 ?_
      refine go_imul C dX12_keepsText_47 ?_
      refine go_iload_n C 2 rfl rfl dX12_keepsText_48 ?_
      refine go_iadd C dX12_keepsText_49 ?_
      refine go_aload_n C 0 rfl rfl dX12_keepsText_50 ?_
      refine go_get (v := .ref (G.2.2.1 92)) C (shX12 G) (ltX12 hN) lkX12_67 rfl dX12_keepsText_51 ?_
      refine go_iload_n C 2 rfl rfl dX12_keepsText_54 ?_
      refine go_iald C (saX12_newWord G) (laX12_newWord hN) hw.1 dX12_keepsText_55 ?_
      replace hw := hw.2
      refine go_iast C (saX12_clauseWord G) (laX12_clauseWord hN) hw.1 dX12_keepsText_56 (go_nm fun σ_1 eσ_1 => ?_)
      replace hw := hw.2 σ_1 eσ_1
      refine go_aload_n C 0 rfl rfl dX12_keepsText_57 ?_
      refine go_get (v := .ref (G.2.2.1 82)) C (shX12 G) (ltX12 hN) lkX12_37 rfl dX12_keepsText_58 ?_
      refine go_bipush (v := 12) C rfl dX12_keepsText_61 ?_
      refine go_iload_n C 1 rfl rfl dX12_keepsText_63 ?_
      refine go_imul C dX12_keepsText_64 ?_
      refine go_iload_n C 2 rfl rfl dX12_keepsText_65 ?_
      refine go_iadd C dX12_keepsText_66 ?_
      refine go_sipush (v := 400) C rfl dX12_keepsText_67 ?_
      refine go_iload_n C 1 rfl rfl dX12_keepsText_70 ?_
      refine go_imul C dX12_keepsText_71 ?_
      refine go_aload_n C 0 rfl rfl dX12_keepsText_72 ?_
      refine go_get (v := .ref (G.2.2.1 93)) C (shX12 G) (ltX12 hN) lkX12_70 rfl dX12_keepsText_73 ?_
      refine go_iload_n C 2 rfl rfl dX12_keepsText_76 ?_
      refine go_iald C (saX12_newAt G) (laX12_newAt hN) hw.1 dX12_keepsText_77 ?_
      replace hw := hw.2
      refine go_iadd C dX12_keepsText_78 ?_
      refine go_iast C (saX12_clauseAt G) (laX12_clauseAt hN) hw.1 dX12_keepsText_79 (go_nm fun σ_2 eσ_2 => ?_)
      replace hw := hw.2 σ_2 eσ_2
      obtain ⟨v2_3, ev2_3⟩ : ∃ z : Int32, z = v2 + 1 := ⟨_, rfl⟩
      replace hw := hw v2_3 ev2_3
      refine go_iinc (v := v2_3) (lv2 := [(2, .int v2_3), (0, .ref (G.2.2.1 75)), (1, .int v1)]) C 2 rfl (by rw [ev2_3]; rfl) (by rw [hnl]; decide) rfl dX12_keepsText_80 ?_
      refine go_goto C 32 rfl dX12_keepsText_83 ?_
      refine go_sub [1, 2, 0] rfl ?_
      exact ih _ _ _ hw
set_option maxRecDepth 20000 in
set_option maxHeartbeats 4000000 in
theorem spX12_keepsText {l : Launch} {G : GT} {d : Nat}  (hd : 1 ≤ d)  (hN : 119 ≤ G.2.2.2.2.2)  {a1 : Int32} {σ : St} {post : St → Prop} (hw : wpX12_keepsText  a1 σ post) : Sp l G d yX12_keepsText cX12_keepsText 3 none [.ref (G.2.2.1 75), .int a1] σ (fun v τ => v = none ∧ post τ) := by
  refine Sp.of (by decide) (Nat.le_of_ble_eq_true rfl) fun X C hr hR hnl => ?_
  show Go X G 0 [(0, .ref (G.2.2.1 75)), (1, .int a1)] [] σ
  have hw : vp_in a1 6 ∧ (
  ∀ σ_1 : St, σ_1 = sI σ 80 a1.toNatClampNeg (gI σ 75 30) →
  vp_in a1 6 ∧ (
  ∀ σ_2 : St, σ_2 = sI σ_1 83 a1.toNatClampNeg (gI σ_1 75 31) →
  vp_in a1 6 ∧ (
  ∀ σ_3 : St, σ_3 = sI σ_2 84 a1.toNatClampNeg (gI σ_2 75 32) →
  ∃ m_32, wbX12_keepsText_32 post m_32 a1 0 σ_3))) := hw
  refine go_aload_n C 0 rfl rfl dX12_keepsText_0 ?_
  refine go_get (v := .ref (G.2.2.1 80)) C (shX12 G) (ltX12 hN) lkX12_31 rfl dX12_keepsText_1 ?_
  refine go_iload_n C 1 rfl rfl dX12_keepsText_4 ?_
  refine go_aload_n C 0 rfl rfl dX12_keepsText_5 ?_
  refine go_get (v := .int (gI σ 75 30)) C (shX12 G) (ltX12 hN) lkX12_356 rfl dX12_keepsText_6 ?_
  refine go_iast C (saX12_clauses G) (laX12_clauses hN) hw.1 dX12_keepsText_9 (go_nm fun σ_1 eσ_1 => ?_)
  replace hw := hw.2 σ_1 eσ_1
  refine go_aload_n C 0 rfl rfl dX12_keepsText_10 ?_
  refine go_get (v := .ref (G.2.2.1 83)) C (shX12 G) (ltX12 hN) lkX12_40 rfl dX12_keepsText_11 ?_
  refine go_iload_n C 1 rfl rfl dX12_keepsText_14 ?_
  refine go_aload_n C 0 rfl rfl dX12_keepsText_15 ?_
  refine go_get (v := .int (gI σ_1 75 31)) C (shX12 G) (ltX12 hN) lkX12_365 rfl dX12_keepsText_16 ?_
  refine go_iast C (saX12_nearYears G) (laX12_nearYears hN) hw.1 dX12_keepsText_19 (go_nm fun σ_2 eσ_2 => ?_)
  replace hw := hw.2 σ_2 eσ_2
  refine go_aload_n C 0 rfl rfl dX12_keepsText_20 ?_
  refine go_get (v := .ref (G.2.2.1 84)) C (shX12 G) (ltX12 hN) lkX12_43 rfl dX12_keepsText_21 ?_
  refine go_iload_n C 1 rfl rfl dX12_keepsText_24 ?_
  refine go_aload_n C 0 rfl rfl dX12_keepsText_25 ?_
  refine go_get (v := .int (gI σ_2 75 32)) C (shX12 G) (ltX12 hN) lkX12_368 rfl dX12_keepsText_26 ?_
  refine go_iast C (saX12_pastYears G) (laX12_pastYears hN) hw.1 dX12_keepsText_29 (go_nm fun σ_3 eσ_3 => ?_)
  replace hw := hw.2 σ_3 eσ_3
  refine go_iconst (v := 0) C rfl dX12_keepsText_30 ?_
  refine go_istore_n (lv2 := [(2, .int 0), (0, .ref (G.2.2.1 75)), (1, .int a1)]) C rfl (by rw [hnl]; decide) rfl dX12_keepsText_31 ?_
  refine go_sub [1, 2, 0] rfl ?_
  obtain ⟨n_0, hw⟩ := hw
  exact (gbX12_keepsText_32 C hr hR hnl hd hN) n_0 _ _ _ hw
-- CradleNamesModel.taste()I
set_option maxRecDepth 20000 in
set_option maxHeartbeats 4000000 in
theorem gbX12_taste_108 {X : XT} {G : GT} {l : Launch} {d : Nat}  {post : Int32 → St → Prop} (C : Cx X G cX12_taste RX12) (hr : Rt X G (some .int) (fun v τ => ∃ r : Int32, v = some (.int r) ∧ post r τ)) (hR : Rm X l d) (hnl : X.2.2.2.2.2.2.2.2.2.2.1 = 1)  (hd : 6 ≤ d) (hN : 119 ≤ G.2.2.2.2.2)  {K86 : St → Prop} (hK86 : ∀ (σ : St), K86 σ → Go X G 86 [(0, .ref (G.2.2.1 75))] [] σ)
    : ∀ (σ : St), wbX12_taste_108  K86 post σ → Go X G 108 [(0, .ref (G.2.2.1 75))] [] σ := by
  intro σ hw
  have hw : ∀ x_1 : Int32, x_1 = (gI σ 75 29) →
  ((x_1 = 0 →
    wpX12_asks  σ (fun σ_3 =>
    K86 σ_3)) ∧
  (¬ x_1 = 0 →
  ((x_1 = 1 →
    wpX12_begins  σ (fun σ_5 =>
    K86 σ_5)) ∧
  (¬ x_1 = 1 →
  ((x_1 = 2 →
    wpX12_goesOn  σ (fun σ_7 =>
    K86 σ_7)) ∧
  (¬ x_1 = 2 →
  ((x_1 = 3 →
    wpX12_asksOn  σ (fun σ_9 =>
    K86 σ_9)) ∧
  (¬ x_1 = 3 →
  wpX12_clause  σ (fun σ_11 =>
  K86 σ_11))))))))) := hw
  refine go_aload_n C 0 rfl rfl dX12_taste_108 ?_
  refine go_get (v := .int (gI σ 75 29)) C (shX12 G) (ltX12 hN) lkX12_328 rfl dX12_taste_109 ?_
  refine go_topi (fun x_1 ex_1 => ?_)
  replace hw := hw x_1 ex_1
  by_cases hc0 : x_1 = 0
  · replace hw := hw.1 hc0
    refine go_tableIn C 144 (by rw [hc0]; decide) (by rw [hc0]; decide) (by rw [hc0]; rfl) rfl dX12_taste_112 ?_
    refine go_aload_n C 0 rfl rfl dX12_taste_144 ?_
    refine go_callV (as := []) C hR (shX12 G) (ltX12 hN) cwX12_371 (Nat.le_trans (by decide) hd) (by decide) rfl rfl (Nat.le_of_ble_eq_true rfl) dX12_taste_145 (spX12_asks (Nat.le_refl _) hN hw) (fun v_ τ_ hw => ?_)
    obtain ⟨rfl, hw⟩ := hw
    obtain ⟨σ_3, rfl⟩ : ∃ z, z = τ_ := ⟨_, rfl⟩
    refine go_goto C 86 rfl dX12_taste_148 ?_
    exact hK86 _ hw
  replace hw := hw.2 hc0
  by_cases hc1 : x_1 = 1
  · replace hw := hw.1 hc1
    refine go_tableIn C 151 (by rw [hc1]; decide) (by rw [hc1]; decide) (by rw [hc1]; rfl) rfl dX12_taste_112 ?_
    refine go_aload_n C 0 rfl rfl dX12_taste_151 ?_
    refine go_callV (as := []) C hR (shX12 G) (ltX12 hN) cwX12_374 (Nat.le_trans (by decide) hd) (by decide) rfl rfl (Nat.le_of_ble_eq_true rfl) dX12_taste_152 (spX12_begins (Nat.le_refl _) hN hw) (fun v_ τ_ hw => ?_)
    obtain ⟨rfl, hw⟩ := hw
    obtain ⟨σ_5, rfl⟩ : ∃ z, z = τ_ := ⟨_, rfl⟩
    refine go_goto C 86 rfl dX12_taste_155 ?_
    exact hK86 _ hw
  replace hw := hw.2 hc1
  by_cases hc2 : x_1 = 2
  · replace hw := hw.1 hc2
    refine go_tableIn C 158 (by rw [hc2]; decide) (by rw [hc2]; decide) (by rw [hc2]; rfl) rfl dX12_taste_112 ?_
    refine go_aload_n C 0 rfl rfl dX12_taste_158 ?_
    refine go_callV (as := []) C hR (shX12 G) (ltX12 hN) cwX12_377 (Nat.le_trans (by decide) hd) (by decide) rfl rfl (Nat.le_of_ble_eq_true rfl) dX12_taste_159 (spX12_goesOn (Nat.le_refl _) hN hw) (fun v_ τ_ hw => ?_)
    obtain ⟨rfl, hw⟩ := hw
    obtain ⟨σ_7, rfl⟩ : ∃ z, z = τ_ := ⟨_, rfl⟩
    refine go_goto C 86 rfl dX12_taste_162 ?_
    exact hK86 _ hw
  replace hw := hw.2 hc2
  by_cases hc3 : x_1 = 3
  · replace hw := hw.1 hc3
    refine go_tableIn C 165 (by rw [hc3]; decide) (by rw [hc3]; decide) (by rw [hc3]; rfl) rfl dX12_taste_112 ?_
    refine go_aload_n C 0 rfl rfl dX12_taste_165 ?_
    refine go_callV (as := []) C hR (shX12 G) (ltX12 hN) cwX12_380 (Nat.le_trans (by decide) hd) (by decide) rfl rfl (Nat.le_of_ble_eq_true rfl) dX12_taste_166 (spX12_asksOn (Nat.le_refl _) hN hw) (fun v_ τ_ hw => ?_)
    obtain ⟨rfl, hw⟩ := hw
    obtain ⟨σ_9, rfl⟩ : ∃ z, z = τ_ := ⟨_, rfl⟩
    refine go_goto C 86 rfl dX12_taste_169 ?_
    exact hK86 _ hw
  replace hw := hw.2 hc3
  refine go_tableOut C 172 (by have g0 := lv_neT hc0 (show (0 : Int32).toInt = 0 from rfl); have g1 := lv_neT hc1 (show (1 : Int32).toInt = 1 from rfl); have g2 := lv_neT hc2 (show (2 : Int32).toInt = 2 from rfl); have g3 := lv_neT hc3 (show (3 : Int32).toInt = 3 from rfl); omega) rfl dX12_taste_112 ?_
  refine go_aload_n C 0 rfl rfl dX12_taste_172 ?_
  refine go_callV (as := []) C hR (shX12 G) (ltX12 hN) cwX12_383 (Nat.le_trans (by decide) hd) (by decide) rfl rfl (Nat.le_of_ble_eq_true rfl) dX12_taste_173 (spX12_clause (Nat.le_refl _) hN hw) (fun v_ τ_ hw => ?_)
  obtain ⟨rfl, hw⟩ := hw
  obtain ⟨σ_11, rfl⟩ : ∃ z, z = τ_ := ⟨_, rfl⟩
  refine go_goto C 86 rfl dX12_taste_176 ?_
  exact hK86 _ hw
set_option maxRecDepth 20000 in
set_option maxHeartbeats 4000000 in
theorem gbX12_taste_179 {X : XT} {G : GT} {l : Launch} {d : Nat}  {post : Int32 → St → Prop} (C : Cx X G cX12_taste RX12) (hr : Rt X G (some .int) (fun v τ => ∃ r : Int32, v = some (.int r) ∧ post r τ)) (hR : Rm X l d) (hnl : X.2.2.2.2.2.2.2.2.2.2.1 = 1)  (hd : 6 ≤ d) (hN : 119 ≤ G.2.2.2.2.2)   
    : ∀ (σ : St), wbX12_taste_179   post σ → Go X G 179 [(0, .ref (G.2.2.1 75))] [] σ := by
  intro σ hw
  have hw : ∀ σ_1 : St, σ_1 = sI σ 75 5 (gI σ 75 19) →
  ∀ σ_2 : St, σ_2 = sI σ_1 75 6 (gI σ_1 75 20) →
  (((gI σ_2 75 19) ≤ 0 →
    vp_in 4 9680 ∧ (
    wpX12_keepsText (gI σ_2 76 (4 : Int32).toNatClampNeg) σ_2 (fun σ_4 =>
    vp_in 4 9680 ∧ (
    vp_in 4 9680 ∧ (
    ∀ σ_5 : St, σ_5 = sI σ_4 76 (4 : Int32).toNatClampNeg ((gI σ_4 76 (4 : Int32).toNatClampNeg) + 1) →
    vp_in 4 9680 ∧ (
    post ((gI σ_5 76 (4 : Int32).toNatClampNeg) - 1) σ_5)))))) ∧
  (¬ (gI σ_2 75 19) ≤ 0 →
    post (-1) σ_2)) := hw
  refine go_aload_n C 0 rfl rfl dX12_taste_179 ?_
  refine go_aload_n C 0 rfl rfl dX12_taste_180 ?_
  refine go_get (v := .int (gI σ 75 19)) C (shX12 G) (ltX12 hN) lkX12_285 rfl dX12_taste_181 ?_
  refine go_puti C (shX12 G) (ltX12 hN) lpX12_24 (show 5 < 64 by decide) (pxX12_5 G _ _) dX12_taste_184 (go_nm fun σ_1 eσ_1 => ?_)
  replace hw := hw σ_1 eσ_1
  refine go_aload_n C 0 rfl rfl dX12_taste_187 ?_
  refine go_aload_n C 0 rfl rfl dX12_taste_188 ?_
  refine go_get (v := .int (gI σ_1 75 20)) C (shX12 G) (ltX12 hN) lkX12_288 rfl dX12_taste_189 ?_
  refine go_puti C (shX12 G) (ltX12 hN) lpX12_28 (show 6 < 64 by decide) (pxX12_6 G _ _) dX12_taste_192 (go_nm fun σ_2 eσ_2 => ?_)
  replace hw := hw σ_2 eσ_2
  refine go_aload_n C 0 rfl rfl dX12_taste_195 ?_
  refine go_get (v := .int (gI σ_2 75 19)) C (shX12 G) (ltX12 hN) lkX12_285 rfl dX12_taste_196 ?_
  refine go_if_le C 204 rfl dX12_taste_199 (fun hc => ?_) (fun hc => ?_)
  · replace hw := hw.1 hc
    refine go_aload_n C 0 rfl rfl dX12_taste_204 ?_
    refine go_aload_n C 0 rfl rfl dX12_taste_205 ?_
    refine go_get (v := .ref (G.2.2.1 76)) C (shX12 G) (ltX12 hN) lkX12_7 rfl dX12_taste_206 ?_
    refine go_iconst (v := 4) C rfl dX12_taste_209 ?_
    refine go_iald C (saX12_a G) (laX12_a hN) hw.1 dX12_taste_210 ?_
    replace hw := hw.2
    refine go_callV (as := [.int (gI σ_2 76 (4 : Int32).toNatClampNeg)]) C hR (shX12 G) (ltX12 hN) cwX12_386 (Nat.le_trans (by decide) hd) (by decide) rfl rfl (Nat.le_of_ble_eq_true rfl) dX12_taste_211 (spX12_keepsText (Nat.le_refl _) hN hw) (fun v_ τ_ hw => ?_)
    obtain ⟨rfl, hw⟩ := hw
    obtain ⟨σ_4, rfl⟩ : ∃ z, z = τ_ := ⟨_, rfl⟩
    refine go_aload_n C 0 rfl rfl dX12_taste_214 ?_
    refine go_get (v := .ref (G.2.2.1 76)) C (shX12 G) (ltX12 hN) lkX12_7 rfl dX12_taste_215 ?_
    refine go_iconst (v := 4) C rfl dX12_taste_218 ?_
    refine go_dup2 C rfl rfl dX12_taste_219 ?_
    refine go_iald C (saX12_a G) (laX12_a hN) hw.1 dX12_taste_220 ?_
    replace hw := hw.2
    refine go_iconst (v := 1) C rfl dX12_taste_221 ?_
    refine go_iadd C dX12_taste_222 ?_
    refine go_iast C (saX12_a G) (laX12_a hN) hw.1 dX12_taste_223 (go_nm fun σ_5 eσ_5 => ?_)
    replace hw := hw.2 σ_5 eσ_5
    refine go_aload_n C 0 rfl rfl dX12_taste_224 ?_
    refine go_get (v := .ref (G.2.2.1 76)) C (shX12 G) (ltX12 hN) lkX12_7 rfl dX12_taste_225 ?_
    refine go_iconst (v := 4) C rfl dX12_taste_228 ?_
    refine go_iald C (saX12_a G) (laX12_a hN) hw.1 dX12_taste_229 ?_
    replace hw := hw.2
    refine go_iconst (v := 1) C rfl dX12_taste_230 ?_
    refine go_isub C dX12_taste_231 ?_
    exact go_iret C hr ⟨_, rfl, hw⟩ dX12_taste_232
  · replace hw := hw.2 hc
    refine go_iconst (v := (-1)) C rfl dX12_taste_202 ?_
    exact go_iret C hr ⟨_, rfl, hw⟩ dX12_taste_203
set_option maxRecDepth 20000 in
set_option maxHeartbeats 4000000 in
theorem gbX12_taste_86 {X : XT} {G : GT} {l : Launch} {d : Nat}  {post : Int32 → St → Prop} (C : Cx X G cX12_taste RX12) (hr : Rt X G (some .int) (fun v τ => ∃ r : Int32, v = some (.int r) ∧ post r τ)) (hR : Rm X l d) (hnl : X.2.2.2.2.2.2.2.2.2.2.1 = 1)  (hd : 6 ≤ d) (hN : 119 ≤ G.2.2.2.2.2)   
    : ∀ (n : Nat) (σ : St), wbX12_taste_86   post n σ → Go X G 86 [(0, .ref (G.2.2.1 75))] [] σ := by
  intro n
  induction n with
  | zero => intro σ hw; exact hw.elim
  | succ n ih =>
    intro σ hw
    have hw : ((¬ (gI σ 75 19) = 0 →
      wbX12_taste_179 post σ) ∧
    ((gI σ 75 19) = 0 →
      ((¬ (gI σ 75 29) = 4 →
        wbX12_taste_108 (wbX12_taste_86 post n) post σ) ∧
      ((gI σ 75 29) = 4 →
        (((gI σ 75 17) = 0 →
          wbX12_taste_179 post σ) ∧
        (¬ (gI σ 75 17) = 0 →
          wbX12_taste_108 (wbX12_taste_86 post n) post σ)))))) := hw
    refine go_aload_n C 0 rfl rfl dX12_taste_86 ?_
    refine go_get (v := .int (gI σ 75 19)) C (shX12 G) (ltX12 hN) lkX12_285 rfl dX12_taste_87 ?_
    refine go_if_ne C 179 rfl dX12_taste_90 (fun hc => ?_) (fun hc => ?_)
    · replace hw := hw.1 hc
      exact (gbX12_taste_179 C hr hR hnl hd hN) _ hw
    · replace hw := hw.2 hc
      refine go_aload_n C 0 rfl rfl dX12_taste_93 ?_
      refine go_get (v := .int (gI σ 75 29)) C (shX12 G) (ltX12 hN) lkX12_328 rfl dX12_taste_94 ?_
      refine go_iconst (v := 4) C rfl dX12_taste_97 ?_
      refine go_icmp_ne C 108 rfl dX12_taste_98 (fun hc => ?_) (fun hc => ?_)
      · replace hw := hw.1 hc
        exact (gbX12_taste_108 C hr hR hnl hd hN ih) _ hw
      · replace hw := hw.2 hc
        refine go_aload_n C 0 rfl rfl dX12_taste_101 ?_
        refine go_get (v := .int (gI σ 75 17)) C (shX12 G) (ltX12 hN) lkX12_270 rfl dX12_taste_102 ?_
        refine go_if_eq C 179 rfl dX12_taste_105 (fun hc => ?_) (fun hc => ?_)
        · replace hw := hw.1 hc
          exact (gbX12_taste_179 C hr hR hnl hd hN) _ hw
        · replace hw := hw.2 hc
          exact (gbX12_taste_108 C hr hR hnl hd hN ih) _ hw
set_option maxRecDepth 20000 in
set_option maxHeartbeats 4000000 in
theorem spX12_taste {l : Launch} {G : GT} {d : Nat}  (hd : 6 ≤ d)  (hN : 119 ≤ G.2.2.2.2.2)   {σ : St} {post : Int32 → St → Prop} (hw : wpX12_taste   σ post) : Sp l G d yX12_taste cX12_taste 1 (some .int) [.ref (G.2.2.1 75)] σ (fun v τ => ∃ r : Int32, v = some (.int r) ∧ post r τ) := by
  refine Sp.of (by decide) (Nat.le_of_ble_eq_true rfl) fun X C hr hR hnl => ?_
  show Go X G 0 [(0, .ref (G.2.2.1 75))] [] σ
  have hw : vp_in 4 9680 ∧ (
  ((¬ (gI σ 76 (4 : Int32).toNatClampNeg) = 6 →
    ∀ σ_1 : St, σ_1 = sI σ 75 14 (gI σ 75 4) →
    ∀ σ_2 : St, σ_2 = sI σ_1 75 4 0 →
    ∀ σ_3 : St, σ_3 = sI σ_2 75 15 0 →
    ∀ σ_4 : St, σ_4 = sI σ_3 75 19 0 →
    ∀ σ_5 : St, σ_5 = sI σ_4 75 20 (-1) →
    ∀ σ_6 : St, σ_6 = sI σ_5 75 21 0 →
    ∀ σ_7 : St, σ_7 = sI σ_6 75 22 0 →
    ∀ σ_8 : St, σ_8 = sI σ_7 75 26 0 →
    ∀ σ_9 : St, σ_9 = sI σ_8 75 29 4 →
    ∀ σ_10 : St, σ_10 = sI σ_9 75 30 0 →
    ∀ σ_11 : St, σ_11 = sI σ_10 75 35 0 →
    ∀ σ_12 : St, σ_12 = sI σ_11 75 31 5 →
    ∀ σ_13 : St, σ_13 = sI σ_12 75 32 50 →
    wpX12_next  σ_13 (fun σ_15 =>
    ∃ m_86, wbX12_taste_86 post m_86 σ_15)) ∧
  ((gI σ 76 (4 : Int32).toNatClampNeg) = 6 →
    post (-1) σ))) := hw
  refine go_aload_n C 0 rfl rfl dX12_taste_0 ?_
  refine go_get (v := .ref (G.2.2.1 76)) C (shX12 G) (ltX12 hN) lkX12_7 rfl dX12_taste_1 ?_
  refine go_iconst (v := 4) C rfl dX12_taste_4 ?_
  refine go_iald C (saX12_a G) (laX12_a hN) hw.1 dX12_taste_5 ?_
  replace hw := hw.2
  refine go_bipush (v := 6) C rfl dX12_taste_6 ?_
  refine go_icmp_ne C 13 rfl dX12_taste_8 (fun hc => ?_) (fun hc => ?_)
  · replace hw := hw.1 hc
    refine go_aload_n C 0 rfl rfl dX12_taste_13 ?_
    refine go_aload_n C 0 rfl rfl dX12_taste_14 ?_
    refine go_get (v := .int (gI σ 75 4)) C (shX12 G) (ltX12 hN) lkX12_210 rfl dX12_taste_15 ?_
    refine go_puti C (shX12 G) (ltX12 hN) lpX12_264 (show 14 < 64 by decide) (pxX12_14 G _ _) dX12_taste_18 (go_nm fun σ_1 eσ_1 => ?_)
    replace hw := hw σ_1 eσ_1
    refine go_aload_n C 0 rfl rfl dX12_taste_21 ?_
    refine go_iconst (v := 0) C rfl dX12_taste_22 ?_
    refine go_puti C (shX12 G) (ltX12 hN) lpX12_210 (show 4 < 64 by decide) (pxX12_4 G _ _) dX12_taste_23 (go_nm fun σ_2 eσ_2 => ?_)
    replace hw := hw σ_2 eσ_2
    refine go_aload_n C 0 rfl rfl dX12_taste_26 ?_
    refine go_iconst (v := 0) C rfl dX12_taste_27 ?_
    refine go_puti C (shX12 G) (ltX12 hN) lpX12_261 (show 15 < 64 by decide) (pxX12_15 G _ _) dX12_taste_28 (go_nm fun σ_3 eσ_3 => ?_)
    replace hw := hw σ_3 eσ_3
    refine go_aload_n C 0 rfl rfl dX12_taste_31 ?_
    refine go_iconst (v := 0) C rfl dX12_taste_32 ?_
    refine go_puti C (shX12 G) (ltX12 hN) lpX12_285 (show 19 < 64 by decide) (pxX12_19 G _ _) dX12_taste_33 (go_nm fun σ_4 eσ_4 => ?_)
    replace hw := hw σ_4 eσ_4
    refine go_aload_n C 0 rfl rfl dX12_taste_36 ?_
    refine go_iconst (v := (-1)) C rfl dX12_taste_37 ?_
    refine go_puti C (shX12 G) (ltX12 hN) lpX12_288 (show 20 < 64 by decide) (pxX12_20 G _ _) dX12_taste_38 (go_nm fun σ_5 eσ_5 => ?_)
    replace hw := hw σ_5 eσ_5
    refine go_aload_n C 0 rfl rfl dX12_taste_41 ?_
    refine go_iconst (v := 0) C rfl dX12_taste_42 ?_
    refine go_puti C (shX12 G) (ltX12 hN) lpX12_297 (show 21 < 64 by decide) (pxX12_21 G _ _) dX12_taste_43 (go_nm fun σ_6 eσ_6 => ?_)
    replace hw := hw σ_6 eσ_6
    refine go_aload_n C 0 rfl rfl dX12_taste_46 ?_
    refine go_iconst (v := 0) C rfl dX12_taste_47 ?_
    refine go_puti C (shX12 G) (ltX12 hN) lpX12_294 (show 22 < 64 by decide) (pxX12_22 G _ _) dX12_taste_48 (go_nm fun σ_7 eσ_7 => ?_)
    replace hw := hw σ_7 eσ_7
    refine go_aload_n C 0 rfl rfl dX12_taste_51 ?_
    refine go_iconst (v := 0) C rfl dX12_taste_52 ?_
    refine go_puti C (shX12 G) (ltX12 hN) lpX12_309 (show 26 < 64 by decide) (pxX12_26 G _ _) dX12_taste_53 (go_nm fun σ_8 eσ_8 => ?_)
    replace hw := hw σ_8 eσ_8
    refine go_aload_n C 0 rfl rfl dX12_taste_56 ?_
    refine go_iconst (v := 4) C rfl dX12_taste_57 ?_
    refine go_puti C (shX12 G) (ltX12 hN) lpX12_328 (show 29 < 64 by decide) (pxX12_29 G _ _) dX12_taste_58 (go_nm fun σ_9 eσ_9 => ?_)
    replace hw := hw σ_9 eσ_9
    refine go_aload_n C 0 rfl rfl dX12_taste_61 ?_
    refine go_iconst (v := 0) C rfl dX12_taste_62 ?_
    refine go_puti C (shX12 G) (ltX12 hN) lpX12_356 (show 30 < 64 by decide) (pxX12_30 G _ _) dX12_taste_63 (go_nm fun σ_10 eσ_10 => ?_)
    replace hw := hw σ_10 eσ_10
    refine go_aload_n C 0 rfl rfl dX12_taste_66 ?_
    refine go_iconst (v := 0) C rfl dX12_taste_67 ?_
    refine go_puti C (shX12 G) (ltX12 hN) lpX12_291 (show 35 < 64 by decide) (pxX12_35 G _ _) dX12_taste_68 (go_nm fun σ_11 eσ_11 => ?_)
    replace hw := hw σ_11 eσ_11
    refine go_aload_n C 0 rfl rfl dX12_taste_71 ?_
    refine go_iconst (v := 5) C rfl dX12_taste_72 ?_
    refine go_puti C (shX12 G) (ltX12 hN) lpX12_365 (show 31 < 64 by decide) (pxX12_31 G _ _) dX12_taste_73 (go_nm fun σ_12 eσ_12 => ?_)
    replace hw := hw σ_12 eσ_12
    refine go_aload_n C 0 rfl rfl dX12_taste_76 ?_
    refine go_bipush (v := 50) C rfl dX12_taste_77 ?_
    refine go_puti C (shX12 G) (ltX12 hN) lpX12_368 (show 32 < 64 by decide) (pxX12_32 G _ _) dX12_taste_79 (go_nm fun σ_13 eσ_13 => ?_)
    replace hw := hw σ_13 eσ_13
    refine go_aload_n C 0 rfl rfl dX12_taste_82 ?_
    refine go_callV (as := []) C hR (shX12 G) (ltX12 hN) cwX12_306 (Nat.le_trans (by decide) hd) (by decide) rfl rfl (Nat.le_of_ble_eq_true rfl) dX12_taste_83 (spX12_next (Nat.le_refl _) hN hw) (fun v_ τ_ hw => ?_)
    obtain ⟨rfl, hw⟩ := hw
    obtain ⟨σ_15, rfl⟩ : ∃ z, z = τ_ := ⟨_, rfl⟩
    obtain ⟨n_0, hw⟩ := hw
    exact (gbX12_taste_86 C hr hR hnl hd hN) n_0 _ hw
  · replace hw := hw.2 hc
    refine go_iconst (v := (-1)) C rfl dX12_taste_11 ?_
    exact go_iret C hr ⟨_, rfl, hw⟩ dX12_taste_12
-- CradleNamesModel.fault(I)I
set_option maxRecDepth 20000 in
set_option maxHeartbeats 4000000 in
theorem spX12_fault {l : Launch} {G : GT} {d : Nat}  (hd : 1 ≤ d)  (hN : 119 ≤ G.2.2.2.2.2)  {a1 : Int32} {σ : St} {post : Int32 → St → Prop} (hw : wpX12_fault  a1 σ post) : Sp l G d yX12_fault cX12_fault 2 (some .int) [.ref (G.2.2.1 75), .int a1] σ (fun v τ => ∃ r : Int32, v = some (.int r) ∧ post r τ) := by
  refine Sp.of (by decide) (Nat.le_of_ble_eq_true rfl) fun X C hr hR hnl => ?_
  show Go X G 0 [(0, .ref (G.2.2.1 75)), (1, .int a1)] [] σ
  have hw : ((¬ a1 = 0 →
    ((¬ a1 = 1 →
      post (-1) σ) ∧
    (a1 = 1 →
      post (gI σ 75 6) σ))) ∧
  (a1 = 0 →
    post (gI σ 75 5) σ)) := hw
  refine go_iload_n C 1 rfl rfl dX12_fault_0 ?_
  refine go_if_ne C 11 rfl dX12_fault_1 (fun hc => ?_) (fun hc => ?_)
  · replace hw := hw.1 hc
    refine go_iload_n C 1 rfl rfl dX12_fault_11 ?_
    refine go_iconst (v := 1) C rfl dX12_fault_12 ?_
    refine go_icmp_ne C 23 rfl dX12_fault_13 (fun hc => ?_) (fun hc => ?_)
    · replace hw := hw.1 hc
      refine go_iconst (v := (-1)) C rfl dX12_fault_23 ?_
      exact go_iret C hr ⟨_, rfl, hw⟩ dX12_fault_24
    · replace hw := hw.2 hc
      refine go_aload_n C 0 rfl rfl dX12_fault_16 ?_
      refine go_get (v := .int (gI σ 75 6)) C (shX12 G) (ltX12 hN) lkX12_28 rfl dX12_fault_17 ?_
      refine go_goto C 24 rfl dX12_fault_20 ?_
      exact go_iret C hr ⟨_, rfl, hw⟩ dX12_fault_24
  · replace hw := hw.2 hc
    refine go_aload_n C 0 rfl rfl dX12_fault_4 ?_
    refine go_get (v := .int (gI σ 75 5)) C (shX12 G) (ltX12 hN) lkX12_24 rfl dX12_fault_5 ?_
    refine go_goto C 24 rfl dX12_fault_8 ?_
    exact go_iret C hr ⟨_, rfl, hw⟩ dX12_fault_24
-- CradleNamesModel.by(II)Z
set_option maxRecDepth 20000 in
set_option maxHeartbeats 4000000 in
theorem gbX12_by_24 {X : XT} {G : GT} {l : Launch} {d : Nat}  {post : Int32 → St → Prop} (C : Cx X G cX12_by RX12) (hr : Rt X G (some .boolean) (fun v τ => ∃ r : Int32, v = some (.int r) ∧ post r τ)) (hR : Rm X l d) (hnl : X.2.2.2.2.2.2.2.2.2.2.1 = 3)  (hd : 3 ≤ d) (hN : 119 ≤ G.2.2.2.2.2)   
    : ∀ (v1 : Int32) (v2 : Int32) (σ : St), wbX12_by_24   post v1 v2 σ → Go X G 24 [(0, .ref (G.2.2.1 75)), (1, .int v1), (2, .int v2)] [] σ := by
  intro v1 v2 σ hw
  have hw : vp_in (7 + v1) 9680 ∧ (
  ∀ σ_1 : St, σ_1 = sI σ 76 (7 + v1).toNatClampNeg v2 →
  post 1 σ_1) := hw
  refine go_aload_n C 0 rfl rfl dX12_by_24 ?_
  refine go_get (v := .ref (G.2.2.1 76)) C (shX12 G) (ltX12 hN) lkX12_7 rfl dX12_by_25 ?_
  refine go_bipush (v := 7) C rfl dX12_by_28 ?_
  refine go_iload_n C 1 rfl rfl dX12_by_30 ?_
  refine go_iadd C dX12_by_31 ?_
  refine go_iload_n C 2 rfl rfl dX12_by_32 ?_
  refine go_iast C (saX12_a G) (laX12_a hN) hw.1 dX12_by_33 (go_nm fun σ_1 eσ_1 => ?_)
  replace hw := hw.2 σ_1 eσ_1
  refine go_iconst (v := 1) C rfl dX12_by_34 ?_
  exact go_zret C hr rfl ⟨_, rfl, hw⟩ dX12_by_35
set_option maxRecDepth 20000 in
set_option maxHeartbeats 4000000 in
theorem spX12_by {l : Launch} {G : GT} {d : Nat}  (hd : 3 ≤ d)  (hN : 119 ≤ G.2.2.2.2.2)  {a1 : Int32} {a2 : Int32} {σ : St} {post : Int32 → St → Prop} (hw : wpX12_by  a1 a2 σ post) : Sp l G d yX12_by cX12_by 3 (some .boolean) [.ref (G.2.2.1 75), .int a1, .int a2] σ (fun v τ => ∃ r : Int32, v = some (.int r) ∧ post r τ) := by
  refine Sp.of (by decide) (Nat.le_of_ble_eq_true rfl) fun X C hr hR hnl => ?_
  show Go X G 0 [(0, .ref (G.2.2.1 75)), (1, .int a1), (2, .int a2)] [] σ
  have hw : wpX12_in a1 0 1 σ (fun r_1 σ_2 =>
  ((r_1 = 0 →
    post 0 σ_2) ∧
  (¬ r_1 = 0 →
    ((a2 = (-1) →
      wbX12_by_24 post a1 a2 σ_2) ∧
    (¬ a2 = (-1) →
      wpX12_isTaste a2 σ_2 (fun r_3 σ_4 =>
      ((¬ r_3 = 0 →
        wbX12_by_24 post a1 a2 σ_4) ∧
      (r_3 = 0 →
        post 0 σ_4)))))))) := hw
  refine go_iload_n C 1 rfl rfl dX12_by_0 ?_
  refine go_iconst (v := 0) C rfl dX12_by_1 ?_
  refine go_iconst (v := 1) C rfl dX12_by_2 ?_
  refine go_callS (as := [.int a1, .int 0, .int 1]) C hR cwX12_152 (Nat.le_trans (by decide) hd) (by decide) rfl rfl (Nat.le_of_ble_eq_true rfl) dX12_by_3 (spX12_in (Nat.le_refl _) hN hw) (fun v_ τ_ hw => ?_)
  obtain ⟨r_1, rfl, hw⟩ := hw
  obtain ⟨σ_2, rfl⟩ : ∃ z, z = τ_ := ⟨_, rfl⟩
  refine go_if_eq C 22 rfl dX12_by_6 (fun hc => ?_) (fun hc => ?_)
  · replace hw := hw.1 hc
    refine go_iconst (v := 0) C rfl dX12_by_22 ?_
    exact go_zret C hr rfl ⟨_, rfl, hw⟩ dX12_by_23
  · replace hw := hw.2 hc
    refine go_iload_n C 2 rfl rfl dX12_by_9 ?_
    refine go_iconst (v := (-1)) C rfl dX12_by_10 ?_
    refine go_icmp_eq C 24 rfl dX12_by_11 (fun hc => ?_) (fun hc => ?_)
    · replace hw := hw.1 hc
      exact (gbX12_by_24 C hr hR hnl hd hN) _ _ _ hw
    · replace hw := hw.2 hc
      refine go_aload_n C 0 rfl rfl dX12_by_14 ?_
      refine go_iload_n C 2 rfl rfl dX12_by_15 ?_
      refine go_callV (as := [.int a2]) C hR (shX12 G) (ltX12 hN) cwX12_404 (Nat.le_trans (by decide) hd) (by decide) rfl rfl (Nat.le_of_ble_eq_true rfl) dX12_by_16 (spX12_isTaste (Nat.le_refl _) hN hw) (fun v_ τ_ hw => ?_)
      obtain ⟨r_3, rfl, hw⟩ := hw
      obtain ⟨σ_4, rfl⟩ : ∃ z, z = τ_ := ⟨_, rfl⟩
      refine go_if_ne C 24 rfl dX12_by_19 (fun hc => ?_) (fun hc => ?_)
      · replace hw := hw.1 hc
        exact (gbX12_by_24 C hr hR hnl hd hN) _ _ _ hw
      · replace hw := hw.2 hc
        refine go_iconst (v := 0) C rfl dX12_by_22 ?_
        exact go_zret C hr rfl ⟨_, rfl, hw⟩ dX12_by_23
-- CradleNamesModel.years(I)I
set_option maxRecDepth 20000 in
set_option maxHeartbeats 4000000 in
theorem gbX12_years_49 {X : XT} {G : GT} {l : Launch} {d : Nat}  {post : Int32 → St → Prop} (C : Cx X G cX12_years RX12) (hr : Rt X G (some .int) (fun v τ => ∃ r : Int32, v = some (.int r) ∧ post r τ)) (hR : Rm X l d) (hnl : X.2.2.2.2.2.2.2.2.2.2.1 = 5)  (hd : 2 ≤ d) (hN : 119 ≤ G.2.2.2.2.2)  {K27 : Int32 → Int32 → St → Prop} (hK27 : ∀ (v1 : Int32) (v2 : Int32) (σ : St), K27 v1 v2 σ → Go X G 27 [(0, .ref (G.2.2.1 75)), (1, .int v1), (2, .int v2)] [] σ)
    : ∀ (n : Nat) (v1 : Int32) (v2 : Int32) (v3 : Int32) (v4 : Int32) (σ : St), wbX12_years_49  K27 post n v1 v2 v3 v4 σ → Go X G 49 [(0, .ref (G.2.2.1 75)), (1, .int v1), (2, .int v2), (3, .int v3), (4, .int v4)] [] σ := by
  intro n
  induction n with
  | zero => intro v1 v2 v3 v4 σ hw; exact hw.elim
  | succ n ih =>
    intro v1 v2 v3 v4 σ hw
    have hw : ((12 ≤ v4 →
      vp_in 7 9680 ∧ (
      vp_in (v3 + 12) 9680 ∧ (
      ∀ σ_1 : St, σ_1 = sI σ 76 (v3 + 12).toNatClampNeg (gI σ 76 (7 : Int32).toNatClampNeg) →
      vp_in 8 9680 ∧ (
      vp_in (v3 + 13) 9680 ∧ (
      ∀ σ_2 : St, σ_2 = sI σ_1 76 (v3 + 13).toNatClampNeg (gI σ_1 76 (8 : Int32).toNatClampNeg) →
      vp_in 0 9680 ∧ (
      vp_in 0 9680 ∧ (
      ∀ σ_3 : St, σ_3 = sI σ_2 76 (0 : Int32).toNatClampNeg ((gI σ_2 76 (0 : Int32).toNatClampNeg) + 1) →
      ∀ v2_4 : Int32, v2_4 = v2 + 1 →
      K27 v1 v2_4 σ_3))))))) ∧
    (¬ 12 ≤ v4 →
      vp_in (10 + v4) 9680 ∧ (
      vp_in (v3 + v4) 9680 ∧ (
      ∀ σ_5 : St, σ_5 = sI σ 76 (v3 + v4).toNatClampNeg (gI σ 76 (10 + v4).toNatClampNeg) →
      ∀ v4_6 : Int32, v4_6 = v4 + 1 →
      wbX12_years_49 K27 post n v1 v2 v3 v4_6 σ_5)))) := hw
    refine go_iload C 4 rfl dX12_years_49 ?_
    refine go_bipush (v := 12) C rfl dX12_years_51 ?_
    refine go_icmp_ge C 81 rfl dX12_years_53 (fun hc => ?_) (fun hc => ?_)
    · replace hw := hw.1 hc
      refine go_aload_n C 0 rfl rfl dX12_years_81 ?_
      refine go_get (v := .ref (G.2.2.1 76)) C (shX12 G) (ltX12 hN) lkX12_7 rfl dX12_years_82 ?_
      refine go_iload_n C 3 rfl rfl dX12_years_85 ?_
      refine go_bipush (v := 12) C rfl dX12_years_86 ?_
      refine go_iadd C dX12_years_88 ?_
      refine go_aload_n C 0 rfl rfl dX12_years_89 ?_
      refine go_get (v := .ref (G.2.2.1 76)) C (shX12 G) (ltX12 hN) lkX12_7 rfl dX12_years_90 ?_
      refine go_bipush (v := 7) C rfl dX12_years_93 ?_
      refine go_iald C (saX12_a G) (laX12_a hN) hw.1 dX12_years_95 ?_
      replace hw := hw.2
      refine go_iast C (saX12_a G) (laX12_a hN) hw.1 dX12_years_96 (go_nm fun σ_1 eσ_1 => ?_)
      replace hw := hw.2 σ_1 eσ_1
      refine go_aload_n C 0 rfl rfl dX12_years_97 ?_
      refine go_get (v := .ref (G.2.2.1 76)) C (shX12 G) (ltX12 hN) lkX12_7 rfl dX12_years_98 ?_
      refine go_iload_n C 3 rfl rfl dX12_years_101 ?_
      refine go_bipush (v := 13) C rfl dX12_years_102 ?_
      refine go_iadd C dX12_years_104 ?_
      refine go_aload_n C 0 rfl rfl dX12_years_105 ?_
      refine go_get (v := .ref (G.2.2.1 76)) C (shX12 G) (ltX12 hN) lkX12_7 rfl dX12_years_106 ?_
      refine go_bipush (v := 8) C rfl dX12_years_109 ?_
      refine go_iald C (saX12_a G) (laX12_a hN) hw.1 dX12_years_111 ?_
      replace hw := hw.2
      refine go_iast C (saX12_a G) (laX12_a hN) hw.1 dX12_years_112 (go_nm fun σ_2 eσ_2 => ?_)
      replace hw := hw.2 σ_2 eσ_2
      refine go_aload_n C 0 rfl rfl dX12_years_113 ?_
      refine go_get (v := .ref (G.2.2.1 76)) C (shX12 G) (ltX12 hN) lkX12_7 rfl dX12_years_114 ?_
      refine go_iconst (v := 0) C rfl dX12_years_117 ?_
      refine go_dup2 C rfl rfl dX12_years_118 ?_
      refine go_iald C (saX12_a G) (laX12_a hN) hw.1 dX12_years_119 ?_
      replace hw := hw.2
      refine go_iconst (v := 1) C rfl dX12_years_120 ?_
      refine go_iadd C dX12_years_121 ?_
      refine go_iast C (saX12_a G) (laX12_a hN) hw.1 dX12_years_122 (go_nm fun σ_3 eσ_3 => ?_)
      replace hw := hw.2 σ_3 eσ_3
      obtain ⟨v2_4, ev2_4⟩ : ∃ z : Int32, z = v2 + 1 := ⟨_, rfl⟩
      replace hw := hw v2_4 ev2_4
      refine go_iinc (v := v2_4) (lv2 := [(2, .int v2_4), (0, .ref (G.2.2.1 75)), (1, .int v1), (3, .int v3), (4, .int v4)]) C 2 rfl (by rw [ev2_4]; rfl) (by rw [hnl]; decide) rfl dX12_years_123 ?_
      refine go_goto C 27 rfl dX12_years_126 ?_
      refine go_sub [1, 2, 0] rfl ?_
      exact hK27 _ _ _ hw
    · replace hw := hw.2 hc
      refine go_aload_n C 0 rfl rfl dX12_years_56 ?_
      refine go_get (v := .ref (G.2.2.1 76)) C (shX12 G) (ltX12 hN) lkX12_7 rfl dX12_years_57 ?_
      refine go_iload_n C 3 rfl rfl dX12_years_60 ?_
      refine go_iload C 4 rfl dX12_years_61 ?_
      refine go_iadd C dX12_years_63 ?_
      refine go_aload_n C 0 rfl rfl dX12_years_64 ?_
      refine go_get (v := .ref (G.2.2.1 76)) C (shX12 G) (ltX12 hN) lkX12_7 rfl dX12_years_65 ?_
      refine go_bipush (v := 10) C rfl dX12_years_68 ?_
      refine go_iload C 4 rfl dX12_years_70 ?_
      refine go_iadd C dX12_years_72 ?_
      refine go_iald C (saX12_a G) (laX12_a hN) hw.1 dX12_years_73 ?_
      replace hw := hw.2
      refine go_iast C (saX12_a G) (laX12_a hN) hw.1 dX12_years_74 (go_nm fun σ_5 eσ_5 => ?_)
      replace hw := hw.2 σ_5 eσ_5
      obtain ⟨v4_6, ev4_6⟩ : ∃ z : Int32, z = v4 + 1 := ⟨_, rfl⟩
      replace hw := hw v4_6 ev4_6
      refine go_iinc (v := v4_6) (lv2 := [(4, .int v4_6), (0, .ref (G.2.2.1 75)), (1, .int v1), (2, .int v2), (3, .int v3)]) C 4 rfl (by rw [ev4_6]; rfl) (by rw [hnl]; decide) rfl dX12_years_75 ?_
      refine go_goto C 49 rfl dX12_years_78 ?_
      refine go_sub [1, 2, 3, 4, 0] rfl ?_
      exact ih _ _ _ _ _ hw
set_option maxRecDepth 20000 in
set_option maxHeartbeats 4000000 in
theorem gbX12_years_27 {X : XT} {G : GT} {l : Launch} {d : Nat}  {post : Int32 → St → Prop} (C : Cx X G cX12_years RX12) (hr : Rt X G (some .int) (fun v τ => ∃ r : Int32, v = some (.int r) ∧ post r τ)) (hR : Rm X l d) (hnl : X.2.2.2.2.2.2.2.2.2.2.1 = 5)  (hd : 2 ≤ d) (hN : 119 ≤ G.2.2.2.2.2)   
    : ∀ (n : Nat) (v1 : Int32) (v2 : Int32) (σ : St), wbX12_years_27   post n v1 v2 σ → Go X G 27 [(0, .ref (G.2.2.1 75)), (1, .int v1), (2, .int v2)] [] σ := by
  intro n
  induction n with
  | zero => intro v1 v2 σ hw; exact hw.elim
  | succ n ih =>
    intro v1 v2 σ hw
    have hw : ((v1 ≤ v2 →
      vp_in 0 9680 ∧ (
      post (gI σ 76 (0 : Int32).toNatClampNeg) σ)) ∧
    (¬ v1 ≤ v2 →
      vp_in 0 9680 ∧ (
      ∀ v3_1 : Int32, v3_1 = (1000 + (14 * (gI σ 76 (0 : Int32).toNatClampNeg))) →
      ∃ m_49, wbX12_years_49 (wbX12_years_27 post n) post m_49 v1 v2 v3_1 0 σ))) := hw
    refine go_iload_n C 2 rfl rfl dX12_years_27 ?_
    refine go_iload_n C 1 rfl rfl dX12_years_28 ?_
    refine go_icmp_ge C 129 rfl dX12_years_29 (fun hc => ?_) (fun hc => ?_)
    · replace hw := hw.1 hc
      refine go_aload_n C 0 rfl rfl dX12_years_129 ?_
      refine go_get (v := .ref (G.2.2.1 76)) C (shX12 G) (ltX12 hN) lkX12_7 rfl dX12_years_130 ?_
      refine go_iconst (v := 0) C rfl dX12_years_133 ?_
      refine go_iald C (saX12_a G) (laX12_a hN) hw.1 dX12_years_134 ?_
      replace hw := hw.2
      exact go_iret C hr ⟨_, rfl, hw⟩ dX12_years_135
    · replace hw := hw.2 hc
      refine go_sipush (v := 1000) C rfl dX12_years_32 ?_
      refine go_bipush (v := 14) C rfl dX12_years_35 ?_
      refine go_aload_n C 0 rfl rfl dX12_years_37 ?_
      refine go_get (v := .ref (G.2.2.1 76)) C (shX12 G) (ltX12 hN) lkX12_7 rfl dX12_years_38 ?_
      refine go_iconst (v := 0) C rfl dX12_years_41 ?_
      refine go_iald C (saX12_a G) (laX12_a hN) hw.1 dX12_years_42 ?_
      replace hw := hw.2
      refine go_imul C dX12_years_43 ?_
      refine go_iadd C dX12_years_44 ?_
      refine go_topi (fun v3_1 ev3_1 => ?_)
      replace hw := hw v3_1 ev3_1
      refine go_istore_n (lv2 := [(3, .int v3_1), (0, .ref (G.2.2.1 75)), (1, .int v1), (2, .int v2)]) C rfl (by rw [hnl]; decide) rfl dX12_years_45 ?_
      refine go_iconst (v := 0) C rfl dX12_years_46 ?_
      refine go_istore (lv2 := [(4, .int 0), (3, .int v3_1), (0, .ref (G.2.2.1 75)), (1, .int v1), (2, .int v2)]) C (by rw [hnl]; decide) rfl dX12_years_47 ?_
      refine go_sub [2, 3, 4, 1, 0] rfl ?_
      obtain ⟨n_0, hw⟩ := hw
      exact (gbX12_years_49 C hr hR hnl hd hN ih) n_0 _ _ _ _ _ hw
set_option maxRecDepth 20000 in
set_option maxHeartbeats 4000000 in
theorem spX12_years {l : Launch} {G : GT} {d : Nat}  (hd : 2 ≤ d)  (hN : 119 ≤ G.2.2.2.2.2)  {a1 : Int32} {σ : St} {post : Int32 → St → Prop} (hw : wpX12_years  a1 σ post) : Sp l G d yX12_years cX12_years 5 (some .int) [.ref (G.2.2.1 75), .int a1] σ (fun v τ => ∃ r : Int32, v = some (.int r) ∧ post r τ) := by
  refine Sp.of (by decide) (Nat.le_of_ble_eq_true rfl) fun X C hr hR hnl => ?_
  show Go X G 0 [(0, .ref (G.2.2.1 75)), (1, .int a1)] [] σ
  have hw : wpX12_in a1 1 20 σ (fun r_1 σ_2 =>
  ((r_1 = 0 →
    post (-1) σ_2) ∧
  (¬ r_1 = 0 →
    vp_in 0 9680 ∧ (
    ((((gI σ_2 76 (0 : Int32).toNatClampNeg) + a1) ≤ 61 →
      ∃ m_27, wbX12_years_27 post m_27 a1 0 σ_2) ∧
    (¬ ((gI σ_2 76 (0 : Int32).toNatClampNeg) + a1) ≤ 61 →
      post (-1) σ_2)))))) := hw
  refine go_iload_n C 1 rfl rfl dX12_years_0 ?_
  refine go_iconst (v := 1) C rfl dX12_years_1 ?_
  refine go_bipush (v := 20) C rfl dX12_years_2 ?_
  refine go_callS (as := [.int a1, .int 1, .int 20]) C hR cwX12_152 (Nat.le_trans (by decide) hd) (by decide) rfl rfl (Nat.le_of_ble_eq_true rfl) dX12_years_4 (spX12_in (Nat.le_refl _) hN hw) (fun v_ τ_ hw => ?_)
  obtain ⟨r_1, rfl, hw⟩ := hw
  obtain ⟨σ_2, rfl⟩ : ∃ z, z = τ_ := ⟨_, rfl⟩
  refine go_if_eq C 23 rfl dX12_years_7 (fun hc => ?_) (fun hc => ?_)
  · replace hw := hw.1 hc
    refine go_iconst (v := (-1)) C rfl dX12_years_23 ?_
    exact go_iret C hr ⟨_, rfl, hw⟩ dX12_years_24
  · replace hw := hw.2 hc
    refine go_aload_n C 0 rfl rfl dX12_years_10 ?_
    refine go_get (v := .ref (G.2.2.1 76)) C (shX12 G) (ltX12 hN) lkX12_7 rfl dX12_years_11 ?_
    refine go_iconst (v := 0) C rfl dX12_years_14 ?_
    refine go_iald C (saX12_a G) (laX12_a hN) hw.1 dX12_years_15 ?_
    replace hw := hw.2
    refine go_iload_n C 1 rfl rfl dX12_years_16 ?_
    refine go_iadd C dX12_years_17 ?_
    refine go_bipush (v := 61) C rfl dX12_years_18 ?_
    refine go_icmp_le C 25 rfl dX12_years_20 (fun hc => ?_) (fun hc => ?_)
    · replace hw := hw.1 hc
      refine go_iconst (v := 0) C rfl dX12_years_25 ?_
      refine go_istore_n (lv2 := [(2, .int 0), (0, .ref (G.2.2.1 75)), (1, .int a1)]) C rfl (by rw [hnl]; decide) rfl dX12_years_26 ?_
      refine go_sub [1, 2, 0] rfl ?_
      obtain ⟨n_0, hw⟩ := hw
      exact (gbX12_years_27 C hr hR hnl hd hN) n_0 _ _ _ hw
    · replace hw := hw.2 hc
      refine go_iconst (v := (-1)) C rfl dX12_years_23 ?_
      exact go_iret C hr ⟨_, rfl, hw⟩ dX12_years_24
-- CradleNamesModel.allOf(I)I
set_option maxRecDepth 20000 in
set_option maxHeartbeats 4000000 in
theorem gbX12_allOf_4 {X : XT} {G : GT} {l : Launch} {d : Nat}  {post : Int32 → St → Prop} (C : Cx X G cX12_allOf RX12) (hr : Rt X G (some .int) (fun v τ => ∃ r : Int32, v = some (.int r) ∧ post r τ)) (hR : Rm X l d) (hnl : X.2.2.2.2.2.2.2.2.2.2.1 = 4)  (hd : 2 ≤ d) (hN : 119 ≤ G.2.2.2.2.2)   
    : ∀ (n : Nat) (v1 : Int32) (v2 : Int32) (v3 : Int32) (σ : St), wbX12_allOf_4   post n v1 v2 v3 σ → Go X G 4 [(0, .ref (G.2.2.1 75)), (1, .int v1), (2, .int v2), (3, .int v3)] [] σ := by
  intro n
  induction n with
  | zero => intro v1 v2 v3 σ hw; exact hw.elim
  | succ n ih =>
    intro v1 v2 v3 σ hw
    have hw : vp_in 1 9680 ∧ (
    (((gI σ 76 (1 : Int32).toNatClampNeg) ≤ v3 →
      post v2 σ) ∧
    (¬ (gI σ 76 (1 : Int32).toNatClampNeg) ≤ v3 →
      wpX12_all v1 v3 σ (fun r_1 σ_2 =>
      ∀ v2_3 : Int32, v2_3 = (v2 + r_1) →
      ∀ v3_4 : Int32, v3_4 = v3 + 1 →
      wbX12_allOf_4 post n v1 v2_3 v3_4 σ_2)))) := hw
    refine go_iload_n C 3 rfl rfl dX12_allOf_4 ?_
    refine go_aload_n C 0 rfl rfl dX12_allOf_5 ?_
    refine go_get (v := .ref (G.2.2.1 76)) C (shX12 G) (ltX12 hN) lkX12_7 rfl dX12_allOf_6 ?_
    refine go_iconst (v := 1) C rfl dX12_allOf_9 ?_
    refine go_iald C (saX12_a G) (laX12_a hN) hw.1 dX12_allOf_10 ?_
    replace hw := hw.2
    refine go_icmp_ge C 29 rfl dX12_allOf_11 (fun hc => ?_) (fun hc => ?_)
    · replace hw := hw.1 hc
      refine go_iload_n C 2 rfl rfl dX12_allOf_29 ?_
      exact go_iret C hr ⟨_, rfl, hw⟩ dX12_allOf_30
    · replace hw := hw.2 hc
      refine go_iload_n C 2 rfl rfl dX12_allOf_14 ?_
      refine go_aload_n C 0 rfl rfl dX12_allOf_15 ?_
      refine go_iload_n C 1 rfl rfl dX12_allOf_16 ?_
      refine go_iload_n C 3 rfl rfl dX12_allOf_17 ?_
      refine go_callV (as := [.int v1, .int v3]) C hR (shX12 G) (ltX12 hN) cwX12_407 (Nat.le_trans (by decide) hd) (by decide) rfl rfl (Nat.le_of_ble_eq_true rfl) dX12_allOf_18 (spX12_all (Nat.le_refl _) hN hw) (fun v_ τ_ hw => ?_)
      obtain ⟨r_1, rfl, hw⟩ := hw
      obtain ⟨σ_2, rfl⟩ : ∃ z, z = τ_ := ⟨_, rfl⟩
      refine go_iadd C dX12_allOf_21 ?_
      refine go_topi (fun v2_3 ev2_3 => ?_)
      replace hw := hw v2_3 ev2_3
      refine go_istore_n (lv2 := [(2, .int v2_3), (0, .ref (G.2.2.1 75)), (1, .int v1), (3, .int v3)]) C rfl (by rw [hnl]; decide) rfl dX12_allOf_22 ?_
      obtain ⟨v3_4, ev3_4⟩ : ∃ z : Int32, z = v3 + 1 := ⟨_, rfl⟩
      replace hw := hw v3_4 ev3_4
      refine go_iinc (v := v3_4) (lv2 := [(3, .int v3_4), (2, .int v2_3), (0, .ref (G.2.2.1 75)), (1, .int v1)]) C 3 rfl (by rw [ev3_4]; rfl) (by rw [hnl]; decide) rfl dX12_allOf_23 ?_
      refine go_goto C 4 rfl dX12_allOf_26 ?_
      refine go_sub [2, 3, 1, 0] rfl ?_
      exact ih _ _ _ _ hw
set_option maxRecDepth 20000 in
set_option maxHeartbeats 4000000 in
theorem spX12_allOf {l : Launch} {G : GT} {d : Nat}  (hd : 2 ≤ d)  (hN : 119 ≤ G.2.2.2.2.2)  {a1 : Int32} {σ : St} {post : Int32 → St → Prop} (hw : wpX12_allOf  a1 σ post) : Sp l G d yX12_allOf cX12_allOf 4 (some .int) [.ref (G.2.2.1 75), .int a1] σ (fun v τ => ∃ r : Int32, v = some (.int r) ∧ post r τ) := by
  refine Sp.of (by decide) (Nat.le_of_ble_eq_true rfl) fun X C hr hR hnl => ?_
  show Go X G 0 [(0, .ref (G.2.2.1 75)), (1, .int a1)] [] σ
  have hw : ∃ m_4, wbX12_allOf_4 post m_4 a1 0 0 σ := hw
  refine go_iconst (v := 0) C rfl dX12_allOf_0 ?_
  refine go_istore_n (lv2 := [(2, .int 0), (0, .ref (G.2.2.1 75)), (1, .int a1)]) C rfl (by rw [hnl]; decide) rfl dX12_allOf_1 ?_
  refine go_iconst (v := 0) C rfl dX12_allOf_2 ?_
  refine go_istore_n (lv2 := [(3, .int 0), (2, .int 0), (0, .ref (G.2.2.1 75)), (1, .int a1)]) C rfl (by rw [hnl]; decide) rfl dX12_allOf_3 ?_
  refine go_sub [2, 3, 1, 0] rfl ?_
  obtain ⟨n_0, hw⟩ := hw
  exact (gbX12_allOf_4 C hr hR hnl hd hN) n_0 _ _ _ _ hw
-- CradleNamesModel.runsAll()V
set_option maxRecDepth 20000 in
set_option maxHeartbeats 4000000 in
theorem spX12_runsAll {l : Launch} {G : GT} {d : Nat}  (hd : 9 ≤ d)  (hN : 119 ≤ G.2.2.2.2.2)   {σ : St} {post : St → Prop} (hw : wpX12_runsAll   σ post) : Sp l G d yX12_runsAll cX12_runsAll 1 none [.ref (G.2.2.1 75)] σ (fun v τ => v = none ∧ post τ) := by
  refine Sp.of (by decide) (Nat.le_of_ble_eq_true rfl) fun X C hr hR hnl => ?_
  show Go X G 0 [(0, .ref (G.2.2.1 75))] [] σ
  have hw : vp_in 0 9680 ∧ (
  wpX12_runs (gI σ 76 (0 : Int32).toNatClampNeg) (-1) 0 (-1) σ (fun σ_2 =>
  post σ_2)) := hw
  refine go_aload_n C 0 rfl rfl dX12_runsAll_0 ?_
  refine go_aload_n C 0 rfl rfl dX12_runsAll_1 ?_
  refine go_get (v := .ref (G.2.2.1 76)) C (shX12 G) (ltX12 hN) lkX12_7 rfl dX12_runsAll_2 ?_
  refine go_iconst (v := 0) C rfl dX12_runsAll_5 ?_
  refine go_iald C (saX12_a G) (laX12_a hN) hw.1 dX12_runsAll_6 ?_
  replace hw := hw.2
  refine go_iconst (v := (-1)) C rfl dX12_runsAll_7 ?_
  refine go_iconst (v := 0) C rfl dX12_runsAll_8 ?_
  refine go_iconst (v := (-1)) C rfl dX12_runsAll_9 ?_
  refine go_callV (as := [.int (gI σ 76 (0 : Int32).toNatClampNeg), .int (-1), .int 0, .int (-1)]) C hR (shX12 G) (ltX12 hN) cwX12_188 (Nat.le_trans (by decide) hd) (by decide) rfl rfl (Nat.le_of_ble_eq_true rfl) dX12_runsAll_10 (spX12_runs (Nat.le_refl _) hN hw) (fun v_ τ_ hw => ?_)
  obtain ⟨rfl, hw⟩ := hw
  obtain ⟨σ_2, rfl⟩ : ∃ z, z = τ_ := ⟨_, rfl⟩
  exact go_vret C hr ⟨rfl, hw⟩ dX12_runsAll_13
-- CradleNamesModel.laysNow()V
set_option maxRecDepth 20000 in
set_option maxHeartbeats 4000000 in
theorem spX12_laysNow {l : Launch} {G : GT} {d : Nat}  (hd : 10 ≤ d)  (hN : 119 ≤ G.2.2.2.2.2)   {σ : St} {post : St → Prop} (hw : wpX12_laysNow   σ post) : Sp l G d yX12_laysNow cX12_laysNow 1 none [.ref (G.2.2.1 75)] σ (fun v τ => v = none ∧ post τ) := by
  refine Sp.of (by decide) (Nat.le_of_ble_eq_true rfl) fun X C hr hR hnl => ?_
  show Go X G 0 [(0, .ref (G.2.2.1 75))] [] σ
  have hw : wpX12_runsAll  σ (fun σ_2 =>
  vp_in 7 9680 ∧ (
  vp_in 0 2 ∧ (
  ∀ σ_3 : St, σ_3 = sI σ_2 104 (0 : Int32).toNatClampNeg (gI σ_2 76 (7 : Int32).toNatClampNeg) →
  vp_in 8 9680 ∧ (
  vp_in 1 2 ∧ (
  ∀ σ_4 : St, σ_4 = sI σ_3 104 (1 : Int32).toNatClampNeg (gI σ_3 76 (8 : Int32).toNatClampNeg) →
  vp_in 0 9680 ∧ (
  wpX12_lays (gI σ_4 76 (0 : Int32).toNatClampNeg) (-1) 0 σ_4 (fun σ_6 =>
  post σ_6))))))) := hw
  refine go_aload_n C 0 rfl rfl dX12_laysNow_0 ?_
  refine go_callV (as := []) C hR (shX12 G) (ltX12 hN) cwX12_464 (Nat.le_trans (by decide) hd) (by decide) rfl rfl (Nat.le_of_ble_eq_true rfl) dX12_laysNow_1 (spX12_runsAll (Nat.le_refl _) hN hw) (fun v_ τ_ hw => ?_)
  obtain ⟨rfl, hw⟩ := hw
  obtain ⟨σ_2, rfl⟩ : ∃ z, z = τ_ := ⟨_, rfl⟩
  refine go_aload_n C 0 rfl rfl dX12_laysNow_4 ?_
  refine go_get (v := .ref (G.2.2.1 104)) C (shX12 G) (ltX12 hN) lkX12_103 rfl dX12_laysNow_5 ?_
  refine go_iconst (v := 0) C rfl dX12_laysNow_8 ?_
  refine go_aload_n C 0 rfl rfl dX12_laysNow_9 ?_
  refine go_get (v := .ref (G.2.2.1 76)) C (shX12 G) (ltX12 hN) lkX12_7 rfl dX12_laysNow_10 ?_
  refine go_bipush (v := 7) C rfl dX12_laysNow_13 ?_
  refine go_iald C (saX12_a G) (laX12_a hN) hw.1 dX12_laysNow_15 ?_
  replace hw := hw.2
  refine go_iast C (saX12_tasteOf G) (laX12_tasteOf hN) hw.1 dX12_laysNow_16 (go_nm fun σ_3 eσ_3 => ?_)
  replace hw := hw.2 σ_3 eσ_3
  refine go_aload_n C 0 rfl rfl dX12_laysNow_17 ?_
  refine go_get (v := .ref (G.2.2.1 104)) C (shX12 G) (ltX12 hN) lkX12_103 rfl dX12_laysNow_18 ?_
  refine go_iconst (v := 1) C rfl dX12_laysNow_21 ?_
  refine go_aload_n C 0 rfl rfl dX12_laysNow_22 ?_
  refine go_get (v := .ref (G.2.2.1 76)) C (shX12 G) (ltX12 hN) lkX12_7 rfl dX12_laysNow_23 ?_
  refine go_bipush (v := 8) C rfl dX12_laysNow_26 ?_
  refine go_iald C (saX12_a G) (laX12_a hN) hw.1 dX12_laysNow_28 ?_
  replace hw := hw.2
  refine go_iast C (saX12_tasteOf G) (laX12_tasteOf hN) hw.1 dX12_laysNow_29 (go_nm fun σ_4 eσ_4 => ?_)
  replace hw := hw.2 σ_4 eσ_4
  refine go_aload_n C 0 rfl rfl dX12_laysNow_30 ?_
  refine go_aload_n C 0 rfl rfl dX12_laysNow_31 ?_
  refine go_get (v := .ref (G.2.2.1 76)) C (shX12 G) (ltX12 hN) lkX12_7 rfl dX12_laysNow_32 ?_
  refine go_iconst (v := 0) C rfl dX12_laysNow_35 ?_
  refine go_iald C (saX12_a G) (laX12_a hN) hw.1 dX12_laysNow_36 ?_
  replace hw := hw.2
  refine go_iconst (v := (-1)) C rfl dX12_laysNow_37 ?_
  refine go_iconst (v := 0) C rfl dX12_laysNow_38 ?_
  refine go_callV (as := [.int (gI σ_4 76 (0 : Int32).toNatClampNeg), .int (-1), .int 0]) C hR (shX12 G) (ltX12 hN) cwX12_420 (Nat.le_trans (by decide) hd) (by decide) rfl rfl (Nat.le_of_ble_eq_true rfl) dX12_laysNow_39 (spX12_lays (Nat.le_refl _) hN hw) (fun v_ τ_ hw => ?_)
  obtain ⟨rfl, hw⟩ := hw
  obtain ⟨σ_6, rfl⟩ : ∃ z, z = τ_ := ⟨_, rfl⟩
  exact go_vret C hr ⟨rfl, hw⟩ dX12_laysNow_42
-- CradleNamesModel.isPart(II)Z
set_option maxRecDepth 20000 in
set_option maxHeartbeats 4000000 in
theorem spX12_isPart {l : Launch} {G : GT} {d : Nat}  (hd : 2 ≤ d)  (hN : 119 ≤ G.2.2.2.2.2)  {a1 : Int32} {a2 : Int32} {σ : St} {post : Int32 → St → Prop} (hw : wpX12_isPart  a1 a2 σ post) : Sp l G d yX12_isPart cX12_isPart 2 (some .boolean) [.int a1, .int a2] σ (fun v τ => ∃ r : Int32, v = some (.int r) ∧ post r τ) := by
  refine Sp.of (by decide) (Nat.le_of_ble_eq_true rfl) fun X C hr hR hnl => ?_
  show Go X G 0 [(0, .int a1), (1, .int a2)] [] σ
  have hw : ((a1 = (-1) →
    post 1 σ) ∧
  (¬ a1 = (-1) →
    wpX12_in a1 0 a2 σ (fun r_1 σ_2 =>
    ((r_1 = 0 →
      post 0 σ_2) ∧
    (¬ r_1 = 0 →
      post 1 σ_2))))) := hw
  refine go_iload_n C 0 rfl rfl dX12_isPart_0 ?_
  refine go_iconst (v := (-1)) C rfl dX12_isPart_1 ?_
  refine go_icmp_eq C 14 rfl dX12_isPart_2 (fun hc => ?_) (fun hc => ?_)
  · replace hw := hw.1 hc
    refine go_iconst (v := 1) C rfl dX12_isPart_14 ?_
    refine go_goto C 19 rfl dX12_isPart_15 ?_
    exact go_zret C hr rfl ⟨_, rfl, hw⟩ dX12_isPart_19
  · replace hw := hw.2 hc
    refine go_iload_n C 0 rfl rfl dX12_isPart_5 ?_
    refine go_iconst (v := 0) C rfl dX12_isPart_6 ?_
    refine go_iload_n C 1 rfl rfl dX12_isPart_7 ?_
    refine go_callS (as := [.int a1, .int 0, .int a2]) C hR cwX12_152 (Nat.le_trans (by decide) hd) (by decide) rfl rfl (Nat.le_of_ble_eq_true rfl) dX12_isPart_8 (spX12_in (Nat.le_refl _) hN hw) (fun v_ τ_ hw => ?_)
    obtain ⟨r_1, rfl, hw⟩ := hw
    obtain ⟨σ_2, rfl⟩ : ∃ z, z = τ_ := ⟨_, rfl⟩
    refine go_if_eq C 18 rfl dX12_isPart_11 (fun hc => ?_) (fun hc => ?_)
    · replace hw := hw.1 hc
      refine go_iconst (v := 0) C rfl dX12_isPart_18 ?_
      exact go_zret C hr rfl ⟨_, rfl, hw⟩ dX12_isPart_19
    · replace hw := hw.2 hc
      refine go_iconst (v := 1) C rfl dX12_isPart_14 ?_
      refine go_goto C 19 rfl dX12_isPart_15 ?_
      exact go_zret C hr rfl ⟨_, rfl, hw⟩ dX12_isPart_19
-- CradleNamesModel.sumOf(IIIII)I
set_option maxRecDepth 20000 in
set_option maxHeartbeats 4000000 in
theorem gbX12_sumOf_41 {X : XT} {G : GT} {l : Launch} {d : Nat}  {post : Int32 → St → Prop} (C : Cx X G cX12_sumOf RX12) (hr : Rt X G (some .int) (fun v τ => ∃ r : Int32, v = some (.int r) ∧ post r τ)) (hR : Rm X l d) (hnl : X.2.2.2.2.2.2.2.2.2.2.1 = 10)  (hd : 1 ≤ d) (hN : 119 ≤ G.2.2.2.2.2)  {K66 : Int32 → Int32 → Int32 → Int32 → Int32 → Int32 → Int32 → Int32 → Int32 → St → Prop} (hK66 : ∀ (v1 : Int32) (v2 : Int32) (v3 : Int32) (v4 : Int32) (v5 : Int32) (v6 : Int32) (v7 : Int32) (v8 : Int32) (v9 : Int32) (σ : St), K66 v1 v2 v3 v4 v5 v6 v7 v8 v9 σ → Go X G 66 [(0, .ref (G.2.2.1 75)), (1, .int v1), (2, .int v2), (3, .int v3), (4, .int v4), (5, .int v5), (6, .int v6), (7, .int v7), (8, .int v8), (9, .int v9)] [] σ)
    : ∀ (v1 : Int32) (v2 : Int32) (v3 : Int32) (v4 : Int32) (v5 : Int32) (v6 : Int32) (v7 : Int32) (σ : St), wbX12_sumOf_41  K66 post v1 v2 v3 v4 v5 v6 v7 σ → Go X G 41 [(0, .ref (G.2.2.1 75)), (1, .int v1), (2, .int v2), (3, .int v3), (4, .int v4), (5, .int v5), (6, .int v6), (7, .int v7)] [] σ := by
  intro v1 v2 v3 v4 v5 v6 v7 σ hw
  have hw : ((v4 = (-1) →
    K66 v1 v2 v3 v4 v5 v6 v7 1 0 σ) ∧
  (¬ v4 = (-1) →
    ((¬ (v7 - v7 / 2 * 2) = v4 →
      K66 v1 v2 v3 v4 v5 v6 v7 0 0 σ) ∧
    ((v7 - v7 / 2 * 2) = v4 →
      K66 v1 v2 v3 v4 v5 v6 v7 1 0 σ)))) := hw
  refine go_iload C 4 rfl dX12_sumOf_41 ?_
  refine go_iconst (v := (-1)) C rfl dX12_sumOf_43 ?_
  refine go_icmp_eq C 56 rfl dX12_sumOf_44 (fun hc => ?_) (fun hc => ?_)
  · replace hw := hw.1 hc
    refine go_iconst (v := 1) C rfl dX12_sumOf_56 ?_
    refine go_goto C 61 rfl dX12_sumOf_57 ?_
    refine go_istore (lv2 := [(8, .int 1), (0, .ref (G.2.2.1 75)), (1, .int v1), (2, .int v2), (3, .int v3), (4, .int v4), (5, .int v5), (6, .int v6), (7, .int v7)]) C (by rw [hnl]; decide) rfl dX12_sumOf_61 ?_
    refine go_iconst (v := 0) C rfl dX12_sumOf_63 ?_
    refine go_istore (lv2 := [(9, .int 0), (8, .int 1), (0, .ref (G.2.2.1 75)), (1, .int v1), (2, .int v2), (3, .int v3), (4, .int v4), (5, .int v5), (6, .int v6), (7, .int v7)]) C (by rw [hnl]; decide) rfl dX12_sumOf_64 ?_
    refine go_sub [2, 3, 4, 5, 6, 7, 8, 9, 1, 0] rfl ?_
    exact hK66 _ _ _ _ _ _ _ _ _ _ hw
  · replace hw := hw.2 hc
    refine go_iload C 7 rfl dX12_sumOf_47 ?_
    refine go_iconst (v := 2) C rfl dX12_sumOf_49 ?_
    refine go_irem C (by decide) dX12_sumOf_50 ?_
    refine go_iload C 4 rfl dX12_sumOf_51 ?_
    refine go_icmp_ne C 60 rfl dX12_sumOf_53 (fun hc => ?_) (fun hc => ?_)
    · replace hw := hw.1 hc
      refine go_iconst (v := 0) C rfl dX12_sumOf_60 ?_
      refine go_istore (lv2 := [(8, .int 0), (0, .ref (G.2.2.1 75)), (1, .int v1), (2, .int v2), (3, .int v3), (4, .int v4), (5, .int v5), (6, .int v6), (7, .int v7)]) C (by rw [hnl]; decide) rfl dX12_sumOf_61 ?_
      refine go_iconst (v := 0) C rfl dX12_sumOf_63 ?_
      refine go_istore (lv2 := [(9, .int 0), (8, .int 0), (0, .ref (G.2.2.1 75)), (1, .int v1), (2, .int v2), (3, .int v3), (4, .int v4), (5, .int v5), (6, .int v6), (7, .int v7)]) C (by rw [hnl]; decide) rfl dX12_sumOf_64 ?_
      refine go_sub [2, 3, 4, 5, 6, 7, 8, 9, 1, 0] rfl ?_
      exact hK66 _ _ _ _ _ _ _ _ _ _ hw
    · replace hw := hw.2 hc
      refine go_iconst (v := 1) C rfl dX12_sumOf_56 ?_
      refine go_goto C 61 rfl dX12_sumOf_57 ?_
      refine go_istore (lv2 := [(8, .int 1), (0, .ref (G.2.2.1 75)), (1, .int v1), (2, .int v2), (3, .int v3), (4, .int v4), (5, .int v5), (6, .int v6), (7, .int v7)]) C (by rw [hnl]; decide) rfl dX12_sumOf_61 ?_
      refine go_iconst (v := 0) C rfl dX12_sumOf_63 ?_
      refine go_istore (lv2 := [(9, .int 0), (8, .int 1), (0, .ref (G.2.2.1 75)), (1, .int v1), (2, .int v2), (3, .int v3), (4, .int v4), (5, .int v5), (6, .int v6), (7, .int v7)]) C (by rw [hnl]; decide) rfl dX12_sumOf_64 ?_
      refine go_sub [2, 3, 4, 5, 6, 7, 8, 9, 1, 0] rfl ?_
      exact hK66 _ _ _ _ _ _ _ _ _ _ hw
set_option maxRecDepth 20000 in
set_option maxHeartbeats 4000000 in
theorem gbX12_sumOf_97 {X : XT} {G : GT} {l : Launch} {d : Nat}  {post : Int32 → St → Prop} (C : Cx X G cX12_sumOf RX12) (hr : Rt X G (some .int) (fun v τ => ∃ r : Int32, v = some (.int r) ∧ post r τ)) (hR : Rm X l d) (hnl : X.2.2.2.2.2.2.2.2.2.2.1 = 10)  (hd : 1 ≤ d) (hN : 119 ≤ G.2.2.2.2.2)  {K66 : Int32 → Int32 → Int32 → Int32 → Int32 → Int32 → Int32 → Int32 → Int32 → St → Prop} (hK66 : ∀ (v1 : Int32) (v2 : Int32) (v3 : Int32) (v4 : Int32) (v5 : Int32) (v6 : Int32) (v7 : Int32) (v8 : Int32) (v9 : Int32) (σ : St), K66 v1 v2 v3 v4 v5 v6 v7 v8 v9 σ → Go X G 66 [(0, .ref (G.2.2.1 75)), (1, .int v1), (2, .int v2), (3, .int v3), (4, .int v4), (5, .int v5), (6, .int v6), (7, .int v7), (8, .int v8), (9, .int v9)] [] σ)
    : ∀ (v1 : Int32) (v2 : Int32) (v3 : Int32) (v4 : Int32) (v5 : Int32) (v7 : Int32) (v8 : Int32) (v9 : Int32) (s0 : Int32) (σ : St), wbX12_sumOf_97  K66 post v1 v2 v3 v4 v5 v7 v8 v9 s0 σ → Go X G 97 [(0, .ref (G.2.2.1 75)), (1, .int v1), (2, .int v2), (3, .int v3), (4, .int v4), (5, .int v5), (7, .int v7), (8, .int v8), (9, .int v9)] [.int s0] σ := by
  intro v1 v2 v3 v4 v5 v7 v8 v9 s0 σ hw
  have hw : vp_in (((192 * (v1 + 40)) + (16 * v7)) + v9) 19392 ∧ (
  ∀ v6_1 : Int32, v6_1 = (s0 + (gI σ 98 (((192 * (v1 + 40)) + (16 * v7)) + v9).toNatClampNeg)) →
  ∀ v9_2 : Int32, v9_2 = v9 + 1 →
  K66 v1 v2 v3 v4 v5 v6_1 v7 v8 v9_2 σ) := hw
  refine go_aload_n C 0 rfl rfl dX12_sumOf_97 ?_
  refine go_get (v := .ref (G.2.2.1 98)) C (shX12 G) (ltX12 hN) lkX12_85 rfl dX12_sumOf_98 ?_
  refine go_sipush (v := 192) C rfl dX12_sumOf_101 ?_
  refine go_iload_n C 1 rfl rfl dX12_sumOf_104 ?_
  refine go_bipush (v := 40) C rfl dX12_sumOf_105 ?_
  refine go_iadd C dX12_sumOf_107 ?_
  refine go_imul C dX12_sumOf_108 ?_
  refine go_bipush (v := 16) C rfl dX12_sumOf_109 ?_
  refine go_iload C 6 rfl dX12_sumOf_111 ?_
  refine go_imul C dX12_sumOf_113 ?_
  refine go_iadd C dX12_sumOf_114 ?_
  refine go_iload C 8 rfl dX12_sumOf_115 ?_
  refine go_iadd C dX12_sumOf_117 ?_
  refine go_iald C (saX12_given G) (laX12_given hN) hw.1 dX12_sumOf_118 ?_
  replace hw := hw.2
  refine go_goto C 123 rfl dX12_sumOf_119 ?_
  refine go_iadd C dX12_sumOf_123 ?_
  refine go_topi (fun v6_1 ev6_1 => ?_)
  replace hw := hw v6_1 ev6_1
  refine go_istore (lv2 := [(6, .int v6_1), (0, .ref (G.2.2.1 75)), (1, .int v1), (2, .int v2), (3, .int v3), (4, .int v4), (5, .int v5), (7, .int v7), (8, .int v8), (9, .int v9)]) C (by rw [hnl]; decide) rfl dX12_sumOf_124 ?_
  obtain ⟨v9_2, ev9_2⟩ : ∃ z : Int32, z = v9 + 1 := ⟨_, rfl⟩
  replace hw := hw v9_2 ev9_2
  refine go_iinc (v := v9_2) (lv2 := [(9, .int v9_2), (6, .int v6_1), (0, .ref (G.2.2.1 75)), (1, .int v1), (2, .int v2), (3, .int v3), (4, .int v4), (5, .int v5), (7, .int v7), (8, .int v8)]) C 9 rfl (by rw [ev9_2]; rfl) (by rw [hnl]; decide) rfl dX12_sumOf_126 ?_
  refine go_goto C 66 rfl dX12_sumOf_129 ?_
  refine go_sub [2, 3, 4, 5, 6, 7, 1, 8, 9, 0] rfl ?_
  exact hK66 _ _ _ _ _ _ _ _ _ _ hw
set_option maxRecDepth 20000 in
set_option maxHeartbeats 4000000 in
theorem gbX12_sumOf_26 {X : XT} {G : GT} {l : Launch} {d : Nat}  {post : Int32 → St → Prop} (C : Cx X G cX12_sumOf RX12) (hr : Rt X G (some .int) (fun v τ => ∃ r : Int32, v = some (.int r) ∧ post r τ)) (hR : Rm X l d) (hnl : X.2.2.2.2.2.2.2.2.2.2.1 = 10)  (hd : 1 ≤ d) (hN : 119 ≤ G.2.2.2.2.2)  {K66 : Int32 → Int32 → Int32 → Int32 → Int32 → Int32 → Int32 → Int32 → Int32 → St → Prop} (hK66 : ∀ (v1 : Int32) (v2 : Int32) (v3 : Int32) (v4 : Int32) (v5 : Int32) (v6 : Int32) (v7 : Int32) (v8 : Int32) (v9 : Int32) (σ : St), K66 v1 v2 v3 v4 v5 v6 v7 v8 v9 σ → Go X G 66 [(0, .ref (G.2.2.1 75)), (1, .int v1), (2, .int v2), (3, .int v3), (4, .int v4), (5, .int v5), (6, .int v6), (7, .int v7), (8, .int v8), (9, .int v9)] [] σ)
    : ∀ (v1 : Int32) (v2 : Int32) (v3 : Int32) (v4 : Int32) (v5 : Int32) (v6 : Int32) (v7 : Int32) (σ : St), wbX12_sumOf_26  K66 post v1 v2 v3 v4 v5 v6 v7 σ → Go X G 26 [(0, .ref (G.2.2.1 75)), (1, .int v1), (2, .int v2), (3, .int v3), (4, .int v4), (5, .int v5), (6, .int v6), (7, .int v7)] [] σ := by
  intro v1 v2 v3 v4 v5 v6 v7 σ hw
  have hw : ((v3 = (-1) →
    wbX12_sumOf_41 K66 post v1 v2 v3 v4 v5 v6 v7 σ) ∧
  (¬ v3 = (-1) →
    ((¬ ((v7 / 2) - (v7 / 2) / 2 * 2) = v3 →
      K66 v1 v2 v3 v4 v5 v6 v7 0 0 σ) ∧
    (((v7 / 2) - (v7 / 2) / 2 * 2) = v3 →
      wbX12_sumOf_41 K66 post v1 v2 v3 v4 v5 v6 v7 σ)))) := hw
  refine go_iload_n C 3 rfl rfl dX12_sumOf_26 ?_
  refine go_iconst (v := (-1)) C rfl dX12_sumOf_27 ?_
  refine go_icmp_eq C 41 rfl dX12_sumOf_28 (fun hc => ?_) (fun hc => ?_)
  · replace hw := hw.1 hc
    exact (gbX12_sumOf_41 C hr hR hnl hd hN hK66) _ _ _ _ _ _ _ _ hw
  · replace hw := hw.2 hc
    refine go_iload C 7 rfl dX12_sumOf_31 ?_
    refine go_iconst (v := 2) C rfl dX12_sumOf_33 ?_
    refine go_idiv C (by decide) dX12_sumOf_34 ?_
    refine go_iconst (v := 2) C rfl dX12_sumOf_35 ?_
    refine go_irem C (by decide) dX12_sumOf_36 ?_
    refine go_iload_n C 3 rfl rfl dX12_sumOf_37 ?_
    refine go_icmp_ne C 60 rfl dX12_sumOf_38 (fun hc => ?_) (fun hc => ?_)
    · replace hw := hw.1 hc
      refine go_iconst (v := 0) C rfl dX12_sumOf_60 ?_
      refine go_istore (lv2 := [(8, .int 0), (0, .ref (G.2.2.1 75)), (1, .int v1), (2, .int v2), (3, .int v3), (4, .int v4), (5, .int v5), (6, .int v6), (7, .int v7)]) C (by rw [hnl]; decide) rfl dX12_sumOf_61 ?_
      refine go_iconst (v := 0) C rfl dX12_sumOf_63 ?_
      refine go_istore (lv2 := [(9, .int 0), (8, .int 0), (0, .ref (G.2.2.1 75)), (1, .int v1), (2, .int v2), (3, .int v3), (4, .int v4), (5, .int v5), (6, .int v6), (7, .int v7)]) C (by rw [hnl]; decide) rfl dX12_sumOf_64 ?_
      refine go_sub [2, 3, 4, 5, 6, 7, 8, 9, 1, 0] rfl ?_
      exact hK66 _ _ _ _ _ _ _ _ _ _ hw
    · replace hw := hw.2 hc
      exact (gbX12_sumOf_41 C hr hR hnl hd hN hK66) _ _ _ _ _ _ _ _ hw
set_option maxRecDepth 20000 in
set_option maxHeartbeats 4000000 in
theorem gbX12_sumOf_66 {X : XT} {G : GT} {l : Launch} {d : Nat}  {post : Int32 → St → Prop} (C : Cx X G cX12_sumOf RX12) (hr : Rt X G (some .int) (fun v τ => ∃ r : Int32, v = some (.int r) ∧ post r τ)) (hR : Rm X l d) (hnl : X.2.2.2.2.2.2.2.2.2.2.1 = 10)  (hd : 1 ≤ d) (hN : 119 ≤ G.2.2.2.2.2)  {K6 : Int32 → Int32 → Int32 → Int32 → Int32 → Int32 → Int32 → St → Prop} (hK6 : ∀ (v1 : Int32) (v2 : Int32) (v3 : Int32) (v4 : Int32) (v5 : Int32) (v6 : Int32) (v7 : Int32) (σ : St), K6 v1 v2 v3 v4 v5 v6 v7 σ → Go X G 6 [(0, .ref (G.2.2.1 75)), (1, .int v1), (2, .int v2), (3, .int v3), (4, .int v4), (5, .int v5), (6, .int v6), (7, .int v7)] [] σ)
    : ∀ (n : Nat) (v1 : Int32) (v2 : Int32) (v3 : Int32) (v4 : Int32) (v5 : Int32) (v6 : Int32) (v7 : Int32) (v8 : Int32) (v9 : Int32) (σ : St), wbX12_sumOf_66  K6 post n v1 v2 v3 v4 v5 v6 v7 v8 v9 σ → Go X G 66 [(0, .ref (G.2.2.1 75)), (1, .int v1), (2, .int v2), (3, .int v3), (4, .int v4), (5, .int v5), (6, .int v6), (7, .int v7), (8, .int v8), (9, .int v9)] [] σ := by
  intro n
  induction n with
  | zero => intro v1 v2 v3 v4 v5 v6 v7 v8 v9 σ hw; exact hw.elim
  | succ n ih =>
    intro v1 v2 v3 v4 v5 v6 v7 v8 v9 σ hw
    have hw : vp_in 1 9680 ∧ (
    (((gI σ 76 (1 : Int32).toNatClampNeg) ≤ v9 →
      ∀ v7_1 : Int32, v7_1 = v7 + 1 →
      K6 v1 v2 v3 v4 v5 v6 v7_1 σ) ∧
    (¬ (gI σ 76 (1 : Int32).toNatClampNeg) ≤ v9 →
      ((v8 = 0 →
        ∀ v7_2 : Int32, v7_2 = v7 + 1 →
        K6 v1 v2 v3 v4 v5 v6 v7_2 σ) ∧
      (¬ v8 = 0 →
        ((v5 = (-1) →
          wbX12_sumOf_97 (wbX12_sumOf_66 K6 post n) post v1 v2 v3 v4 v5 v7 v8 v9 v6 σ) ∧
        (¬ v5 = (-1) →
          ((¬ v5 = v9 →
            ∀ v6_3 : Int32, v6_3 = (v6 + 0) →
            ∀ v9_4 : Int32, v9_4 = v9 + 1 →
            wbX12_sumOf_66 K6 post n v1 v2 v3 v4 v5 v6_3 v7 v8 v9_4 σ) ∧
          (v5 = v9 →
            wbX12_sumOf_97 (wbX12_sumOf_66 K6 post n) post v1 v2 v3 v4 v5 v7 v8 v9 v6 σ))))))))) := hw
    refine go_iload C 9 rfl dX12_sumOf_66 ?_
    refine go_aload_n C 0 rfl rfl dX12_sumOf_68 ?_
    refine go_get (v := .ref (G.2.2.1 76)) C (shX12 G) (ltX12 hN) lkX12_7 rfl dX12_sumOf_69 ?_
    refine go_iconst (v := 1) C rfl dX12_sumOf_72 ?_
    refine go_iald C (saX12_a G) (laX12_a hN) hw.1 dX12_sumOf_73 ?_
    replace hw := hw.2
    refine go_icmp_ge C 132 rfl dX12_sumOf_74 (fun hc => ?_) (fun hc => ?_)
    · replace hw := hw.1 hc
      obtain ⟨v7_1, ev7_1⟩ : ∃ z : Int32, z = v7 + 1 := ⟨_, rfl⟩
      replace hw := hw v7_1 ev7_1
      refine go_iinc (v := v7_1) (lv2 := [(7, .int v7_1), (0, .ref (G.2.2.1 75)), (1, .int v1), (2, .int v2), (3, .int v3), (4, .int v4), (5, .int v5), (6, .int v6), (8, .int v8), (9, .int v9)]) C 7 rfl (by rw [ev7_1]; rfl) (by rw [hnl]; decide) rfl dX12_sumOf_132 ?_
      refine go_goto C 6 rfl dX12_sumOf_135 ?_
      refine go_sub [1, 2, 3, 4, 5, 6, 7, 0] rfl ?_
      exact hK6 _ _ _ _ _ _ _ _ hw
    · replace hw := hw.2 hc
      refine go_iload C 8 rfl dX12_sumOf_77 ?_
      refine go_if_eq C 132 rfl dX12_sumOf_79 (fun hc => ?_) (fun hc => ?_)
      · replace hw := hw.1 hc
        obtain ⟨v7_2, ev7_2⟩ : ∃ z : Int32, z = v7 + 1 := ⟨_, rfl⟩
        replace hw := hw v7_2 ev7_2
        refine go_iinc (v := v7_2) (lv2 := [(7, .int v7_2), (0, .ref (G.2.2.1 75)), (1, .int v1), (2, .int v2), (3, .int v3), (4, .int v4), (5, .int v5), (6, .int v6), (8, .int v8), (9, .int v9)]) C 7 rfl (by rw [ev7_2]; rfl) (by rw [hnl]; decide) rfl dX12_sumOf_132 ?_
        refine go_goto C 6 rfl dX12_sumOf_135 ?_
        refine go_sub [1, 2, 3, 4, 5, 6, 7, 0] rfl ?_
        exact hK6 _ _ _ _ _ _ _ _ hw
      · replace hw := hw.2 hc
        refine go_iload C 6 rfl dX12_sumOf_82 ?_
        refine go_iload C 5 rfl dX12_sumOf_84 ?_
        refine go_iconst (v := (-1)) C rfl dX12_sumOf_86 ?_
        refine go_icmp_eq C 97 rfl dX12_sumOf_87 (fun hc => ?_) (fun hc => ?_)
        · replace hw := hw.1 hc
          refine go_sub [0, 1, 2, 3, 4, 5, 7, 8, 9] rfl ?_
          exact (gbX12_sumOf_97 C hr hR hnl hd hN ih) _ _ _ _ _ _ _ _ _ _ hw
        · replace hw := hw.2 hc
          refine go_iload C 5 rfl dX12_sumOf_90 ?_
          refine go_iload C 9 rfl dX12_sumOf_92 ?_
          refine go_icmp_ne C 122 rfl dX12_sumOf_94 (fun hc => ?_) (fun hc => ?_)
          · replace hw := hw.1 hc
            refine go_iconst (v := 0) C rfl dX12_sumOf_122 ?_
            refine go_iadd C dX12_sumOf_123 ?_
            refine go_topi (fun v6_3 ev6_3 => ?_)
            replace hw := hw v6_3 ev6_3
            refine go_istore (lv2 := [(6, .int v6_3), (0, .ref (G.2.2.1 75)), (1, .int v1), (2, .int v2), (3, .int v3), (4, .int v4), (5, .int v5), (7, .int v7), (8, .int v8), (9, .int v9)]) C (by rw [hnl]; decide) rfl dX12_sumOf_124 ?_
            obtain ⟨v9_4, ev9_4⟩ : ∃ z : Int32, z = v9 + 1 := ⟨_, rfl⟩
            replace hw := hw v9_4 ev9_4
            refine go_iinc (v := v9_4) (lv2 := [(9, .int v9_4), (6, .int v6_3), (0, .ref (G.2.2.1 75)), (1, .int v1), (2, .int v2), (3, .int v3), (4, .int v4), (5, .int v5), (7, .int v7), (8, .int v8)]) C 9 rfl (by rw [ev9_4]; rfl) (by rw [hnl]; decide) rfl dX12_sumOf_126 ?_
            refine go_goto C 66 rfl dX12_sumOf_129 ?_
            refine go_sub [2, 3, 4, 5, 6, 7, 1, 8, 9, 0] rfl ?_
            exact ih _ _ _ _ _ _ _ _ _ _ hw
          · replace hw := hw.2 hc
            refine go_sub [0, 1, 2, 3, 4, 5, 7, 8, 9] rfl ?_
            exact (gbX12_sumOf_97 C hr hR hnl hd hN ih) _ _ _ _ _ _ _ _ _ _ hw
set_option maxRecDepth 20000 in
set_option maxHeartbeats 4000000 in
theorem gbX12_sumOf_6 {X : XT} {G : GT} {l : Launch} {d : Nat}  {post : Int32 → St → Prop} (C : Cx X G cX12_sumOf RX12) (hr : Rt X G (some .int) (fun v τ => ∃ r : Int32, v = some (.int r) ∧ post r τ)) (hR : Rm X l d) (hnl : X.2.2.2.2.2.2.2.2.2.2.1 = 10)  (hd : 1 ≤ d) (hN : 119 ≤ G.2.2.2.2.2)   
    : ∀ (n : Nat) (v1 : Int32) (v2 : Int32) (v3 : Int32) (v4 : Int32) (v5 : Int32) (v6 : Int32) (v7 : Int32) (σ : St), wbX12_sumOf_6   post n v1 v2 v3 v4 v5 v6 v7 σ → Go X G 6 [(0, .ref (G.2.2.1 75)), (1, .int v1), (2, .int v2), (3, .int v3), (4, .int v4), (5, .int v5), (6, .int v6), (7, .int v7)] [] σ := by
  intro n
  induction n with
  | zero => intro v1 v2 v3 v4 v5 v6 v7 σ hw; exact hw.elim
  | succ n ih =>
    intro v1 v2 v3 v4 v5 v6 v7 σ hw
    have hw : ((12 ≤ v7 →
      post v6 σ) ∧
    (¬ 12 ≤ v7 →
      ((v2 = (-1) →
        wbX12_sumOf_26 (fun v1 v2 v3 v4 v5 v6 v7 v8 v9 σ => ∃ m_66, wbX12_sumOf_66 (wbX12_sumOf_6 post n) post m_66 v1 v2 v3 v4 v5 v6 v7 v8 v9 σ) post v1 v2 v3 v4 v5 v6 v7 σ) ∧
      (¬ v2 = (-1) →
        ((¬ (v7 / 4) = v2 →
          ∃ m_66, wbX12_sumOf_66 (wbX12_sumOf_6 post n) post m_66 v1 v2 v3 v4 v5 v6 v7 0 0 σ) ∧
        ((v7 / 4) = v2 →
          wbX12_sumOf_26 (fun v1 v2 v3 v4 v5 v6 v7 v8 v9 σ => ∃ m_66, wbX12_sumOf_66 (wbX12_sumOf_6 post n) post m_66 v1 v2 v3 v4 v5 v6 v7 v8 v9 σ) post v1 v2 v3 v4 v5 v6 v7 σ)))))) := hw
    refine go_iload C 7 rfl dX12_sumOf_6 ?_
    refine go_bipush (v := 12) C rfl dX12_sumOf_8 ?_
    refine go_icmp_ge C 138 rfl dX12_sumOf_10 (fun hc => ?_) (fun hc => ?_)
    · replace hw := hw.1 hc
      refine go_iload C 6 rfl dX12_sumOf_138 ?_
      exact go_iret C hr ⟨_, rfl, hw⟩ dX12_sumOf_140
    · replace hw := hw.2 hc
      refine go_iload_n C 2 rfl rfl dX12_sumOf_13 ?_
      refine go_iconst (v := (-1)) C rfl dX12_sumOf_14 ?_
      refine go_icmp_eq C 26 rfl dX12_sumOf_15 (fun hc => ?_) (fun hc => ?_)
      · replace hw := hw.1 hc
        exact (gbX12_sumOf_26 C hr hR hnl hd hN (fun v1 v2 v3 v4 v5 v6 v7 v8 v9 σ h => h.elim fun n_0 h => (gbX12_sumOf_66 C hr hR hnl hd hN ih) n_0 v1 v2 v3 v4 v5 v6 v7 v8 v9 σ h)) _ _ _ _ _ _ _ _ hw
      · replace hw := hw.2 hc
        refine go_iload C 7 rfl dX12_sumOf_18 ?_
        refine go_iconst (v := 4) C rfl dX12_sumOf_20 ?_
        refine go_idiv C (by decide) dX12_sumOf_21 ?_
        refine go_iload_n C 2 rfl rfl dX12_sumOf_22 ?_
        refine go_icmp_ne C 60 rfl dX12_sumOf_23 (fun hc => ?_) (fun hc => ?_)
        · replace hw := hw.1 hc
          refine go_iconst (v := 0) C rfl dX12_sumOf_60 ?_
          refine go_istore (lv2 := [(8, .int 0), (0, .ref (G.2.2.1 75)), (1, .int v1), (2, .int v2), (3, .int v3), (4, .int v4), (5, .int v5), (6, .int v6), (7, .int v7)]) C (by rw [hnl]; decide) rfl dX12_sumOf_61 ?_
          refine go_iconst (v := 0) C rfl dX12_sumOf_63 ?_
          refine go_istore (lv2 := [(9, .int 0), (8, .int 0), (0, .ref (G.2.2.1 75)), (1, .int v1), (2, .int v2), (3, .int v3), (4, .int v4), (5, .int v5), (6, .int v6), (7, .int v7)]) C (by rw [hnl]; decide) rfl dX12_sumOf_64 ?_
          refine go_sub [2, 3, 4, 5, 6, 7, 8, 9, 1, 0] rfl ?_
          obtain ⟨n_0, hw⟩ := hw
          exact (gbX12_sumOf_66 C hr hR hnl hd hN ih) n_0 _ _ _ _ _ _ _ _ _ _ hw
        · replace hw := hw.2 hc
          exact (gbX12_sumOf_26 C hr hR hnl hd hN (fun v1 v2 v3 v4 v5 v6 v7 v8 v9 σ h => h.elim fun n_0 h => (gbX12_sumOf_66 C hr hR hnl hd hN ih) n_0 v1 v2 v3 v4 v5 v6 v7 v8 v9 σ h)) _ _ _ _ _ _ _ _ hw
set_option maxRecDepth 20000 in
set_option maxHeartbeats 4000000 in
theorem spX12_sumOf {l : Launch} {G : GT} {d : Nat}  (hd : 1 ≤ d)  (hN : 119 ≤ G.2.2.2.2.2)  {a1 : Int32} {a2 : Int32} {a3 : Int32} {a4 : Int32} {a5 : Int32} {σ : St} {post : Int32 → St → Prop} (hw : wpX12_sumOf  a1 a2 a3 a4 a5 σ post) : Sp l G d yX12_sumOf cX12_sumOf 10 (some .int) [.ref (G.2.2.1 75), .int a1, .int a2, .int a3, .int a4, .int a5] σ (fun v τ => ∃ r : Int32, v = some (.int r) ∧ post r τ) := by
  refine Sp.of (by decide) (Nat.le_of_ble_eq_true rfl) fun X C hr hR hnl => ?_
  show Go X G 0 [(0, .ref (G.2.2.1 75)), (1, .int a1), (2, .int a2), (3, .int a3), (4, .int a4), (5, .int a5)] [] σ
  have hw : ∃ m_6, wbX12_sumOf_6 post m_6 a1 a2 a3 a4 a5 0 0 σ := hw
  refine go_iconst (v := 0) C rfl dX12_sumOf_0 ?_
  refine go_istore (lv2 := [(6, .int 0), (0, .ref (G.2.2.1 75)), (1, .int a1), (2, .int a2), (3, .int a3), (4, .int a4), (5, .int a5)]) C (by rw [hnl]; decide) rfl dX12_sumOf_1 ?_
  refine go_iconst (v := 0) C rfl dX12_sumOf_3 ?_
  refine go_istore (lv2 := [(7, .int 0), (6, .int 0), (0, .ref (G.2.2.1 75)), (1, .int a1), (2, .int a2), (3, .int a3), (4, .int a4), (5, .int a5)]) C (by rw [hnl]; decide) rfl dX12_sumOf_4 ?_
  refine go_sub [2, 3, 4, 5, 6, 7, 1, 0] rfl ?_
  obtain ⟨n_0, hw⟩ := hw
  exact (gbX12_sumOf_6 C hr hR hnl hd hN) n_0 _ _ _ _ _ _ _ _ hw
-- CradleNamesModel.given(IIIII)I
set_option maxRecDepth 20000 in
set_option maxHeartbeats 4000000 in
theorem gbX12_given_59 {X : XT} {G : GT} {l : Launch} {d : Nat}  {post : Int32 → St → Prop} (C : Cx X G cX12_given RX12) (hr : Rt X G (some .int) (fun v τ => ∃ r : Int32, v = some (.int r) ∧ post r τ)) (hR : Rm X l d) (hnl : X.2.2.2.2.2.2.2.2.2.2.1 = 6)  (hd : 10 ≤ d) (hN : 119 ≤ G.2.2.2.2.2)   
    : ∀ (v1 : Int32) (v2 : Int32) (v3 : Int32) (v4 : Int32) (v5 : Int32) (σ : St), wbX12_given_59   post v1 v2 v3 v4 v5 σ → Go X G 59 [(0, .ref (G.2.2.1 75)), (1, .int v1), (2, .int v2), (3, .int v3), (4, .int v4), (5, .int v5)] [] σ := by
  intro v1 v2 v3 v4 v5 σ hw
  have hw : wpX12_runsAll  σ (fun σ_2 =>
  wpX12_sumOf v1 v2 v3 v4 v5 σ_2 (fun r_3 σ_4 =>
  post r_3 σ_4)) := hw
  refine go_aload_n C 0 rfl rfl dX12_given_59 ?_
  refine go_callV (as := []) C hR (shX12 G) (ltX12 hN) cwX12_464 (Nat.le_trans (by decide) hd) (by decide) rfl rfl (Nat.le_of_ble_eq_true rfl) dX12_given_60 (spX12_runsAll (Nat.le_refl _) hN hw) (fun v_ τ_ hw => ?_)
  obtain ⟨rfl, hw⟩ := hw
  obtain ⟨σ_2, rfl⟩ : ∃ z, z = τ_ := ⟨_, rfl⟩
  refine go_aload_n C 0 rfl rfl dX12_given_63 ?_
  refine go_iload_n C 1 rfl rfl dX12_given_64 ?_
  refine go_iload_n C 2 rfl rfl dX12_given_65 ?_
  refine go_iload_n C 3 rfl rfl dX12_given_66 ?_
  refine go_iload C 4 rfl dX12_given_67 ?_
  refine go_iload C 5 rfl dX12_given_69 ?_
  refine go_callV (as := [.int v1, .int v2, .int v3, .int v4, .int v5]) C hR (shX12 G) (ltX12 hN) cwX12_471 (Nat.le_trans (by decide) hd) (by decide) rfl rfl (Nat.le_of_ble_eq_true rfl) dX12_given_71 (spX12_sumOf (Nat.le_refl _) hN hw) (fun v_ τ_ hw => ?_)
  obtain ⟨r_3, rfl, hw⟩ := hw
  obtain ⟨σ_4, rfl⟩ : ∃ z, z = τ_ := ⟨_, rfl⟩
  exact go_iret C hr ⟨_, rfl, hw⟩ dX12_given_74
set_option maxRecDepth 20000 in
set_option maxHeartbeats 4000000 in
theorem spX12_given {l : Launch} {G : GT} {d : Nat}  (hd : 10 ≤ d)  (hN : 119 ≤ G.2.2.2.2.2)  {a1 : Int32} {a2 : Int32} {a3 : Int32} {a4 : Int32} {a5 : Int32} {σ : St} {post : Int32 → St → Prop} (hw : wpX12_given  a1 a2 a3 a4 a5 σ post) : Sp l G d yX12_given cX12_given 6 (some .int) [.ref (G.2.2.1 75), .int a1, .int a2, .int a3, .int a4, .int a5] σ (fun v τ => ∃ r : Int32, v = some (.int r) ∧ post r τ) := by
  refine Sp.of (by decide) (Nat.le_of_ble_eq_true rfl) fun X C hr hR hnl => ?_
  show Go X G 0 [(0, .ref (G.2.2.1 75)), (1, .int a1), (2, .int a2), (3, .int a3), (4, .int a4), (5, .int a5)] [] σ
  have hw : vp_in 0 9680 ∧ (
  wpX12_in a1 (-40) ((gI σ 76 (0 : Int32).toNatClampNeg) - 1) σ (fun r_1 σ_2 =>
  ((r_1 = 0 →
    post (-1) σ_2) ∧
  (¬ r_1 = 0 →
    wpX12_isPart a2 2 σ_2 (fun r_3 σ_4 =>
    ((r_3 = 0 →
      post (-1) σ_4) ∧
    (¬ r_3 = 0 →
      wpX12_isPart a3 1 σ_4 (fun r_5 σ_6 =>
      ((r_5 = 0 →
        post (-1) σ_6) ∧
      (¬ r_5 = 0 →
        wpX12_isPart a4 1 σ_6 (fun r_7 σ_8 =>
        ((r_7 = 0 →
          post (-1) σ_8) ∧
        (¬ r_7 = 0 →
          ((a5 = (-1) →
            wbX12_given_59 post a1 a2 a3 a4 a5 σ_8) ∧
          (¬ a5 = (-1) →
            wpX12_isName a5 σ_8 (fun r_9 σ_10 =>
            ((¬ r_9 = 0 →
              wbX12_given_59 post a1 a2 a3 a4 a5 σ_10) ∧
            (r_9 = 0 →
              post (-1) σ_10)))))))))))))))))) := hw
  refine go_iload_n C 1 rfl rfl dX12_given_0 ?_
  refine go_bipush (v := (-40)) C rfl dX12_given_1 ?_
  refine go_aload_n C 0 rfl rfl dX12_given_3 ?_
  refine go_get (v := .ref (G.2.2.1 76)) C (shX12 G) (ltX12 hN) lkX12_7 rfl dX12_given_4 ?_
  refine go_iconst (v := 0) C rfl dX12_given_7 ?_
  refine go_iald C (saX12_a G) (laX12_a hN) hw.1 dX12_given_8 ?_
  replace hw := hw.2
  refine go_iconst (v := 1) C rfl dX12_given_9 ?_
  refine go_isub C dX12_given_10 ?_
  refine go_callS (as := [.int a1, .int (-40), .int ((gI σ 76 (0 : Int32).toNatClampNeg) - 1)]) C hR cwX12_152 (Nat.le_trans (by decide) hd) (by decide) rfl rfl (Nat.le_of_ble_eq_true rfl) dX12_given_11 (spX12_in (Nat.le_refl _) hN hw) (fun v_ τ_ hw => ?_)
  obtain ⟨r_1, rfl, hw⟩ := hw
  obtain ⟨σ_2, rfl⟩ : ∃ z, z = τ_ := ⟨_, rfl⟩
  refine go_if_eq C 57 rfl dX12_given_14 (fun hc => ?_) (fun hc => ?_)
  · replace hw := hw.1 hc
    refine go_iconst (v := (-1)) C rfl dX12_given_57 ?_
    exact go_iret C hr ⟨_, rfl, hw⟩ dX12_given_58
  · replace hw := hw.2 hc
    refine go_iload_n C 2 rfl rfl dX12_given_17 ?_
    refine go_iconst (v := 2) C rfl dX12_given_18 ?_
    refine go_callS (as := [.int a2, .int 2]) C hR cwX12_467 (Nat.le_trans (by decide) hd) (by decide) rfl rfl (Nat.le_of_ble_eq_true rfl) dX12_given_19 (spX12_isPart (Nat.le_refl _) hN hw) (fun v_ τ_ hw => ?_)
    obtain ⟨r_3, rfl, hw⟩ := hw
    obtain ⟨σ_4, rfl⟩ : ∃ z, z = τ_ := ⟨_, rfl⟩
    refine go_if_eq C 57 rfl dX12_given_22 (fun hc => ?_) (fun hc => ?_)
    · replace hw := hw.1 hc
      refine go_iconst (v := (-1)) C rfl dX12_given_57 ?_
      exact go_iret C hr ⟨_, rfl, hw⟩ dX12_given_58
    · replace hw := hw.2 hc
      refine go_iload_n C 3 rfl rfl dX12_given_25 ?_
      refine go_iconst (v := 1) C rfl dX12_given_26 ?_
      refine go_callS (as := [.int a3, .int 1]) C hR cwX12_467 (Nat.le_trans (by decide) hd) (by decide) rfl rfl (Nat.le_of_ble_eq_true rfl) dX12_given_27 (spX12_isPart (Nat.le_refl _) hN hw) (fun v_ τ_ hw => ?_)
      obtain ⟨r_5, rfl, hw⟩ := hw
      obtain ⟨σ_6, rfl⟩ : ∃ z, z = τ_ := ⟨_, rfl⟩
      refine go_if_eq C 57 rfl dX12_given_30 (fun hc => ?_) (fun hc => ?_)
      · replace hw := hw.1 hc
        refine go_iconst (v := (-1)) C rfl dX12_given_57 ?_
        exact go_iret C hr ⟨_, rfl, hw⟩ dX12_given_58
      · replace hw := hw.2 hc
        refine go_iload C 4 rfl dX12_given_33 ?_
        refine go_iconst (v := 1) C rfl dX12_given_35 ?_
        refine go_callS (as := [.int a4, .int 1]) C hR cwX12_467 (Nat.le_trans (by decide) hd) (by decide) rfl rfl (Nat.le_of_ble_eq_true rfl) dX12_given_36 (spX12_isPart (Nat.le_refl _) hN hw) (fun v_ τ_ hw => ?_)
        obtain ⟨r_7, rfl, hw⟩ := hw
        obtain ⟨σ_8, rfl⟩ : ∃ z, z = τ_ := ⟨_, rfl⟩
        refine go_if_eq C 57 rfl dX12_given_39 (fun hc => ?_) (fun hc => ?_)
        · replace hw := hw.1 hc
          refine go_iconst (v := (-1)) C rfl dX12_given_57 ?_
          exact go_iret C hr ⟨_, rfl, hw⟩ dX12_given_58
        · replace hw := hw.2 hc
          refine go_iload C 5 rfl dX12_given_42 ?_
          refine go_iconst (v := (-1)) C rfl dX12_given_44 ?_
          refine go_icmp_eq C 59 rfl dX12_given_45 (fun hc => ?_) (fun hc => ?_)
          · replace hw := hw.1 hc
            exact (gbX12_given_59 C hr hR hnl hd hN) _ _ _ _ _ _ hw
          · replace hw := hw.2 hc
            refine go_aload_n C 0 rfl rfl dX12_given_48 ?_
            refine go_iload C 5 rfl dX12_given_49 ?_
            refine go_callV (as := [.int a5]) C hR (shX12 G) (ltX12 hN) cwX12_182 (Nat.le_trans (by decide) hd) (by decide) rfl rfl (Nat.le_of_ble_eq_true rfl) dX12_given_51 (spX12_isName (Nat.le_refl _) hN hw) (fun v_ τ_ hw => ?_)
            obtain ⟨r_9, rfl, hw⟩ := hw
            obtain ⟨σ_10, rfl⟩ : ∃ z, z = τ_ := ⟨_, rfl⟩
            refine go_if_ne C 59 rfl dX12_given_54 (fun hc => ?_) (fun hc => ?_)
            · replace hw := hw.1 hc
              exact (gbX12_given_59 C hr hR hnl hd hN) _ _ _ _ _ _ hw
            · replace hw := hw.2 hc
              refine go_iconst (v := (-1)) C rfl dX12_given_57 ?_
              exact go_iret C hr ⟨_, rfl, hw⟩ dX12_given_58
-- CradleNamesModel.unnamed(I)I
set_option maxRecDepth 20000 in
set_option maxHeartbeats 4000000 in
theorem gbX12_unnamed_23 {X : XT} {G : GT} {l : Launch} {d : Nat}  {post : Int32 → St → Prop} (C : Cx X G cX12_unnamed RX12) (hr : Rt X G (some .int) (fun v τ => ∃ r : Int32, v = some (.int r) ∧ post r τ)) (hR : Rm X l d) (hnl : X.2.2.2.2.2.2.2.2.2.2.1 = 4)  (hd : 10 ≤ d) (hN : 119 ≤ G.2.2.2.2.2)   
    : ∀ (n : Nat) (v1 : Int32) (v2 : Int32) (v3 : Int32) (σ : St), wbX12_unnamed_23   post n v1 v2 v3 σ → Go X G 23 [(0, .ref (G.2.2.1 75)), (1, .int v1), (2, .int v2), (3, .int v3)] [] σ := by
  intro n
  induction n with
  | zero => intro v1 v2 v3 σ hw; exact hw.elim
  | succ n ih =>
    intro v1 v2 v3 σ hw
    have hw : vp_in 0 9680 ∧ (
    (((gI σ 76 (0 : Int32).toNatClampNeg) ≤ v3 →
      post v2 σ) ∧
    (¬ (gI σ 76 (0 : Int32).toNatClampNeg) ≤ v3 →
      ((v1 = (-1) →
        vp_in v3 61 ∧ (
        ∀ v2_1 : Int32, v2_1 = (v2 + (gI σ 103 v3.toNatClampNeg)) →
        ∀ v3_2 : Int32, v3_2 = v3 + 1 →
        wbX12_unnamed_23 post n v1 v2_1 v3_2 σ)) ∧
      (¬ v1 = (-1) →
        ((¬ v1 = v3 →
          ∀ v2_3 : Int32, v2_3 = (v2 + 0) →
          ∀ v3_4 : Int32, v3_4 = v3 + 1 →
          wbX12_unnamed_23 post n v1 v2_3 v3_4 σ) ∧
        (v1 = v3 →
          vp_in v3 61 ∧ (
          ∀ v2_5 : Int32, v2_5 = (v2 + (gI σ 103 v3.toNatClampNeg)) →
          ∀ v3_6 : Int32, v3_6 = v3 + 1 →
          wbX12_unnamed_23 post n v1 v2_5 v3_6 σ)))))))) := hw
    refine go_iload_n C 3 rfl rfl dX12_unnamed_23 ?_
    refine go_aload_n C 0 rfl rfl dX12_unnamed_24 ?_
    refine go_get (v := .ref (G.2.2.1 76)) C (shX12 G) (ltX12 hN) lkX12_7 rfl dX12_unnamed_25 ?_
    refine go_iconst (v := 0) C rfl dX12_unnamed_28 ?_
    refine go_iald C (saX12_a G) (laX12_a hN) hw.1 dX12_unnamed_29 ?_
    replace hw := hw.2
    refine go_icmp_ge C 62 rfl dX12_unnamed_30 (fun hc => ?_) (fun hc => ?_)
    · replace hw := hw.1 hc
      refine go_iload_n C 2 rfl rfl dX12_unnamed_62 ?_
      exact go_iret C hr ⟨_, rfl, hw⟩ dX12_unnamed_63
    · replace hw := hw.2 hc
      refine go_iload_n C 2 rfl rfl dX12_unnamed_33 ?_
      refine go_iload_n C 1 rfl rfl dX12_unnamed_34 ?_
      refine go_iconst (v := (-1)) C rfl dX12_unnamed_35 ?_
      refine go_icmp_eq C 44 rfl dX12_unnamed_36 (fun hc => ?_) (fun hc => ?_)
      · replace hw := hw.1 hc
        refine go_aload_n C 0 rfl rfl dX12_unnamed_44 ?_
        refine go_get (v := .ref (G.2.2.1 103)) C (shX12 G) (ltX12 hN) lkX12_100 rfl dX12_unnamed_45 ?_
        refine go_iload_n C 3 rfl rfl dX12_unnamed_48 ?_
        refine go_iald C (saX12_nameless G) (laX12_nameless hN) hw.1 dX12_unnamed_49 ?_
        replace hw := hw.2
        refine go_goto C 54 rfl dX12_unnamed_50 ?_
        refine go_iadd C dX12_unnamed_54 ?_
        refine go_topi (fun v2_1 ev2_1 => ?_)
        replace hw := hw v2_1 ev2_1
        refine go_istore_n (lv2 := [(2, .int v2_1), (0, .ref (G.2.2.1 75)), (1, .int v1), (3, .int v3)]) C rfl (by rw [hnl]; decide) rfl dX12_unnamed_55 ?_
        obtain ⟨v3_2, ev3_2⟩ : ∃ z : Int32, z = v3 + 1 := ⟨_, rfl⟩
        replace hw := hw v3_2 ev3_2
        refine go_iinc (v := v3_2) (lv2 := [(3, .int v3_2), (2, .int v2_1), (0, .ref (G.2.2.1 75)), (1, .int v1)]) C 3 rfl (by rw [ev3_2]; rfl) (by rw [hnl]; decide) rfl dX12_unnamed_56 ?_
        refine go_goto C 23 rfl dX12_unnamed_59 ?_
        refine go_sub [2, 3, 1, 0] rfl ?_
        exact ih _ _ _ _ hw
      · replace hw := hw.2 hc
        refine go_iload_n C 1 rfl rfl dX12_unnamed_39 ?_
        refine go_iload_n C 3 rfl rfl dX12_unnamed_40 ?_
        refine go_icmp_ne C 53 rfl dX12_unnamed_41 (fun hc => ?_) (fun hc => ?_)
        · replace hw := hw.1 hc
          refine go_iconst (v := 0) C rfl dX12_unnamed_53 ?_
          refine go_iadd C dX12_unnamed_54 ?_
          refine go_topi (fun v2_3 ev2_3 => ?_)
          replace hw := hw v2_3 ev2_3
          refine go_istore_n (lv2 := [(2, .int v2_3), (0, .ref (G.2.2.1 75)), (1, .int v1), (3, .int v3)]) C rfl (by rw [hnl]; decide) rfl dX12_unnamed_55 ?_
          obtain ⟨v3_4, ev3_4⟩ : ∃ z : Int32, z = v3 + 1 := ⟨_, rfl⟩
          replace hw := hw v3_4 ev3_4
          refine go_iinc (v := v3_4) (lv2 := [(3, .int v3_4), (2, .int v2_3), (0, .ref (G.2.2.1 75)), (1, .int v1)]) C 3 rfl (by rw [ev3_4]; rfl) (by rw [hnl]; decide) rfl dX12_unnamed_56 ?_
          refine go_goto C 23 rfl dX12_unnamed_59 ?_
          refine go_sub [2, 3, 1, 0] rfl ?_
          exact ih _ _ _ _ hw
        · replace hw := hw.2 hc
          refine go_aload_n C 0 rfl rfl dX12_unnamed_44 ?_
          refine go_get (v := .ref (G.2.2.1 103)) C (shX12 G) (ltX12 hN) lkX12_100 rfl dX12_unnamed_45 ?_
          refine go_iload_n C 3 rfl rfl dX12_unnamed_48 ?_
          refine go_iald C (saX12_nameless G) (laX12_nameless hN) hw.1 dX12_unnamed_49 ?_
          replace hw := hw.2
          refine go_goto C 54 rfl dX12_unnamed_50 ?_
          refine go_iadd C dX12_unnamed_54 ?_
          refine go_topi (fun v2_5 ev2_5 => ?_)
          replace hw := hw v2_5 ev2_5
          refine go_istore_n (lv2 := [(2, .int v2_5), (0, .ref (G.2.2.1 75)), (1, .int v1), (3, .int v3)]) C rfl (by rw [hnl]; decide) rfl dX12_unnamed_55 ?_
          obtain ⟨v3_6, ev3_6⟩ : ∃ z : Int32, z = v3 + 1 := ⟨_, rfl⟩
          replace hw := hw v3_6 ev3_6
          refine go_iinc (v := v3_6) (lv2 := [(3, .int v3_6), (2, .int v2_5), (0, .ref (G.2.2.1 75)), (1, .int v1)]) C 3 rfl (by rw [ev3_6]; rfl) (by rw [hnl]; decide) rfl dX12_unnamed_56 ?_
          refine go_goto C 23 rfl dX12_unnamed_59 ?_
          refine go_sub [2, 3, 1, 0] rfl ?_
          exact ih _ _ _ _ hw
set_option maxRecDepth 20000 in
set_option maxHeartbeats 4000000 in
theorem gbX12_unnamed_15 {X : XT} {G : GT} {l : Launch} {d : Nat}  {post : Int32 → St → Prop} (C : Cx X G cX12_unnamed RX12) (hr : Rt X G (some .int) (fun v τ => ∃ r : Int32, v = some (.int r) ∧ post r τ)) (hR : Rm X l d) (hnl : X.2.2.2.2.2.2.2.2.2.2.1 = 4)  (hd : 10 ≤ d) (hN : 119 ≤ G.2.2.2.2.2)   
    : ∀ (v1 : Int32) (σ : St), wbX12_unnamed_15   post v1 σ → Go X G 15 [(0, .ref (G.2.2.1 75)), (1, .int v1)] [] σ := by
  intro v1 σ hw
  have hw : wpX12_runsAll  σ (fun σ_2 =>
  ∃ m_23, wbX12_unnamed_23 post m_23 v1 0 0 σ_2) := hw
  refine go_aload_n C 0 rfl rfl dX12_unnamed_15 ?_
  refine go_callV (as := []) C hR (shX12 G) (ltX12 hN) cwX12_464 (Nat.le_trans (by decide) hd) (by decide) rfl rfl (Nat.le_of_ble_eq_true rfl) dX12_unnamed_16 (spX12_runsAll (Nat.le_refl _) hN hw) (fun v_ τ_ hw => ?_)
  obtain ⟨rfl, hw⟩ := hw
  obtain ⟨σ_2, rfl⟩ : ∃ z, z = τ_ := ⟨_, rfl⟩
  refine go_iconst (v := 0) C rfl dX12_unnamed_19 ?_
  refine go_istore_n (lv2 := [(2, .int 0), (0, .ref (G.2.2.1 75)), (1, .int v1)]) C rfl (by rw [hnl]; decide) rfl dX12_unnamed_20 ?_
  refine go_iconst (v := 0) C rfl dX12_unnamed_21 ?_
  refine go_istore_n (lv2 := [(3, .int 0), (2, .int 0), (0, .ref (G.2.2.1 75)), (1, .int v1)]) C rfl (by rw [hnl]; decide) rfl dX12_unnamed_22 ?_
  refine go_sub [2, 3, 1, 0] rfl ?_
  obtain ⟨n_0, hw⟩ := hw
  exact (gbX12_unnamed_23 C hr hR hnl hd hN) n_0 _ _ _ _ hw
set_option maxRecDepth 20000 in
set_option maxHeartbeats 4000000 in
theorem spX12_unnamed {l : Launch} {G : GT} {d : Nat}  (hd : 10 ≤ d)  (hN : 119 ≤ G.2.2.2.2.2)  {a1 : Int32} {σ : St} {post : Int32 → St → Prop} (hw : wpX12_unnamed  a1 σ post) : Sp l G d yX12_unnamed cX12_unnamed 4 (some .int) [.ref (G.2.2.1 75), .int a1] σ (fun v τ => ∃ r : Int32, v = some (.int r) ∧ post r τ) := by
  refine Sp.of (by decide) (Nat.le_of_ble_eq_true rfl) fun X C hr hR hnl => ?_
  show Go X G 0 [(0, .ref (G.2.2.1 75)), (1, .int a1)] [] σ
  have hw : ((a1 = (-1) →
    wbX12_unnamed_15 post a1 σ) ∧
  (¬ a1 = (-1) →
    wpX12_isGone a1 σ (fun r_1 σ_2 =>
    ((¬ r_1 = 0 →
      wbX12_unnamed_15 post a1 σ_2) ∧
    (r_1 = 0 →
      post (-1) σ_2))))) := hw
  refine go_iload_n C 1 rfl rfl dX12_unnamed_0 ?_
  refine go_iconst (v := (-1)) C rfl dX12_unnamed_1 ?_
  refine go_icmp_eq C 15 rfl dX12_unnamed_2 (fun hc => ?_) (fun hc => ?_)
  · replace hw := hw.1 hc
    exact (gbX12_unnamed_15 C hr hR hnl hd hN) _ _ hw
  · replace hw := hw.2 hc
    refine go_aload_n C 0 rfl rfl dX12_unnamed_5 ?_
    refine go_iload_n C 1 rfl rfl dX12_unnamed_6 ?_
    refine go_callV (as := [.int a1]) C hR (shX12 G) (ltX12 hN) cwX12_475 (Nat.le_trans (by decide) hd) (by decide) rfl rfl (Nat.le_of_ble_eq_true rfl) dX12_unnamed_7 (spX12_isGone (Nat.le_refl _) hN hw) (fun v_ τ_ hw => ?_)
    obtain ⟨r_1, rfl, hw⟩ := hw
    obtain ⟨σ_2, rfl⟩ : ∃ z, z = τ_ := ⟨_, rfl⟩
    refine go_if_ne C 15 rfl dX12_unnamed_10 (fun hc => ?_) (fun hc => ?_)
    · replace hw := hw.1 hc
      exact (gbX12_unnamed_15 C hr hR hnl hd hN) _ _ hw
    · replace hw := hw.2 hc
      refine go_iconst (v := (-1)) C rfl dX12_unnamed_13 ?_
      exact go_iret C hr ⟨_, rfl, hw⟩ dX12_unnamed_14
-- CradleNamesModel.now(IIII)I
set_option maxRecDepth 20000 in
set_option maxHeartbeats 4000000 in
theorem gbX12_now_103 {X : XT} {G : GT} {l : Launch} {d : Nat}  {post : Int32 → St → Prop} (C : Cx X G cX12_now RX12) (hr : Rt X G (some .int) (fun v τ => ∃ r : Int32, v = some (.int r) ∧ post r τ)) (hR : Rm X l d) (hnl : X.2.2.2.2.2.2.2.2.2.2.1 = 7)  (hd : 11 ≤ d) (hN : 119 ≤ G.2.2.2.2.2)   
    : ∀ (v1 : Int32) (v2 : Int32) (v3 : Int32) (v4 : Int32) (v5 : Int32) (σ : St), wbX12_now_103   post v1 v2 v3 v4 v5 σ → Go X G 103 [(0, .ref (G.2.2.1 75)), (1, .int v1), (2, .int v2), (3, .int v3), (4, .int v4), (5, .int v5)] [] σ := by
  intro v1 v2 v3 v4 v5 σ hw
  have hw : wpX12_laysNow  σ (fun σ_2 =>
  ((¬ v5 = 0 →
    ∀ v6_3 : Int32, v6_3 = (v4 - v4 / 100 * 100) →
    vp_in 0 9680 ∧ (
    wpX12_words (gI σ_2 76 (0 : Int32).toNatClampNeg) v1 v2 v6_3 σ_2 (fun σ_5 =>
    ((200 ≤ v4 →
      vp_in 0 9680 ∧ (
      wpX12_may (gI σ_5 76 (0 : Int32).toNatClampNeg) v2 v3 v6_3 σ_5 (fun r_6 σ_7 =>
      ((r_6 = 0 →
        post 0 σ_7) ∧
      (¬ r_6 = 0 →
        post 1 σ_7))))) ∧
    (¬ 200 ≤ v4 →
      vp_in (7 + v2) 9680 ∧ (
      wpX12_worthOf (gI σ_5 76 (7 + v2).toNatClampNeg) σ_5 (fun r_8 σ_9 =>
      post r_8.toInt32 σ_9))))))) ∧
  (v5 = 0 →
    vp_in 0 9680 ∧ (
    wpX12_chooses (gI σ_2 76 (0 : Int32).toNatClampNeg) v1 v2 v3 σ_2 (fun σ_11 =>
    ((¬ v4 = 0 →
      ((¬ (gI σ_11 75 56) = (-1) →
        post ((gL σ_11 75 57).toInt32) σ_11) ∧
      ((gI σ_11 75 56) = (-1) →
        post (-2000000000) σ_11))) ∧
    (v4 = 0 →
      post (gI σ_11 75 56) σ_11))))))) := hw
  refine go_aload_n C 0 rfl rfl dX12_now_103 ?_
  refine go_callV (as := []) C hR (shX12 G) (ltX12 hN) cwX12_479 (Nat.le_trans (by decide) hd) (by decide) rfl rfl (Nat.le_of_ble_eq_true rfl) dX12_now_104 (spX12_laysNow (Nat.le_refl _) hN hw) (fun v_ τ_ hw => ?_)
  obtain ⟨rfl, hw⟩ := hw
  obtain ⟨σ_2, rfl⟩ : ∃ z, z = τ_ := ⟨_, rfl⟩
  refine go_iload C 5 rfl dX12_now_107 ?_
  refine go_if_ne C 157 rfl dX12_now_109 (fun hc => ?_) (fun hc => ?_)
  · replace hw := hw.1 hc
    refine go_iload C 4 rfl dX12_now_157 ?_
    refine go_bipush (v := 100) C rfl dX12_now_159 ?_
    refine go_irem C (by decide) dX12_now_161 ?_
    refine go_topi (fun v6_3 ev6_3 => ?_)
    replace hw := hw v6_3 ev6_3
    refine go_istore (lv2 := [(6, .int v6_3), (0, .ref (G.2.2.1 75)), (1, .int v1), (2, .int v2), (3, .int v3), (4, .int v4), (5, .int v5)]) C (by rw [hnl]; decide) rfl dX12_now_162 ?_
    refine go_aload_n C 1 rfl rfl dX12_now_164 ?_
    refine go_aload_n C 1 rfl rfl dX12_now_165 ?_
    refine go_get (v := .ref (G.2.2.1 76)) C (shX12 G) (ltX12 hN) lkX12_7 rfl dX12_now_166 ?_
    refine go_iconst (v := 0) C rfl dX12_now_169 ?_
    refine go_iald C (saX12_a G) (laX12_a hN) hw.1 dX12_now_170 ?_
    replace hw := hw.2
    refine go_iload_n C 2 rfl rfl dX12_now_171 ?_
    refine go_iload_n C 3 rfl rfl dX12_now_172 ?_
    refine go_iload C 0 rfl dX12_now_173 ?_
    refine go_callV (as := [.int (gI σ_2 76 (0 : Int32).toNatClampNeg), .int v1, .int v2, .int v6_3]) C hR (shX12 G) (ltX12 hN) cwX12_451 (Nat.le_trans (by decide) hd) (by decide) rfl rfl (Nat.le_of_ble_eq_true rfl) dX12_now_175 (spX12_words (Nat.le_refl _) hN hw) (fun v_ τ_ hw => ?_)
    obtain ⟨rfl, hw⟩ := hw
    obtain ⟨σ_5, rfl⟩ : ∃ z, z = τ_ := ⟨_, rfl⟩
    refine go_iload C 5 rfl dX12_now_178 ?_
    refine go_sipush (v := 200) C rfl dX12_now_180 ?_
    refine go_icmp_ge C 203 rfl dX12_now_183 (fun hc => ?_) (fun hc => ?_)
    · replace hw := hw.1 hc
      refine go_aload_n C 1 rfl rfl dX12_now_203 ?_
      refine go_aload_n C 1 rfl rfl dX12_now_204 ?_
      refine go_get (v := .ref (G.2.2.1 76)) C (shX12 G) (ltX12 hN) lkX12_7 rfl dX12_now_205 ?_
      refine go_iconst (v := 0) C rfl dX12_now_208 ?_
      refine go_iald C (saX12_a G) (laX12_a hN) hw.1 dX12_now_209 ?_
      replace hw := hw.2
      refine go_iload_n C 3 rfl rfl dX12_now_210 ?_
      refine go_iload_n C 4 rfl rfl dX12_now_211 ?_
      refine go_iload C 0 rfl dX12_now_212 ?_
      refine go_callV (as := [.int (gI σ_5 76 (0 : Int32).toNatClampNeg), .int v2, .int v3, .int v6_3]) C hR (shX12 G) (ltX12 hN) cwX12_454 (Nat.le_trans (by decide) hd) (by decide) rfl rfl (Nat.le_of_ble_eq_true rfl) dX12_now_214 (spX12_may (Nat.le_refl _) hN hw) (fun v_ τ_ hw => ?_)
      obtain ⟨r_6, rfl, hw⟩ := hw
      obtain ⟨σ_7, rfl⟩ : ∃ z, z = τ_ := ⟨_, rfl⟩
      refine go_if_eq C 224 rfl dX12_now_217 (fun hc => ?_) (fun hc => ?_)
      · replace hw := hw.1 hc
        refine go_iconst (v := 0) C rfl dX12_now_224 ?_
        exact go_iret C hr ⟨_, rfl, hw⟩ dX12_now_225
      · replace hw := hw.2 hc
        refine go_iconst (v := 1) C rfl dX12_now_220 ?_
        refine go_goto C 225 rfl dX12_now_221 ?_
        exact go_iret C hr ⟨_, rfl, hw⟩ dX12_now_225
    · replace hw := hw.2 hc
      refine go_aload_n C 1 rfl rfl dX12_now_186 ?_
      refine go_aload_n C 1 rfl rfl dX12_now_187 ?_
      refine go_get (v := .ref (G.2.2.1 76)) C (shX12 G) (ltX12 hN) lkX12_7 rfl dX12_now_188 ?_
      refine go_bipush (v := 7) C rfl dX12_now_191 ?_
      refine go_iload_n C 3 rfl rfl dX12_now_193 ?_
      refine go_iadd C dX12_now_194 ?_
      refine go_iald C (saX12_a G) (laX12_a hN) hw.1 dX12_now_195 ?_
      replace hw := hw.2
      refine go_callV (as := [.int (gI σ_5 76 (7 + v2).toNatClampNeg)]) C hR (shX12 G) (ltX12 hN) cwX12_458 (Nat.le_trans (by decide) hd) (by decide) rfl rfl (Nat.le_of_ble_eq_true rfl) dX12_now_196 (spX12_worthOf (Nat.le_refl _) hN hw) (fun v_ τ_ hw => ?_)
      obtain ⟨r_8, rfl, hw⟩ := hw
      obtain ⟨σ_9, rfl⟩ : ∃ z, z = τ_ := ⟨_, rfl⟩
      refine go_l2i C dX12_now_199 ?_
      refine go_goto C 225 rfl dX12_now_200 ?_
      exact go_iret C hr ⟨_, rfl, hw⟩ dX12_now_225
  · replace hw := hw.2 hc
    refine go_aload_n C 0 rfl rfl dX12_now_112 ?_
    refine go_aload_n C 0 rfl rfl dX12_now_113 ?_
    refine go_get (v := .ref (G.2.2.1 76)) C (shX12 G) (ltX12 hN) lkX12_7 rfl dX12_now_114 ?_
    refine go_iconst (v := 0) C rfl dX12_now_117 ?_
    refine go_iald C (saX12_a G) (laX12_a hN) hw.1 dX12_now_118 ?_
    replace hw := hw.2
    refine go_iload_n C 1 rfl rfl dX12_now_119 ?_
    refine go_iload_n C 2 rfl rfl dX12_now_120 ?_
    refine go_iload_n C 3 rfl rfl dX12_now_121 ?_
    refine go_callV (as := [.int (gI σ_2 76 (0 : Int32).toNatClampNeg), .int v1, .int v2, .int v3]) C hR (shX12 G) (ltX12 hN) cwX12_461 (Nat.le_trans (by decide) hd) (by decide) rfl rfl (Nat.le_of_ble_eq_true rfl) dX12_now_122 (spX12_chooses (Nat.le_refl _) hN hw) (fun v_ τ_ hw => ?_)
    obtain ⟨rfl, hw⟩ := hw
    obtain ⟨σ_11, rfl⟩ : ∃ z, z = τ_ := ⟨_, rfl⟩
    refine go_iload C 4 rfl dX12_now_125 ?_
    refine go_if_ne C 137 rfl dX12_now_127 (fun hc => ?_) (fun hc => ?_)
    · replace hw := hw.1 hc
      refine go_aload_n C 0 rfl rfl dX12_now_137 ?_
      refine go_get (v := .int (gI σ_11 75 56)) C (shX12 G) (ltX12 hN) lkX12_444 rfl dX12_now_138 ?_
      refine go_iconst (v := (-1)) C rfl dX12_now_141 ?_
      refine go_icmp_ne C 151 rfl dX12_now_142 (fun hc => ?_) (fun hc => ?_)
      · replace hw := hw.1 hc
        refine go_aload_n C 0 rfl rfl dX12_now_151 ?_
        refine go_get (v := .long (gL σ_11 75 57)) C (shX12 G) (ltX12 hN) lkX12_447 rfl dX12_now_152 ?_
        refine go_l2i C dX12_now_155 ?_
        exact go_iret C hr ⟨_, rfl, hw⟩ dX12_now_156
      · replace hw := hw.2 hc
        refine go_ldcw (v := (-2000000000)) C kcX12_478 dX12_now_145 ?_
        refine go_goto C 156 rfl dX12_now_148 ?_
        exact go_iret C hr ⟨_, rfl, hw⟩ dX12_now_156
    · replace hw := hw.2 hc
      refine go_aload_n C 0 rfl rfl dX12_now_130 ?_
      refine go_get (v := .int (gI σ_11 75 56)) C (shX12 G) (ltX12 hN) lkX12_444 rfl dX12_now_131 ?_
      refine go_goto C 156 rfl dX12_now_134 ?_
      exact go_iret C hr ⟨_, rfl, hw⟩ dX12_now_156
set_option maxRecDepth 20000 in
set_option maxHeartbeats 4000000 in
theorem gbX12_now_82 {X : XT} {G : GT} {l : Launch} {d : Nat}  {post : Int32 → St → Prop} (C : Cx X G cX12_now RX12) (hr : Rt X G (some .int) (fun v τ => ∃ r : Int32, v = some (.int r) ∧ post r τ)) (hR : Rm X l d) (hnl : X.2.2.2.2.2.2.2.2.2.2.1 = 7)  (hd : 11 ≤ d) (hN : 119 ≤ G.2.2.2.2.2)   
    : ∀ (v1 : Int32) (v2 : Int32) (v3 : Int32) (v4 : Int32) (s0 : Int32) (σ : St), wbX12_now_82   post v1 v2 v3 v4 s0 σ → Go X G 82 [(0, .ref (G.2.2.1 75)), (1, .int v1), (2, .int v2), (3, .int v3), (4, .int v4)] [.int s0] σ := by
  intro v1 v2 v3 v4 s0 σ hw
  have hw : wpX12_in v4 0 1 σ (fun r_1 σ_2 =>
  ((¬ r_1 = 0 →
    wbX12_now_103 post v1 v2 v3 v4 s0 σ_2) ∧
  (r_1 = 0 →
    ((¬ s0 = 0 →
      wbX12_now_103 post v1 v2 v3 v4 s0 σ_2) ∧
    (s0 = 0 →
      post (-2000000000) σ_2))))) := hw
  refine go_istore (lv2 := [(5, .int s0), (0, .ref (G.2.2.1 75)), (1, .int v1), (2, .int v2), (3, .int v3), (4, .int v4)]) C (by rw [hnl]; decide) rfl dX12_now_82 ?_
  refine go_iload C 5 rfl dX12_now_84 ?_
  refine go_iconst (v := 0) C rfl dX12_now_86 ?_
  refine go_iconst (v := 1) C rfl dX12_now_87 ?_
  refine go_callS (as := [.int v4, .int 0, .int 1]) C hR cwX12_152 (Nat.le_trans (by decide) hd) (by decide) rfl rfl (Nat.le_of_ble_eq_true rfl) dX12_now_88 (spX12_in (Nat.le_refl _) hN hw) (fun v_ τ_ hw => ?_)
  obtain ⟨r_1, rfl, hw⟩ := hw
  obtain ⟨σ_2, rfl⟩ : ∃ z, z = τ_ := ⟨_, rfl⟩
  refine go_if_ne C 103 rfl dX12_now_91 (fun hc => ?_) (fun hc => ?_)
  · replace hw := hw.1 hc
    refine go_sub [1, 2, 3, 4, 5, 0] rfl ?_
    exact (gbX12_now_103 C hr hR hnl hd hN) _ _ _ _ _ _ hw
  · replace hw := hw.2 hc
    refine go_iload C 0 rfl dX12_now_94 ?_
    refine go_if_ne C 103 rfl dX12_now_96 (fun hc => ?_) (fun hc => ?_)
    · replace hw := hw.1 hc
      refine go_sub [1, 2, 3, 4, 5, 0] rfl ?_
      exact (gbX12_now_103 C hr hR hnl hd hN) _ _ _ _ _ _ hw
    · replace hw := hw.2 hc
      refine go_ldcw (v := (-2000000000)) C kcX12_478 dX12_now_99 ?_
      exact go_iret C hr ⟨_, rfl, hw⟩ dX12_now_102
set_option maxRecDepth 20000 in
set_option maxHeartbeats 4000000 in
theorem spX12_now {l : Launch} {G : GT} {d : Nat}  (hd : 11 ≤ d)  (hN : 119 ≤ G.2.2.2.2.2)  {a1 : Int32} {a2 : Int32} {a3 : Int32} {a4 : Int32} {σ : St} {post : Int32 → St → Prop} (hw : wpX12_now  a1 a2 a3 a4 σ post) : Sp l G d yX12_now cX12_now 7 (some .int) [.ref (G.2.2.1 75), .int a1, .int a2, .int a3, .int a4] σ (fun v τ => ∃ r : Int32, v = some (.int r) ∧ post r τ) := by
  refine Sp.of (by decide) (Nat.le_of_ble_eq_true rfl) fun X C hr hR hnl => ?_
  show Go X G 0 [(0, .ref (G.2.2.1 75)), (1, .int a1), (2, .int a2), (3, .int a3), (4, .int a4)] [] σ
  have hw : wpX12_isCradle a1 a2 a3 σ (fun r_1 σ_2 =>
  ((r_1 = 0 →
    post (-2000000000) σ_2) ∧
  (¬ r_1 = 0 →
    vp_in 0 9680 ∧ (
    (((gI σ_2 76 (0 : Int32).toNatClampNeg) = 61 →
      post (-2000000000) σ_2) ∧
    (¬ (gI σ_2 76 (0 : Int32).toNatClampNeg) = 61 →
      vp_in (7 + a2) 9680 ∧ (
      ((¬ (gI σ_2 76 (7 + a2).toNatClampNeg) = (-1) →
        vp_in 1 9680 ∧ (
        wpX12_in a4 100 (99 + (gI σ_2 76 (1 : Int32).toNatClampNeg)) σ_2 (fun r_3 σ_4 =>
        ((¬ r_3 = 0 →
          wbX12_now_82 post a1 a2 a3 a4 1 σ_4) ∧
        (r_3 = 0 →
          vp_in 1 9680 ∧ (
          wpX12_in a4 200 (199 + (gI σ_4 76 (1 : Int32).toNatClampNeg)) σ_4 (fun r_5 σ_6 =>
          ((r_5 = 0 →
            wbX12_now_82 post a1 a2 a3 a4 0 σ_6) ∧
          (¬ r_5 = 0 →
            wbX12_now_82 post a1 a2 a3 a4 1 σ_6))))))))) ∧
      ((gI σ_2 76 (7 + a2).toNatClampNeg) = (-1) →
        post (-2000000000) σ_2))))))))) := hw
  refine go_iload_n C 1 rfl rfl dX12_now_0 ?_
  refine go_iload_n C 2 rfl rfl dX12_now_1 ?_
  refine go_iload_n C 3 rfl rfl dX12_now_2 ?_
  refine go_callS (as := [.int a1, .int a2, .int a3]) C hR cwX12_203 (Nat.le_trans (by decide) hd) (by decide) rfl rfl (Nat.le_of_ble_eq_true rfl) dX12_now_3 (spX12_isCradle (Nat.le_refl _) hN hw) (fun v_ τ_ hw => ?_)
  obtain ⟨r_1, rfl, hw⟩ := hw
  obtain ⟨σ_2, rfl⟩ : ∃ z, z = τ_ := ⟨_, rfl⟩
  refine go_if_eq C 33 rfl dX12_now_6 (fun hc => ?_) (fun hc => ?_)
  · replace hw := hw.1 hc
    refine go_ldcw (v := (-2000000000)) C kcX12_478 dX12_now_33 ?_
    exact go_iret C hr ⟨_, rfl, hw⟩ dX12_now_36
  · replace hw := hw.2 hc
    refine go_aload_n C 0 rfl rfl dX12_now_9 ?_
    refine go_get (v := .ref (G.2.2.1 76)) C (shX12 G) (ltX12 hN) lkX12_7 rfl dX12_now_10 ?_
    refine go_iconst (v := 0) C rfl dX12_now_13 ?_
    refine go_iald C (saX12_a G) (laX12_a hN) hw.1 dX12_now_14 ?_
    replace hw := hw.2
    refine go_bipush (v := 61) C rfl dX12_now_15 ?_
    refine go_icmp_eq C 33 rfl dX12_now_17 (fun hc => ?_) (fun hc => ?_)
    · replace hw := hw.1 hc
      refine go_ldcw (v := (-2000000000)) C kcX12_478 dX12_now_33 ?_
      exact go_iret C hr ⟨_, rfl, hw⟩ dX12_now_36
    · replace hw := hw.2 hc
      refine go_aload_n C 0 rfl rfl dX12_now_20 ?_
      refine go_get (v := .ref (G.2.2.1 76)) C (shX12 G) (ltX12 hN) lkX12_7 rfl dX12_now_21 ?_
      refine go_bipush (v := 7) C rfl dX12_now_24 ?_
      refine go_iload_n C 2 rfl rfl dX12_now_26 ?_
      refine go_iadd C dX12_now_27 ?_
      refine go_iald C (saX12_a G) (laX12_a hN) hw.1 dX12_now_28 ?_
      replace hw := hw.2
      refine go_iconst (v := (-1)) C rfl dX12_now_29 ?_
      refine go_icmp_ne C 37 rfl dX12_now_30 (fun hc => ?_) (fun hc => ?_)
      · replace hw := hw.1 hc
        refine go_iload C 4 rfl dX12_now_37 ?_
        refine go_bipush (v := 100) C rfl dX12_now_39 ?_
        refine go_bipush (v := 99) C rfl dX12_now_41 ?_
        refine go_aload_n C 0 rfl rfl dX12_now_43 ?_
        refine go_get (v := .ref (G.2.2.1 76)) C (shX12 G) (ltX12 hN) lkX12_7 rfl dX12_now_44 ?_
        refine go_iconst (v := 1) C rfl dX12_now_47 ?_
        refine go_iald C (saX12_a G) (laX12_a hN) hw.1 dX12_now_48 ?_
        replace hw := hw.2
        refine go_iadd C dX12_now_49 ?_
        refine go_callS (as := [.int a4, .int 100, .int (99 + (gI σ_2 76 (1 : Int32).toNatClampNeg))]) C hR cwX12_152 (Nat.le_trans (by decide) hd) (by decide) rfl rfl (Nat.le_of_ble_eq_true rfl) dX12_now_50 (spX12_in (Nat.le_refl _) hN hw) (fun v_ τ_ hw => ?_)
        obtain ⟨r_3, rfl, hw⟩ := hw
        obtain ⟨σ_4, rfl⟩ : ∃ z, z = τ_ := ⟨_, rfl⟩
        refine go_if_ne C 77 rfl dX12_now_53 (fun hc => ?_) (fun hc => ?_)
        · replace hw := hw.1 hc
          refine go_iconst (v := 1) C rfl dX12_now_77 ?_
          refine go_goto C 82 rfl dX12_now_78 ?_
          exact (gbX12_now_82 C hr hR hnl hd hN) _ _ _ _ _ _ hw
        · replace hw := hw.2 hc
          refine go_iload C 4 rfl dX12_now_56 ?_
          refine go_sipush (v := 200) C rfl dX12_now_58 ?_
          refine go_sipush (v := 199) C rfl dX12_now_61 ?_
          refine go_aload_n C 0 rfl rfl dX12_now_64 ?_
          refine go_get (v := .ref (G.2.2.1 76)) C (shX12 G) (ltX12 hN) lkX12_7 rfl dX12_now_65 ?_
          refine go_iconst (v := 1) C rfl dX12_now_68 ?_
          refine go_iald C (saX12_a G) (laX12_a hN) hw.1 dX12_now_69 ?_
          replace hw := hw.2
          refine go_iadd C dX12_now_70 ?_
          refine go_callS (as := [.int a4, .int 200, .int (199 + (gI σ_4 76 (1 : Int32).toNatClampNeg))]) C hR cwX12_152 (Nat.le_trans (by decide) hd) (by decide) rfl rfl (Nat.le_of_ble_eq_true rfl) dX12_now_71 (spX12_in (Nat.le_refl _) hN hw) (fun v_ τ_ hw => ?_)
          obtain ⟨r_5, rfl, hw⟩ := hw
          obtain ⟨σ_6, rfl⟩ : ∃ z, z = τ_ := ⟨_, rfl⟩
          refine go_if_eq C 81 rfl dX12_now_74 (fun hc => ?_) (fun hc => ?_)
          · replace hw := hw.1 hc
            refine go_iconst (v := 0) C rfl dX12_now_81 ?_
            exact (gbX12_now_82 C hr hR hnl hd hN) _ _ _ _ _ _ hw
          · replace hw := hw.2 hc
            refine go_iconst (v := 1) C rfl dX12_now_77 ?_
            refine go_goto C 82 rfl dX12_now_78 ?_
            exact (gbX12_now_82 C hr hR hnl hd hN) _ _ _ _ _ _ hw
      · replace hw := hw.2 hc
        refine go_ldcw (v := (-2000000000)) C kcX12_478 dX12_now_33 ?_
        exact go_iret C hr ⟨_, rfl, hw⟩ dX12_now_36
