-- CradleNames$Book.open(I)V
set_option maxRecDepth 20000 in
set_option maxHeartbeats 4000000 in
theorem gbX0_open_13 {X : XT} {G : GT} {l : Launch} {d : Nat} {k0 : Nat} {post : St → Prop} (C : Cx X G cX0_open RX0) (hr : Rt X G none (fun v τ => v = none ∧ post τ)) (hR : Rm X l d) (hnl : X.2.2.2.2.2.2.2.2.2.2.1 = 3)  (hd : 1 ≤ d) (hN : 75 ≤ G.2.2.2.2.2) (hk0 : k0 < 2)  
    : ∀ (n : Nat) (v1 : Int32) (v2 : Int32) (σ : St), wbX0_open_13 k0  post n v1 v2 σ → Go X G 13 [(0, .ref (G.2.2.1 (21 + 4 * k0))), (1, .int v1), (2, .int v2)] [] σ := by
  intro n
  induction n with
  | zero => intro v1 v2 σ hw; exact hw.elim
  | succ n ih =>
    intro v1 v2 σ hw
    have hw : ((12 ≤ v2 →
      ∀ v2_1 : Int32, v2_1 = ((v1 - (-40)) * 112) →
      ¬ v2_1 < 0 ∧ ¬ (v2_1 + 112) < 0 ∧ ¬ (112 : Int32) < 0 ∧ v2_1.toNatClampNeg + (112 : Int32).toNatClampNeg ≤ 11424 ∧ (v2_1 + 112).toNatClampNeg + (112 : Int32).toNatClampNeg ≤ 11424 ∧ (
      ∀ σ_2 : St, σ_2 = sA σ (21 + 4 * k0 + 2) (va_cpy (σ (21 + 4 * k0 + 2)).1 (σ (21 + 4 * k0 + 2)).1 v2_1.toNatClampNeg (v2_1 + 112).toNatClampNeg (112 : Int32).toNatClampNeg) →
      ∀ σ_3 : St, σ_3 = sI σ_2 (21 + 4 * k0) 3 v1 →
      post σ_3)) ∧
    (¬ 12 ≤ v2 →
      vp_in ((v1 * 12) + v2) 732 ∧ (
      ∀ σ_4 : St, σ_4 = sL σ (21 + 4 * k0 + 1) ((v1 * 12) + v2).toNatClampNeg 0 →
      ∀ v2_5 : Int32, v2_5 = v2 + 1 →
      wbX0_open_13 k0 post n v1 v2_5 σ_4))) := hw
    refine go_iload_n C 2 rfl rfl dX0_open_13 ?_
    refine go_bipush (v := 12) C rfl dX0_open_14 ?_
    refine go_icmp_ge C 37 rfl dX0_open_16 (fun hc => ?_) (fun hc => ?_)
    · replace hw := hw.1 hc
      refine go_iload_n C 1 rfl rfl dX0_open_37 ?_
      refine go_bipush (v := (-40)) C rfl dX0_open_38 ?_
      refine go_isub C dX0_open_40 ?_
      refine go_bipush (v := 112) C rfl dX0_open_41 ?_
      refine go_imul C dX0_open_43 ?_
      refine go_topi (fun v2_1 ev2_1 => ?_)
      replace hw := hw v2_1 ev2_1
      refine go_istore_n (lv2 := [(2, .int v2_1), (0, .ref (G.2.2.1 (21 + 4 * k0))), (1, .int v1)]) C rfl (by rw [hnl]; decide) rfl dX0_open_44 ?_
      refine go_aload_n C 1 rfl rfl dX0_open_45 ?_
      refine go_get (v := .ref (G.2.2.1 (21 + 4 * k0 + 2))) C (shX0 G hk0) (ltX0 hN hk0) lkX0_15 rfl dX0_open_46 ?_
      refine go_iload_n C 0 rfl rfl dX0_open_49 ?_
      refine go_aload_n C 1 rfl rfl dX0_open_50 ?_
      refine go_get (v := .ref (G.2.2.1 (21 + 4 * k0 + 2))) C (shX0 G hk0) (ltX0 hN hk0) lkX0_15 rfl dX0_open_51 ?_
      refine go_iload_n C 0 rfl rfl dX0_open_54 ?_
      refine go_bipush (v := 112) C rfl dX0_open_55 ?_
      refine go_iadd C dX0_open_57 ?_
      refine go_bipush (v := 112) C rfl dX0_open_58 ?_
      refine go_copy (d := 0) C (rm_le hR (Nat.le_trans (by decide) hd)) (saX0_sums G hk0) (laX0_sums hN hk0) (saX0_sums G hk0) (laX0_sums hN hk0) acX0_28 ac_n ac_s ac_i hw.1 hw.2.1 hw.2.2.1 hw.2.2.2.1 hw.2.2.2.2.1 (Nat.le_of_ble_eq_true rfl) dX0_open_60 (go_nm fun σ_2 eσ_2 => ?_)
      replace hw := hw.2.2.2.2.2 σ_2 eσ_2
      refine go_aload_n C 1 rfl rfl dX0_open_63 ?_
      refine go_iload_n C 2 rfl rfl dX0_open_64 ?_
      refine go_puti C (shX0 G hk0) (ltX0 hN hk0) lpX0_34 (show 3 < 4 by decide) (pxX0_3 G _ _ _) dX0_open_65 (go_nm fun σ_3 eσ_3 => ?_)
      replace hw := hw σ_3 eσ_3
      exact go_vret C hr ⟨rfl, hw⟩ dX0_open_68
    · replace hw := hw.2 hc
      refine go_aload_n C 0 rfl rfl dX0_open_19 ?_
      refine go_get (v := .ref (G.2.2.1 (21 + 4 * k0 + 1))) C (shX0 G hk0) (ltX0 hN hk0) lkX0_9 rfl dX0_open_20 ?_
      refine go_iload_n C 1 rfl rfl dX0_open_23 ?_
      refine go_bipush (v := 12) C rfl dX0_open_24 ?_
      refine go_imul C dX0_open_26 ?_
      refine go_iload_n C 2 rfl rfl dX0_open_27 ?_
      refine go_iadd C dX0_open_28 ?_
      refine go_lconst (v := 0) C rfl dX0_open_29 ?_
      refine go_last C (saX0_rows G hk0) (laX0_rows hN hk0) hw.1 dX0_open_30 (go_nm fun σ_4 eσ_4 => ?_)
      replace hw := hw.2 σ_4 eσ_4
      obtain ⟨v2_5, ev2_5⟩ : ∃ z : Int32, z = v2 + 1 := ⟨_, rfl⟩
      replace hw := hw v2_5 ev2_5
      refine go_iinc (v := v2_5) (lv2 := [(2, .int v2_5), (0, .ref (G.2.2.1 (21 + 4 * k0))), (1, .int v1)]) C 2 rfl (by rw [ev2_5]; rfl) (by rw [hnl]; decide) rfl dX0_open_31 ?_
      refine go_goto C 13 rfl dX0_open_34 ?_
      refine go_sub [1, 2, 0] rfl ?_
      exact ih _ _ _ hw
set_option maxRecDepth 20000 in
set_option maxHeartbeats 4000000 in
theorem spX0_open {l : Launch} {G : GT} {d : Nat}  (hd : 1 ≤ d) {k0 : Nat} (hN : 75 ≤ G.2.2.2.2.2) (hk0 : k0 < 2) {a1 : Int32} {σ : St} {post : St → Prop} (hw : wpX0_open k0 a1 σ post) : Sp l G d yX0_open cX0_open 3 none [.ref (G.2.2.1 (21 + 4 * k0)), .int a1] σ (fun v τ => v = none ∧ post τ) := by
  refine Sp.of (by decide) (Nat.le_of_ble_eq_true rfl) fun X C hr hR hnl => ?_
  show Go X G 0 [(0, .ref (G.2.2.1 (21 + 4 * k0))), (1, .int a1)] [] σ
  have hw : ((a1 < 0 →
    post σ) ∧
  (¬ a1 < 0 →
    ((a1 ≤ 60 →
      ∃ m_13, wbX0_open_13 k0 post m_13 a1 0 σ) ∧
    (¬ a1 ≤ 60 →
      post σ)))) := hw
  refine go_iload_n C 1 rfl rfl dX0_open_0 ?_
  refine go_if_lt C 10 rfl dX0_open_1 (fun hc => ?_) (fun hc => ?_)
  · replace hw := hw.1 hc
    exact go_vret C hr ⟨rfl, hw⟩ dX0_open_10
  · replace hw := hw.2 hc
    refine go_iload_n C 1 rfl rfl dX0_open_4 ?_
    refine go_bipush (v := 60) C rfl dX0_open_5 ?_
    refine go_icmp_le C 11 rfl dX0_open_7 (fun hc => ?_) (fun hc => ?_)
    · replace hw := hw.1 hc
      refine go_iconst (v := 0) C rfl dX0_open_11 ?_
      refine go_istore_n (lv2 := [(2, .int 0), (0, .ref (G.2.2.1 (21 + 4 * k0))), (1, .int a1)]) C rfl (by rw [hnl]; decide) rfl dX0_open_12 ?_
      refine go_sub [1, 2, 0] rfl ?_
      obtain ⟨n_0, hw⟩ := hw
      exact (gbX0_open_13 C hr hR hnl hd hN hk0) n_0 _ _ _ hw
    · replace hw := hw.2 hc
      exact go_vret C hr ⟨rfl, hw⟩ dX0_open_10
-- CradleNames$Land.row(III)I
set_option maxRecDepth 20000 in
set_option maxHeartbeats 4000000 in
theorem spX4_row {l : Launch} {G : GT} {d : Nat}  (hd : 1 ≤ d)  (hN : 75 ≤ G.2.2.2.2.2)  {a1 : Int32} {a2 : Int32} {a3 : Int32} {σ : St} {post : Int32 → St → Prop} (hw : wpX4_row  a1 a2 a3 σ post) : Sp l G d yX4_row cX4_row 3 (some .int) [.int a1, .int a2, .int a3] σ (fun v τ => ∃ r : Int32, v = some (.int r) ∧ post r τ) := by
  refine Sp.of (by decide) (Nat.le_of_ble_eq_true rfl) fun X C hr hR hnl => ?_
  show Go X G 0 [(0, .int a1), (1, .int a2), (2, .int a3)] [] σ
  have hw : post ((((a1 * 2) + a2) * 2) + a3) σ := hw
  refine go_iload_n C 0 rfl rfl dX4_row_0 ?_
  refine go_iconst (v := 2) C rfl dX4_row_1 ?_
  refine go_imul C dX4_row_2 ?_
  refine go_iload_n C 1 rfl rfl dX4_row_3 ?_
  refine go_iadd C dX4_row_4 ?_
  refine go_iconst (v := 2) C rfl dX4_row_5 ?_
  refine go_imul C dX4_row_6 ?_
  refine go_iload_n C 2 rfl rfl dX4_row_7 ?_
  refine go_iadd C dX4_row_8 ?_
  exact go_iret C hr ⟨_, rfl, hw⟩ dX4_row_9
-- CradleNames$Book.addSums(IIIIII)V
set_option maxRecDepth 20000 in
set_option maxHeartbeats 4000000 in
theorem gbX0_addSums_87 {X : XT} {G : GT} {l : Launch} {d : Nat} {k0 : Nat} {post : St → Prop} (C : Cx X G cX0_addSums RX0) (hr : Rt X G none (fun v τ => v = none ∧ post τ)) (hR : Rm X l d) (hnl : X.2.2.2.2.2.2.2.2.2.2.1 = 9)  (hd : 2 ≤ d) (hN : 75 ≤ G.2.2.2.2.2) (hk0 : k0 < 2) {K3 : Int32 → Int32 → Int32 → Int32 → Int32 → Int32 → Int32 → St → Prop} (hK3 : ∀ (v1 : Int32) (v2 : Int32) (v3 : Int32) (v4 : Int32) (v5 : Int32) (v6 : Int32) (v7 : Int32) (σ : St), K3 v1 v2 v3 v4 v5 v6 v7 σ → Go X G 3 [(0, .ref (G.2.2.1 (21 + 4 * k0))), (1, .int v1), (2, .int v2), (3, .int v3), (4, .int v4), (5, .int v5), (6, .int v6), (7, .int v7)] [] σ)
    : ∀ (v1 : Int32) (v2 : Int32) (v3 : Int32) (v4 : Int32) (v5 : Int32) (v6 : Int32) (v7 : Int32) (v8 : Int32) (s0 : Int32) (s1 : Int32) (s2 : Int32) (σ : St), wbX0_addSums_87 k0 K3 post v1 v2 v3 v4 v5 v6 v7 v8 s0 s1 s2 σ → Go X G 87 [(0, .ref (G.2.2.1 (21 + 4 * k0))), (1, .int v1), (2, .int v2), (3, .int v3), (4, .int v4), (5, .int v5), (6, .int v6), (7, .int v7), (8, .int v8)] [.int s0, .int s1, .int s2, .ref (G.2.2.1 (21 + 4 * k0 + 2))] σ := by
  intro v1 v2 v3 v4 v5 v6 v7 v8 s0 s1 s2 σ hw
  have hw : vp_in s2 11424 ∧ (
  ∀ σ_1 : St, σ_1 = sI σ (21 + 4 * k0 + 2) s2.toNatClampNeg (s1 + s0) →
  vp_in (v8 + 96) 11424 ∧ (
  vp_in (v8 + 96) 11424 ∧ (
  ∀ σ_2 : St, σ_2 = sI σ_1 (21 + 4 * k0 + 2) (v8 + 96).toNatClampNeg ((gI σ_1 (21 + 4 * k0 + 2) (v8 + 96).toNatClampNeg) + v6) →
  ∀ v7_3 : Int32, v7_3 = v7 + 1 →
  K3 v1 v2 v3 v4 v5 v6 v7_3 σ_2))) := hw
  refine go_iadd C dX0_addSums_87 ?_
  refine go_iast C (saX0_sums G hk0) (laX0_sums hN hk0) hw.1 dX0_addSums_88 (go_nm fun σ_1 eσ_1 => ?_)
  replace hw := hw.2 σ_1 eσ_1
  refine go_aload_n C 0 rfl rfl dX0_addSums_89 ?_
  refine go_get (v := .ref (G.2.2.1 (21 + 4 * k0 + 2))) C (shX0 G hk0) (ltX0 hN hk0) lkX0_15 rfl dX0_addSums_90 ?_
  refine go_iload C 8 rfl dX0_addSums_93 ?_
  refine go_bipush (v := 96) C rfl dX0_addSums_95 ?_
  refine go_iadd C dX0_addSums_97 ?_
  refine go_dup2 C rfl rfl dX0_addSums_98 ?_
  refine go_iald C (saX0_sums G hk0) (laX0_sums hN hk0) hw.1 dX0_addSums_99 ?_
  replace hw := hw.2
  refine go_iload C 6 rfl dX0_addSums_100 ?_
  refine go_iadd C dX0_addSums_102 ?_
  refine go_iast C (saX0_sums G hk0) (laX0_sums hN hk0) hw.1 dX0_addSums_103 (go_nm fun σ_2 eσ_2 => ?_)
  replace hw := hw.2 σ_2 eσ_2
  obtain ⟨v7_3, ev7_3⟩ : ∃ z : Int32, z = v7 + 1 := ⟨_, rfl⟩
  replace hw := hw v7_3 ev7_3
  refine go_iinc (v := v7_3) (lv2 := [(7, .int v7_3), (0, .ref (G.2.2.1 (21 + 4 * k0))), (1, .int v1), (2, .int v2), (3, .int v3), (4, .int v4), (5, .int v5), (6, .int v6), (8, .int v8)]) C 7 rfl (by rw [ev7_3]; rfl) (by rw [hnl]; decide) rfl dX0_addSums_104 ?_
  refine go_goto C 3 rfl dX0_addSums_107 ?_
  refine go_sub [1, 2, 3, 4, 5, 6, 7, 0] rfl ?_
  exact hK3 _ _ _ _ _ _ _ _ hw
set_option maxRecDepth 20000 in
set_option maxHeartbeats 4000000 in
theorem gbX0_addSums_3 {X : XT} {G : GT} {l : Launch} {d : Nat} {k0 : Nat} {post : St → Prop} (C : Cx X G cX0_addSums RX0) (hr : Rt X G none (fun v τ => v = none ∧ post τ)) (hR : Rm X l d) (hnl : X.2.2.2.2.2.2.2.2.2.2.1 = 9)  (hd : 2 ≤ d) (hN : 75 ≤ G.2.2.2.2.2) (hk0 : k0 < 2)  
    : ∀ (n : Nat) (v1 : Int32) (v2 : Int32) (v3 : Int32) (v4 : Int32) (v5 : Int32) (v6 : Int32) (v7 : Int32) (σ : St), wbX0_addSums_3 k0  post n v1 v2 v3 v4 v5 v6 v7 σ → Go X G 3 [(0, .ref (G.2.2.1 (21 + 4 * k0))), (1, .int v1), (2, .int v2), (3, .int v3), (4, .int v4), (5, .int v5), (6, .int v6), (7, .int v7)] [] σ := by
  intro n
  induction n with
  | zero => intro v1 v2 v3 v4 v5 v6 v7 σ hw; exact hw.elim
  | succ n ih =>
    intro v1 v2 v3 v4 v5 v6 v7 σ hw
    have hw : (((gI σ (21 + 4 * k0) 3) < v7 →
      vp_in v5 16 ∧ (
      vp_in v5 16 ∧ (
      ∀ σ_1 : St, σ_1 = sI σ (21 + 4 * k0 + 3) v5.toNatClampNeg (if (gI σ (21 + 4 * k0 + 3) v5.toNatClampNeg) < v1 then v1 else (gI σ (21 + 4 * k0 + 3) v5.toNatClampNeg)) →
      post σ_1))) ∧
    (¬ (gI σ (21 + 4 * k0) 3) < v7 →
      ∀ v8_2 : Int32, v8_2 = ((((v7 - (-40)) + 1) * 112) + v5) →
      vp_in (v8_2 + ((0 + v2) * 16)) 11424 ∧ (
      vp_in (v8_2 + ((0 + v2) * 16)) 11424 ∧ (
      ∀ σ_3 : St, σ_3 = sI σ (21 + 4 * k0 + 2) (v8_2 + ((0 + v2) * 16)).toNatClampNeg ((gI σ (21 + 4 * k0 + 2) (v8_2 + ((0 + v2) * 16)).toNatClampNeg) + v6) →
      vp_in (v8_2 + ((3 + v3) * 16)) 11424 ∧ (
      vp_in (v8_2 + ((3 + v3) * 16)) 11424 ∧ (
      ∀ σ_4 : St, σ_4 = sI σ_3 (21 + 4 * k0 + 2) (v8_2 + ((3 + v3) * 16)).toNatClampNeg ((gI σ_3 (21 + 4 * k0 + 2) (v8_2 + ((3 + v3) * 16)).toNatClampNeg) + v6) →
      vp_in (v8_2 + 80) 11424 ∧ (
      ((¬ v4 = 0 →
        wbX0_addSums_87 k0 (wbX0_addSums_3 k0 post n) post v1 v2 v3 v4 v5 v6 v7 v8_2 0 (gI σ_4 (21 + 4 * k0 + 2) (v8_2 + 80).toNatClampNeg) (v8_2 + 80) σ_4) ∧
      (v4 = 0 →
        wbX0_addSums_87 k0 (wbX0_addSums_3 k0 post n) post v1 v2 v3 v4 v5 v6 v7 v8_2 v6 (gI σ_4 (21 + 4 * k0 + 2) (v8_2 + 80).toNatClampNeg) (v8_2 + 80) σ_4))))))))) := hw
    refine go_iload C 7 rfl dX0_addSums_3 ?_
    refine go_aload_n C 0 rfl rfl dX0_addSums_5 ?_
    refine go_get (v := .int (gI σ (21 + 4 * k0) 3)) C (shX0 G hk0) (ltX0 hN hk0) lkX0_34 rfl dX0_addSums_6 ?_
    refine go_icmp_gt C 110 rfl dX0_addSums_9 (fun hc => ?_) (fun hc => ?_)
    · replace hw := hw.1 hc
      refine go_aload_n C 0 rfl rfl dX0_addSums_110 ?_
      refine go_get (v := .ref (G.2.2.1 (21 + 4 * k0 + 3))) C (shX0 G hk0) (ltX0 hN hk0) lkX0_19 rfl dX0_addSums_111 ?_
      refine go_iload C 5 rfl dX0_addSums_114 ?_
      refine go_aload_n C 0 rfl rfl dX0_addSums_116 ?_
      refine go_get (v := .ref (G.2.2.1 (21 + 4 * k0 + 3))) C (shX0 G hk0) (ltX0 hN hk0) lkX0_19 rfl dX0_addSums_117 ?_
      refine go_iload C 5 rfl dX0_addSums_120 ?_
      refine go_iald C (saX0_latest G hk0) (laX0_latest hN hk0) hw.1 dX0_addSums_122 ?_
      replace hw := hw.2
      refine go_iload_n C 1 rfl rfl dX0_addSums_123 ?_
      refine go_mmax (d := 0) C (rm_le hR (Nat.le_trans (by decide) hd)) mlX0_48 (Nat.le_of_ble_eq_true rfl) dX0_addSums_124 ?_
      refine go_iast C (saX0_latest G hk0) (laX0_latest hN hk0) hw.1 dX0_addSums_127 (go_nm fun σ_1 eσ_1 => ?_)
      replace hw := hw.2 σ_1 eσ_1
      exact go_vret C hr ⟨rfl, hw⟩ dX0_addSums_128
    · replace hw := hw.2 hc
      refine go_iload C 7 rfl dX0_addSums_12 ?_
      refine go_bipush (v := (-40)) C rfl dX0_addSums_14 ?_
      refine go_isub C dX0_addSums_16 ?_
      refine go_iconst (v := 1) C rfl dX0_addSums_17 ?_
      refine go_iadd C dX0_addSums_18 ?_
      refine go_bipush (v := 112) C rfl dX0_addSums_19 ?_
      refine go_imul C dX0_addSums_21 ?_
      refine go_iload C 5 rfl dX0_addSums_22 ?_
      refine go_iadd C dX0_addSums_24 ?_
      refine go_topi (fun v8_2 ev8_2 => ?_)
      replace hw := hw v8_2 ev8_2
      refine go_istore (lv2 := [(8, .int v8_2), (0, .ref (G.2.2.1 (21 + 4 * k0))), (1, .int v1), (2, .int v2), (3, .int v3), (4, .int v4), (5, .int v5), (6, .int v6), (7, .int v7)]) C (by rw [hnl]; decide) rfl dX0_addSums_25 ?_
      refine go_aload_n C 1 rfl rfl dX0_addSums_27 ?_
      refine go_get (v := .ref (G.2.2.1 (21 + 4 * k0 + 2))) C (shX0 G hk0) (ltX0 hN hk0) lkX0_15 rfl dX0_addSums_28 ?_
      refine go_iload C 0 rfl dX0_addSums_31 ?_
      refine go_iconst (v := 0) C rfl dX0_addSums_33 ?_
      refine go_iload_n C 3 rfl rfl dX0_addSums_34 ?_
      refine go_iadd C dX0_addSums_35 ?_
      refine go_bipush (v := 16) C rfl dX0_addSums_36 ?_
      refine go_imul C dX0_addSums_38 ?_
      refine go_iadd C dX0_addSums_39 ?_
      refine go_dup2 C rfl rfl dX0_addSums_40 ?_
      refine go_iald C (saX0_sums G hk0) (laX0_sums hN hk0) hw.1 dX0_addSums_41 ?_
      replace hw := hw.2
      refine go_iload C 7 rfl dX0_addSums_42 ?_
      refine go_iadd C dX0_addSums_44 ?_
      refine go_iast C (saX0_sums G hk0) (laX0_sums hN hk0) hw.1 dX0_addSums_45 (go_nm fun σ_3 eσ_3 => ?_)
      replace hw := hw.2 σ_3 eσ_3
      refine go_aload_n C 1 rfl rfl dX0_addSums_46 ?_
      refine go_get (v := .ref (G.2.2.1 (21 + 4 * k0 + 2))) C (shX0 G hk0) (ltX0 hN hk0) lkX0_15 rfl dX0_addSums_47 ?_
      refine go_iload C 0 rfl dX0_addSums_50 ?_
      refine go_iconst (v := 3) C rfl dX0_addSums_52 ?_
      refine go_iload_n C 4 rfl rfl dX0_addSums_53 ?_
      refine go_iadd C dX0_addSums_54 ?_
      refine go_bipush (v := 16) C rfl dX0_addSums_55 ?_
      refine go_imul C dX0_addSums_57 ?_
      refine go_iadd C dX0_addSums_58 ?_
      refine go_dup2 C rfl rfl dX0_addSums_59 ?_
      refine go_iald C (saX0_sums G hk0) (laX0_sums hN hk0) hw.1 dX0_addSums_60 ?_
      replace hw := hw.2
      refine go_iload C 7 rfl dX0_addSums_61 ?_
      refine go_iadd C dX0_addSums_63 ?_
      refine go_iast C (saX0_sums G hk0) (laX0_sums hN hk0) hw.1 dX0_addSums_64 (go_nm fun σ_4 eσ_4 => ?_)
      replace hw := hw.2 σ_4 eσ_4
      refine go_aload_n C 1 rfl rfl dX0_addSums_65 ?_
      refine go_get (v := .ref (G.2.2.1 (21 + 4 * k0 + 2))) C (shX0 G hk0) (ltX0 hN hk0) lkX0_15 rfl dX0_addSums_66 ?_
      refine go_iload C 0 rfl dX0_addSums_69 ?_
      refine go_bipush (v := 80) C rfl dX0_addSums_71 ?_
      refine go_iadd C dX0_addSums_73 ?_
      refine go_dup2 C rfl rfl dX0_addSums_74 ?_
      refine go_iald C (saX0_sums G hk0) (laX0_sums hN hk0) hw.1 dX0_addSums_75 ?_
      replace hw := hw.2
      refine go_iload C 5 rfl dX0_addSums_76 ?_
      refine go_if_ne C 86 rfl dX0_addSums_78 (fun hc => ?_) (fun hc => ?_)
      · replace hw := hw.1 hc
        refine go_iconst (v := 0) C rfl dX0_addSums_86 ?_
        refine go_sub [1, 2, 3, 4, 5, 6, 7, 8, 0] rfl ?_
        exact (gbX0_addSums_87 C hr hR hnl hd hN hk0 ih) _ _ _ _ _ _ _ _ _ _ _ _ hw
      · replace hw := hw.2 hc
        refine go_iload C 7 rfl dX0_addSums_81 ?_
        refine go_goto C 87 rfl dX0_addSums_83 ?_
        refine go_sub [1, 2, 3, 4, 5, 6, 7, 8, 0] rfl ?_
        exact (gbX0_addSums_87 C hr hR hnl hd hN hk0 ih) _ _ _ _ _ _ _ _ _ _ _ _ hw
set_option maxRecDepth 20000 in
set_option maxHeartbeats 4000000 in
theorem spX0_addSums {l : Launch} {G : GT} {d : Nat}  (hd : 2 ≤ d) {k0 : Nat} (hN : 75 ≤ G.2.2.2.2.2) (hk0 : k0 < 2) {a1 : Int32} {a2 : Int32} {a3 : Int32} {a4 : Int32} {a5 : Int32} {a6 : Int32} {σ : St} {post : St → Prop} (hw : wpX0_addSums k0 a1 a2 a3 a4 a5 a6 σ post) : Sp l G d yX0_addSums cX0_addSums 9 none [.ref (G.2.2.1 (21 + 4 * k0)), .int a1, .int a2, .int a3, .int a4, .int a5, .int a6] σ (fun v τ => v = none ∧ post τ) := by
  refine Sp.of (by decide) (Nat.le_of_ble_eq_true rfl) fun X C hr hR hnl => ?_
  show Go X G 0 [(0, .ref (G.2.2.1 (21 + 4 * k0))), (1, .int a1), (2, .int a2), (3, .int a3), (4, .int a4), (5, .int a5), (6, .int a6)] [] σ
  have hw : ∃ m_3, wbX0_addSums_3 k0 post m_3 a1 a2 a3 a4 a5 a6 a1 σ := hw
  refine go_iload_n C 1 rfl rfl dX0_addSums_0 ?_
  refine go_istore (lv2 := [(7, .int a1), (0, .ref (G.2.2.1 (21 + 4 * k0))), (1, .int a1), (2, .int a2), (3, .int a3), (4, .int a4), (5, .int a5), (6, .int a6)]) C (by rw [hnl]; decide) rfl dX0_addSums_1 ?_
  refine go_sub [1, 2, 3, 4, 5, 6, 7, 0] rfl ?_
  obtain ⟨n_0, hw⟩ := hw
  exact (gbX0_addSums_3 C hr hR hnl hd hN hk0) n_0 _ _ _ _ _ _ _ _ hw
-- CradleNames$Book.give(IIII)V
set_option maxRecDepth 20000 in
set_option maxHeartbeats 4000000 in
theorem spX0_give {l : Launch} {G : GT} {d : Nat}  (hd : 3 ≤ d) {k0 : Nat} (hN : 75 ≤ G.2.2.2.2.2) (hk0 : k0 < 2) {a1 : Int32} {a2 : Int32} {a3 : Int32} {a4 : Int32} {σ : St} {post : St → Prop} (hw : wpX0_give k0 a1 a2 a3 a4 σ post) : Sp l G d yX0_give cX0_give 5 none [.ref (G.2.2.1 (21 + 4 * k0)), .int a1, .int a2, .int a3, .int a4] σ (fun v τ => v = none ∧ post τ) := by
  refine Sp.of (by decide) (Nat.le_of_ble_eq_true rfl) fun X C hr hR hnl => ?_
  show Go X G 0 [(0, .ref (G.2.2.1 (21 + 4 * k0))), (1, .int a1), (2, .int a2), (3, .int a3), (4, .int a4)] [] σ
  have hw : wpX4_row a1 a2 a3 σ (fun r_1 σ_2 =>
  vp_in (((gI σ (21 + 4 * k0) 3) * 12) + r_1) 732 ∧ (
  vp_in (((gI σ (21 + 4 * k0) 3) * 12) + r_1) 732 ∧ (
  ∀ σ_3 : St, σ_3 = sL σ_2 (21 + 4 * k0 + 1) (((gI σ (21 + 4 * k0) 3) * 12) + r_1).toNatClampNeg ((gL σ_2 (21 + 4 * k0 + 1) (((gI σ (21 + 4 * k0) 3) * 12) + r_1).toNatClampNeg) + (1 <<< ((4 * a4).toInt64 &&& 63))) →
  wpX0_addSums k0 (gI σ_3 (21 + 4 * k0) 3) a1 a2 a3 a4 1 σ_3 (fun σ_5 =>
  post σ_5)))) := hw
  refine go_aload_n C 0 rfl rfl dX0_give_0 ?_
  refine go_get (v := .ref (G.2.2.1 (21 + 4 * k0 + 1))) C (shX0 G hk0) (ltX0 hN hk0) lkX0_9 rfl dX0_give_1 ?_
  refine go_aload_n C 0 rfl rfl dX0_give_4 ?_
  refine go_get (v := .int (gI σ (21 + 4 * k0) 3)) C (shX0 G hk0) (ltX0 hN hk0) lkX0_34 rfl dX0_give_5 ?_
  refine go_bipush (v := 12) C rfl dX0_give_8 ?_
  refine go_imul C dX0_give_10 ?_
  refine go_iload_n C 1 rfl rfl dX0_give_11 ?_
  refine go_iload_n C 2 rfl rfl dX0_give_12 ?_
  refine go_iload_n C 3 rfl rfl dX0_give_13 ?_
  refine go_callS (as := [.int a1, .int a2, .int a3]) C hR cwX0_38 (Nat.le_trans (by decide) hd) (by decide) rfl rfl (Nat.le_of_ble_eq_true rfl) dX0_give_14 (spX4_row (Nat.le_refl _) hN hw) (fun v_ τ_ hw => ?_)
  obtain ⟨r_1, rfl, hw⟩ := hw
  obtain ⟨σ_2, rfl⟩ : ∃ z, z = τ_ := ⟨_, rfl⟩
  refine go_iadd C dX0_give_17 ?_
  refine go_dup2 C rfl rfl dX0_give_18 ?_
  refine go_lald C (saX0_rows G hk0) (laX0_rows hN hk0) hw.1 dX0_give_19 ?_
  replace hw := hw.2
  refine go_lconst (v := 1) C rfl dX0_give_20 ?_
  refine go_iconst (v := 4) C rfl dX0_give_21 ?_
  refine go_iload C 4 rfl dX0_give_22 ?_
  refine go_imul C dX0_give_24 ?_
  refine go_lshl C dX0_give_25 ?_
  refine go_ladd C dX0_give_26 ?_
  refine go_last C (saX0_rows G hk0) (laX0_rows hN hk0) hw.1 dX0_give_27 (go_nm fun σ_3 eσ_3 => ?_)
  replace hw := hw.2 σ_3 eσ_3
  refine go_aload_n C 0 rfl rfl dX0_give_28 ?_
  refine go_aload_n C 0 rfl rfl dX0_give_29 ?_
  refine go_get (v := .int (gI σ_3 (21 + 4 * k0) 3)) C (shX0 G hk0) (ltX0 hN hk0) lkX0_34 rfl dX0_give_30 ?_
  refine go_iload_n C 1 rfl rfl dX0_give_33 ?_
  refine go_iload_n C 2 rfl rfl dX0_give_34 ?_
  refine go_iload_n C 3 rfl rfl dX0_give_35 ?_
  refine go_iload C 4 rfl dX0_give_36 ?_
  refine go_iconst (v := 1) C rfl dX0_give_38 ?_
  refine go_callV (as := [.int (gI σ_3 (21 + 4 * k0) 3), .int a1, .int a2, .int a3, .int a4, .int 1]) C hR (shX0 G hk0) (ltX0 hN hk0) cwX0_44 (Nat.le_trans (by decide) hd) (by decide) rfl rfl (Nat.le_of_ble_eq_true rfl) dX0_give_39 (spX0_addSums (Nat.le_refl _) hN hk0 hw) (fun v_ τ_ hw => ?_)
  obtain ⟨rfl, hw⟩ := hw
  obtain ⟨σ_5, rfl⟩ : ∃ z, z = τ_ := ⟨_, rfl⟩
  exact go_vret C hr ⟨rfl, hw⟩ dX0_give_42
-- CradleNames$Book.inRow(III)I
set_option maxRecDepth 20000 in
set_option maxHeartbeats 4000000 in
theorem spX0_inRow {l : Launch} {G : GT} {d : Nat}  (hd : 1 ≤ d) {k0 : Nat} (hN : 75 ≤ G.2.2.2.2.2) (hk0 : k0 < 2) {a1 : Int32} {a2 : Int32} {a3 : Int32} {σ : St} {post : Int32 → St → Prop} (hw : wpX0_inRow k0 a1 a2 a3 σ post) : Sp l G d yX0_inRow cX0_inRow 4 (some .int) [.ref (G.2.2.1 (21 + 4 * k0)), .int a1, .int a2, .int a3] σ (fun v τ => ∃ r : Int32, v = some (.int r) ∧ post r τ) := by
  refine Sp.of (by decide) (Nat.le_of_ble_eq_true rfl) fun X C hr hR hnl => ?_
  show Go X G 0 [(0, .ref (G.2.2.1 (21 + 4 * k0))), (1, .int a1), (2, .int a2), (3, .int a3)] [] σ
  have hw : vp_in ((a1 * 12) + a2) 732 ∧ (
  post ((((gL σ (21 + 4 * k0 + 1) ((a1 * 12) + a2).toNatClampNeg).toUInt64 >>> ((4 * a3).toInt64.toUInt64 &&& Int64.toUInt64 63)).toInt64).toInt32 &&& 15) σ) := hw
  refine go_aload_n C 0 rfl rfl dX0_inRow_0 ?_
  refine go_get (v := .ref (G.2.2.1 (21 + 4 * k0 + 1))) C (shX0 G hk0) (ltX0 hN hk0) lkX0_9 rfl dX0_inRow_1 ?_
  refine go_iload_n C 1 rfl rfl dX0_inRow_4 ?_
  refine go_bipush (v := 12) C rfl dX0_inRow_5 ?_
  refine go_imul C dX0_inRow_7 ?_
  refine go_iload_n C 2 rfl rfl dX0_inRow_8 ?_
  refine go_iadd C dX0_inRow_9 ?_
  refine go_lald C (saX0_rows G hk0) (laX0_rows hN hk0) hw.1 dX0_inRow_10 ?_
  replace hw := hw.2
  refine go_iconst (v := 4) C rfl dX0_inRow_11 ?_
  refine go_iload_n C 3 rfl rfl dX0_inRow_12 ?_
  refine go_imul C dX0_inRow_13 ?_
  refine go_lushr C dX0_inRow_14 ?_
  refine go_l2i C dX0_inRow_15 ?_
  refine go_bipush (v := 15) C rfl dX0_inRow_16 ?_
  refine go_iand C dX0_inRow_18 ?_
  exact go_iret C hr ⟨_, rfl, hw⟩ dX0_inRow_19
-- CradleNames$Book.between(IIII)I
set_option maxRecDepth 20000 in
set_option maxHeartbeats 4000000 in
theorem gbX0_between_32 {X : XT} {G : GT} {l : Launch} {d : Nat} {k0 : Nat} {post : Int32 → St → Prop} (C : Cx X G cX0_between RX0) (hr : Rt X G (some .int) (fun v τ => ∃ r : Int32, v = some (.int r) ∧ post r τ)) (hR : Rm X l d) (hnl : X.2.2.2.2.2.2.2.2.2.2.1 = 8)  (hd : 1 ≤ d) (hN : 75 ≤ G.2.2.2.2.2) (hk0 : k0 < 2)  
    : ∀ (v1 : Int32) (v2 : Int32) (v5 : Int32) (s0 : Int32) (σ : St), wbX0_between_32 k0  post v1 v2 v5 s0 σ → Go X G 32 [(0, .ref (G.2.2.1 (21 + 4 * k0))), (1, .int v1), (2, .int v2), (5, .int v5)] [.int s0] σ := by
  intro v1 v2 v5 s0 σ hw
  have hw : ((v5 ≤ s0 →
    ∀ v7_1 : Int32, v7_1 = ((v1 * 16) + v2) →
    vp_in ((((s0 - (-40)) + 1) * 112) + v7_1) 11424 ∧ (
    vp_in (((v5 - (-40)) * 112) + v7_1) 11424 ∧ (
    post ((gI σ (21 + 4 * k0 + 2) ((((s0 - (-40)) + 1) * 112) + v7_1).toNatClampNeg) - (gI σ (21 + 4 * k0 + 2) (((v5 - (-40)) * 112) + v7_1).toNatClampNeg)) σ))) ∧
  (¬ v5 ≤ s0 →
    post 0 σ)) := hw
  refine go_istore (lv2 := [(6, .int s0), (0, .ref (G.2.2.1 (21 + 4 * k0))), (1, .int v1), (2, .int v2), (5, .int v5)]) C (by rw [hnl]; decide) rfl dX0_between_32 ?_
  refine go_iload C 0 rfl dX0_between_34 ?_
  refine go_iload C 4 rfl dX0_between_36 ?_
  refine go_icmp_ge C 43 rfl dX0_between_38 (fun hc => ?_) (fun hc => ?_)
  · replace hw := hw.1 hc
    refine go_iload_n C 2 rfl rfl dX0_between_43 ?_
    refine go_bipush (v := 16) C rfl dX0_between_44 ?_
    refine go_imul C dX0_between_46 ?_
    refine go_iload_n C 3 rfl rfl dX0_between_47 ?_
    refine go_iadd C dX0_between_48 ?_
    refine go_topi (fun v7_1 ev7_1 => ?_)
    replace hw := hw v7_1 ev7_1
    refine go_istore (lv2 := [(7, .int v7_1), (6, .int s0), (0, .ref (G.2.2.1 (21 + 4 * k0))), (1, .int v1), (2, .int v2), (5, .int v5)]) C (by rw [hnl]; decide) rfl dX0_between_49 ?_
    refine go_aload_n C 2 rfl rfl dX0_between_51 ?_
    refine go_get (v := .ref (G.2.2.1 (21 + 4 * k0 + 2))) C (shX0 G hk0) (ltX0 hN hk0) lkX0_15 rfl dX0_between_52 ?_
    refine go_iload C 1 rfl dX0_between_55 ?_
    refine go_bipush (v := (-40)) C rfl dX0_between_57 ?_
    refine go_isub C dX0_between_59 ?_
    refine go_iconst (v := 1) C rfl dX0_between_60 ?_
    refine go_iadd C dX0_between_61 ?_
    refine go_bipush (v := 112) C rfl dX0_between_62 ?_
    refine go_imul C dX0_between_64 ?_
    refine go_iload C 0 rfl dX0_between_65 ?_
    refine go_iadd C dX0_between_67 ?_
    refine go_iald C (saX0_sums G hk0) (laX0_sums hN hk0) hw.1 dX0_between_68 ?_
    replace hw := hw.2
    refine go_aload_n C 2 rfl rfl dX0_between_69 ?_
    refine go_get (v := .ref (G.2.2.1 (21 + 4 * k0 + 2))) C (shX0 G hk0) (ltX0 hN hk0) lkX0_15 rfl dX0_between_70 ?_
    refine go_iload C 5 rfl dX0_between_73 ?_
    refine go_bipush (v := (-40)) C rfl dX0_between_75 ?_
    refine go_isub C dX0_between_77 ?_
    refine go_bipush (v := 112) C rfl dX0_between_78 ?_
    refine go_imul C dX0_between_80 ?_
    refine go_iload C 0 rfl dX0_between_81 ?_
    refine go_iadd C dX0_between_83 ?_
    refine go_iald C (saX0_sums G hk0) (laX0_sums hN hk0) hw.1 dX0_between_84 ?_
    replace hw := hw.2
    refine go_isub C dX0_between_85 ?_
    exact go_iret C hr ⟨_, rfl, hw⟩ dX0_between_86
  · replace hw := hw.2 hc
    refine go_iconst (v := 0) C rfl dX0_between_41 ?_
    exact go_iret C hr ⟨_, rfl, hw⟩ dX0_between_42
set_option maxRecDepth 20000 in
set_option maxHeartbeats 4000000 in
theorem gbX0_between_12 {X : XT} {G : GT} {l : Launch} {d : Nat} {k0 : Nat} {post : Int32 → St → Prop} (C : Cx X G cX0_between RX0) (hr : Rt X G (some .int) (fun v τ => ∃ r : Int32, v = some (.int r) ∧ post r τ)) (hR : Rm X l d) (hnl : X.2.2.2.2.2.2.2.2.2.2.1 = 8)  (hd : 1 ≤ d) (hN : 75 ≤ G.2.2.2.2.2) (hk0 : k0 < 2)  
    : ∀ (v1 : Int32) (v2 : Int32) (v4 : Int32) (s0 : Int32) (σ : St), wbX0_between_12 k0  post v1 v2 v4 s0 σ → Go X G 12 [(0, .ref (G.2.2.1 (21 + 4 * k0))), (1, .int v1), (2, .int v2), (4, .int v4)] [.int s0] σ := by
  intro v1 v2 v4 s0 σ hw
  have hw : ((v4 ≤ (gI σ (21 + 4 * k0) 3) →
    wbX0_between_32 k0 post v1 v2 s0 v4 σ) ∧
  (¬ v4 ≤ (gI σ (21 + 4 * k0) 3) →
    wbX0_between_32 k0 post v1 v2 s0 (gI σ (21 + 4 * k0) 3) σ)) := hw
  refine go_istore (lv2 := [(5, .int s0), (0, .ref (G.2.2.1 (21 + 4 * k0))), (1, .int v1), (2, .int v2), (4, .int v4)]) C (by rw [hnl]; decide) rfl dX0_between_12 ?_
  refine go_iload C 4 rfl dX0_between_14 ?_
  refine go_aload_n C 1 rfl rfl dX0_between_16 ?_
  refine go_get (v := .int (gI σ (21 + 4 * k0) 3)) C (shX0 G hk0) (ltX0 hN hk0) lkX0_34 rfl dX0_between_17 ?_
  refine go_icmp_le C 30 rfl dX0_between_20 (fun hc => ?_) (fun hc => ?_)
  · replace hw := hw.1 hc
    refine go_iload C 4 rfl dX0_between_30 ?_
    refine go_sub [1, 2, 3, 0] rfl ?_
    exact (gbX0_between_32 C hr hR hnl hd hN hk0) _ _ _ _ _ hw
  · replace hw := hw.2 hc
    refine go_aload_n C 1 rfl rfl dX0_between_23 ?_
    refine go_get (v := .int (gI σ (21 + 4 * k0) 3)) C (shX0 G hk0) (ltX0 hN hk0) lkX0_34 rfl dX0_between_24 ?_
    refine go_goto C 32 rfl dX0_between_27 ?_
    refine go_sub [1, 2, 3, 0] rfl ?_
    exact (gbX0_between_32 C hr hR hnl hd hN hk0) _ _ _ _ _ hw
set_option maxRecDepth 20000 in
set_option maxHeartbeats 4000000 in
theorem spX0_between {l : Launch} {G : GT} {d : Nat}  (hd : 1 ≤ d) {k0 : Nat} (hN : 75 ≤ G.2.2.2.2.2) (hk0 : k0 < 2) {a1 : Int32} {a2 : Int32} {a3 : Int32} {a4 : Int32} {σ : St} {post : Int32 → St → Prop} (hw : wpX0_between k0 a1 a2 a3 a4 σ post) : Sp l G d yX0_between cX0_between 8 (some .int) [.ref (G.2.2.1 (21 + 4 * k0)), .int a1, .int a2, .int a3, .int a4] σ (fun v τ => ∃ r : Int32, v = some (.int r) ∧ post r τ) := by
  refine Sp.of (by decide) (Nat.le_of_ble_eq_true rfl) fun X C hr hR hnl => ?_
  show Go X G 0 [(0, .ref (G.2.2.1 (21 + 4 * k0))), (1, .int a1), (2, .int a2), (3, .int a3), (4, .int a4)] [] σ
  have hw : (((-40) ≤ a3 →
    wbX0_between_12 k0 post a1 a2 a4 a3 σ) ∧
  (¬ (-40) ≤ a3 →
    wbX0_between_12 k0 post a1 a2 a4 (-40) σ)) := hw
  refine go_iload_n C 3 rfl rfl dX0_between_0 ?_
  refine go_bipush (v := (-40)) C rfl dX0_between_1 ?_
  refine go_icmp_ge C 11 rfl dX0_between_3 (fun hc => ?_) (fun hc => ?_)
  · replace hw := hw.1 hc
    refine go_iload_n C 3 rfl rfl dX0_between_11 ?_
    refine go_sub [0, 1, 2, 4] rfl ?_
    exact (gbX0_between_12 C hr hR hnl hd hN hk0) _ _ _ _ _ hw
  · replace hw := hw.2 hc
    refine go_bipush (v := (-40)) C rfl dX0_between_6 ?_
    refine go_goto C 12 rfl dX0_between_8 ?_
    refine go_sub [0, 1, 2, 4] rfl ?_
    exact (gbX0_between_12 C hr hR hnl hd hN hk0) _ _ _ _ _ hw
-- CradleNames$Book.groupTotal(III)I
set_option maxRecDepth 20000 in
set_option maxHeartbeats 4000000 in
theorem gbX0_groupTotal_6 {X : XT} {G : GT} {l : Launch} {d : Nat} {k0 : Nat} {post : Int32 → St → Prop} (C : Cx X G cX0_groupTotal RX0) (hr : Rt X G (some .int) (fun v τ => ∃ r : Int32, v = some (.int r) ∧ post r τ)) (hR : Rm X l d) (hnl : X.2.2.2.2.2.2.2.2.2.2.1 = 6)  (hd : 2 ≤ d) (hN : 75 ≤ G.2.2.2.2.2) (hk0 : k0 < 2)  
    : ∀ (n : Nat) (v1 : Int32) (v2 : Int32) (v3 : Int32) (v4 : Int32) (v5 : Int32) (σ : St), wbX0_groupTotal_6 k0  post n v1 v2 v3 v4 v5 σ → Go X G 6 [(0, .ref (G.2.2.1 (21 + 4 * k0))), (1, .int v1), (2, .int v2), (3, .int v3), (4, .int v4), (5, .int v5)] [] σ := by
  intro n
  induction n with
  | zero => intro v1 v2 v3 v4 v5 σ hw; exact hw.elim
  | succ n ih =>
    intro v1 v2 v3 v4 v5 σ hw
    have hw : ((16 ≤ v5 →
      post v4 σ) ∧
    (¬ 16 ≤ v5 →
      wpX0_between k0 v1 v5 v2 v3 σ (fun r_1 σ_2 =>
      ∀ v4_3 : Int32, v4_3 = (v4 + r_1) →
      ∀ v5_4 : Int32, v5_4 = v5 + 1 →
      wbX0_groupTotal_6 k0 post n v1 v2 v3 v4_3 v5_4 σ_2))) := hw
    refine go_iload C 5 rfl dX0_groupTotal_6 ?_
    refine go_bipush (v := 16) C rfl dX0_groupTotal_8 ?_
    refine go_icmp_ge C 33 rfl dX0_groupTotal_10 (fun hc => ?_) (fun hc => ?_)
    · replace hw := hw.1 hc
      refine go_iload C 4 rfl dX0_groupTotal_33 ?_
      exact go_iret C hr ⟨_, rfl, hw⟩ dX0_groupTotal_35
    · replace hw := hw.2 hc
      refine go_iload C 4 rfl dX0_groupTotal_13 ?_
      refine go_aload_n C 0 rfl rfl dX0_groupTotal_15 ?_
      refine go_iload_n C 1 rfl rfl dX0_groupTotal_16 ?_
      refine go_iload C 5 rfl dX0_groupTotal_17 ?_
      refine go_iload_n C 2 rfl rfl dX0_groupTotal_19 ?_
      refine go_iload_n C 3 rfl rfl dX0_groupTotal_20 ?_
      refine go_callV (as := [.int v1, .int v5, .int v2, .int v3]) C hR (shX0 G hk0) (ltX0 hN hk0) cwX0_54 (Nat.le_trans (by decide) hd) (by decide) rfl rfl (Nat.le_of_ble_eq_true rfl) dX0_groupTotal_21 (spX0_between (Nat.le_refl _) hN hk0 hw) (fun v_ τ_ hw => ?_)
      obtain ⟨r_1, rfl, hw⟩ := hw
      obtain ⟨σ_2, rfl⟩ : ∃ z, z = τ_ := ⟨_, rfl⟩
      refine go_iadd C dX0_groupTotal_24 ?_
      refine go_topi (fun v4_3 ev4_3 => ?_)
      replace hw := hw v4_3 ev4_3
      refine go_istore (lv2 := [(4, .int v4_3), (0, .ref (G.2.2.1 (21 + 4 * k0))), (1, .int v1), (2, .int v2), (3, .int v3), (5, .int v5)]) C (by rw [hnl]; decide) rfl dX0_groupTotal_25 ?_
      obtain ⟨v5_4, ev5_4⟩ : ∃ z : Int32, z = v5 + 1 := ⟨_, rfl⟩
      replace hw := hw v5_4 ev5_4
      refine go_iinc (v := v5_4) (lv2 := [(5, .int v5_4), (4, .int v4_3), (0, .ref (G.2.2.1 (21 + 4 * k0))), (1, .int v1), (2, .int v2), (3, .int v3)]) C 5 rfl (by rw [ev5_4]; rfl) (by rw [hnl]; decide) rfl dX0_groupTotal_27 ?_
      refine go_goto C 6 rfl dX0_groupTotal_30 ?_
      refine go_sub [2, 3, 4, 5, 1, 0] rfl ?_
      exact ih _ _ _ _ _ _ hw
set_option maxRecDepth 20000 in
set_option maxHeartbeats 4000000 in
theorem spX0_groupTotal {l : Launch} {G : GT} {d : Nat}  (hd : 2 ≤ d) {k0 : Nat} (hN : 75 ≤ G.2.2.2.2.2) (hk0 : k0 < 2) {a1 : Int32} {a2 : Int32} {a3 : Int32} {σ : St} {post : Int32 → St → Prop} (hw : wpX0_groupTotal k0 a1 a2 a3 σ post) : Sp l G d yX0_groupTotal cX0_groupTotal 6 (some .int) [.ref (G.2.2.1 (21 + 4 * k0)), .int a1, .int a2, .int a3] σ (fun v τ => ∃ r : Int32, v = some (.int r) ∧ post r τ) := by
  refine Sp.of (by decide) (Nat.le_of_ble_eq_true rfl) fun X C hr hR hnl => ?_
  show Go X G 0 [(0, .ref (G.2.2.1 (21 + 4 * k0))), (1, .int a1), (2, .int a2), (3, .int a3)] [] σ
  have hw : ∃ m_6, wbX0_groupTotal_6 k0 post m_6 a1 a2 a3 0 0 σ := hw
  refine go_iconst (v := 0) C rfl dX0_groupTotal_0 ?_
  refine go_istore (lv2 := [(4, .int 0), (0, .ref (G.2.2.1 (21 + 4 * k0))), (1, .int a1), (2, .int a2), (3, .int a3)]) C (by rw [hnl]; decide) rfl dX0_groupTotal_1 ?_
  refine go_iconst (v := 0) C rfl dX0_groupTotal_3 ?_
  refine go_istore (lv2 := [(5, .int 0), (4, .int 0), (0, .ref (G.2.2.1 (21 + 4 * k0))), (1, .int a1), (2, .int a2), (3, .int a3)]) C (by rw [hnl]; decide) rfl dX0_groupTotal_4 ?_
  refine go_sub [2, 3, 4, 5, 1, 0] rfl ?_
  obtain ⟨n_0, hw⟩ := hw
  exact (gbX0_groupTotal_6 C hr hR hnl hd hN hk0) n_0 _ _ _ _ _ _ hw
-- CradleNames$Book.since(II)I
set_option maxRecDepth 20000 in
set_option maxHeartbeats 4000000 in
theorem spX0_since {l : Launch} {G : GT} {d : Nat}  (hd : 2 ≤ d) {k0 : Nat} (hN : 75 ≤ G.2.2.2.2.2) (hk0 : k0 < 2) {a1 : Int32} {a2 : Int32} {σ : St} {post : Int32 → St → Prop} (hw : wpX0_since k0 a1 a2 σ post) : Sp l G d yX0_since cX0_since 3 (some .int) [.ref (G.2.2.1 (21 + 4 * k0)), .int a1, .int a2] σ (fun v τ => ∃ r : Int32, v = some (.int r) ∧ post r τ) := by
  refine Sp.of (by decide) (Nat.le_of_ble_eq_true rfl) fun X C hr hR hnl => ?_
  show Go X G 0 [(0, .ref (G.2.2.1 (21 + 4 * k0))), (1, .int a1), (2, .int a2)] [] σ
  have hw : vp_in a1 16 ∧ (
  post (if 99 < (a2 - (gI σ (21 + 4 * k0 + 3) a1.toNatClampNeg)) then 99 else (a2 - (gI σ (21 + 4 * k0 + 3) a1.toNatClampNeg))) σ) := hw
  refine go_iload_n C 2 rfl rfl dX0_since_0 ?_
  refine go_aload_n C 0 rfl rfl dX0_since_1 ?_
  refine go_get (v := .ref (G.2.2.1 (21 + 4 * k0 + 3))) C (shX0 G hk0) (ltX0 hN hk0) lkX0_19 rfl dX0_since_2 ?_
  refine go_iload_n C 1 rfl rfl dX0_since_5 ?_
  refine go_iald C (saX0_latest G hk0) (laX0_latest hN hk0) hw.1 dX0_since_6 ?_
  replace hw := hw.2
  refine go_isub C dX0_since_7 ?_
  refine go_bipush (v := 99) C rfl dX0_since_8 ?_
  refine go_mmin (d := 0) C (rm_le hR (Nat.le_trans (by decide) hd)) mlX0_58 (Nat.le_of_ble_eq_true rfl) dX0_since_10 ?_
  exact go_iret C hr ⟨_, rfl, hw⟩ dX0_since_13
-- CradleNames$Book.reopen(I)V
set_option maxRecDepth 20000 in
set_option maxHeartbeats 4000000 in
theorem gbX0_reopen_27 {X : XT} {G : GT} {l : Launch} {d : Nat} {k0 : Nat} {post : St → Prop} (C : Cx X G cX0_reopen RX0) (hr : Rt X G none (fun v τ => v = none ∧ post τ)) (hR : Rm X l d) (hnl : X.2.2.2.2.2.2.2.2.2.2.1 = 4)  (hd : 2 ≤ d) (hN : 75 ≤ G.2.2.2.2.2) (hk0 : k0 < 2) {K8 : Int32 → Int32 → St → Prop} (hK8 : ∀ (v1 : Int32) (v2 : Int32) (σ : St), K8 v1 v2 σ → Go X G 8 [(0, .ref (G.2.2.1 (21 + 4 * k0))), (1, .int v1), (2, .int v2)] [] σ)
    : ∀ (n : Nat) (v1 : Int32) (v2 : Int32) (v3 : Int32) (σ : St), wbX0_reopen_27 k0 K8 post n v1 v2 v3 σ → Go X G 27 [(0, .ref (G.2.2.1 (21 + 4 * k0))), (1, .int v1), (2, .int v2), (3, .int v3)] [] σ := by
  intro n
  induction n with
  | zero => intro v1 v2 v3 σ hw; exact hw.elim
  | succ n ih =>
    intro v1 v2 v3 σ hw
    have hw : ((v3 < (-40) →
      ∀ v2_1 : Int32, v2_1 = v2 + 1 →
      K8 v1 v2_1 σ) ∧
    (¬ v3 < (-40) →
      vp_in v2 16 ∧ (
      ((¬ (gI σ (21 + 4 * k0 + 3) v2.toNatClampNeg) = (-1000) →
        ∀ v2_2 : Int32, v2_2 = v2 + 1 →
        K8 v1 v2_2 σ) ∧
      ((gI σ (21 + 4 * k0 + 3) v2.toNatClampNeg) = (-1000) →
        wpX0_between k0 6 v2 v3 v3 σ (fun r_3 σ_4 =>
        ((r_3 ≤ 0 →
          ∀ v3_5 : Int32, v3_5 = v3 + (-1) →
          wbX0_reopen_27 k0 K8 post n v1 v2 v3_5 σ_4) ∧
        (¬ r_3 ≤ 0 →
          vp_in v2 16 ∧ (
          ∀ σ_6 : St, σ_6 = sI σ_4 (21 + 4 * k0 + 3) v2.toNatClampNeg v3 →
          ∀ v3_7 : Int32, v3_7 = v3 + (-1) →
          wbX0_reopen_27 k0 K8 post n v1 v2 v3_7 σ_6))))))))) := hw
    refine go_iload_n C 3 rfl rfl dX0_reopen_27 ?_
    refine go_bipush (v := (-40)) C rfl dX0_reopen_28 ?_
    refine go_icmp_lt C 70 rfl dX0_reopen_30 (fun hc => ?_) (fun hc => ?_)
    · replace hw := hw.1 hc
      obtain ⟨v2_1, ev2_1⟩ : ∃ z : Int32, z = v2 + 1 := ⟨_, rfl⟩
      replace hw := hw v2_1 ev2_1
      refine go_iinc (v := v2_1) (lv2 := [(2, .int v2_1), (0, .ref (G.2.2.1 (21 + 4 * k0))), (1, .int v1), (3, .int v3)]) C 2 rfl (by rw [ev2_1]; rfl) (by rw [hnl]; decide) rfl dX0_reopen_70 ?_
      refine go_goto C 8 rfl dX0_reopen_73 ?_
      refine go_sub [1, 2, 0] rfl ?_
      exact hK8 _ _ _ hw
    · replace hw := hw.2 hc
      refine go_aload_n C 0 rfl rfl dX0_reopen_33 ?_
      refine go_get (v := .ref (G.2.2.1 (21 + 4 * k0 + 3))) C (shX0 G hk0) (ltX0 hN hk0) lkX0_19 rfl dX0_reopen_34 ?_
      refine go_iload_n C 2 rfl rfl dX0_reopen_37 ?_
      refine go_iald C (saX0_latest G hk0) (laX0_latest hN hk0) hw.1 dX0_reopen_38 ?_
      replace hw := hw.2
      refine go_sipush (v := (-1000)) C rfl dX0_reopen_39 ?_
      refine go_icmp_ne C 70 rfl dX0_reopen_42 (fun hc => ?_) (fun hc => ?_)
      · replace hw := hw.1 hc
        obtain ⟨v2_2, ev2_2⟩ : ∃ z : Int32, z = v2 + 1 := ⟨_, rfl⟩
        replace hw := hw v2_2 ev2_2
        refine go_iinc (v := v2_2) (lv2 := [(2, .int v2_2), (0, .ref (G.2.2.1 (21 + 4 * k0))), (1, .int v1), (3, .int v3)]) C 2 rfl (by rw [ev2_2]; rfl) (by rw [hnl]; decide) rfl dX0_reopen_70 ?_
        refine go_goto C 8 rfl dX0_reopen_73 ?_
        refine go_sub [1, 2, 0] rfl ?_
        exact hK8 _ _ _ hw
      · replace hw := hw.2 hc
        refine go_aload_n C 0 rfl rfl dX0_reopen_45 ?_
        refine go_bipush (v := 6) C rfl dX0_reopen_46 ?_
        refine go_iload_n C 2 rfl rfl dX0_reopen_48 ?_
        refine go_iload_n C 3 rfl rfl dX0_reopen_49 ?_
        refine go_iload_n C 3 rfl rfl dX0_reopen_50 ?_
        refine go_callV (as := [.int 6, .int v2, .int v3, .int v3]) C hR (shX0 G hk0) (ltX0 hN hk0) cwX0_54 (Nat.le_trans (by decide) hd) (by decide) rfl rfl (Nat.le_of_ble_eq_true rfl) dX0_reopen_51 (spX0_between (Nat.le_refl _) hN hk0 hw) (fun v_ τ_ hw => ?_)
        obtain ⟨r_3, rfl, hw⟩ := hw
        obtain ⟨σ_4, rfl⟩ : ∃ z, z = τ_ := ⟨_, rfl⟩
        refine go_if_le C 64 rfl dX0_reopen_54 (fun hc => ?_) (fun hc => ?_)
        · replace hw := hw.1 hc
          obtain ⟨v3_5, ev3_5⟩ : ∃ z : Int32, z = v3 + (-1) := ⟨_, rfl⟩
          replace hw := hw v3_5 ev3_5
          refine go_iinc (v := v3_5) (lv2 := [(3, .int v3_5), (0, .ref (G.2.2.1 (21 + 4 * k0))), (1, .int v1), (2, .int v2)]) C 3 rfl (by rw [ev3_5]; rfl) (by rw [hnl]; decide) rfl dX0_reopen_64 ?_
          refine go_goto C 27 rfl dX0_reopen_67 ?_
          refine go_sub [1, 2, 3, 0] rfl ?_
          exact ih _ _ _ _ hw
        · replace hw := hw.2 hc
          refine go_aload_n C 0 rfl rfl dX0_reopen_57 ?_
          refine go_get (v := .ref (G.2.2.1 (21 + 4 * k0 + 3))) C (shX0 G hk0) (ltX0 hN hk0) lkX0_19 rfl dX0_reopen_58 ?_
          refine go_iload_n C 2 rfl rfl dX0_reopen_61 ?_
          refine go_iload_n C 3 rfl rfl dX0_reopen_62 ?_
          refine go_iast C (saX0_latest G hk0) (laX0_latest hN hk0) hw.1 dX0_reopen_63 (go_nm fun σ_6 eσ_6 => ?_)
          replace hw := hw.2 σ_6 eσ_6
          obtain ⟨v3_7, ev3_7⟩ : ∃ z : Int32, z = v3 + (-1) := ⟨_, rfl⟩
          replace hw := hw v3_7 ev3_7
          refine go_iinc (v := v3_7) (lv2 := [(3, .int v3_7), (0, .ref (G.2.2.1 (21 + 4 * k0))), (1, .int v1), (2, .int v2)]) C 3 rfl (by rw [ev3_7]; rfl) (by rw [hnl]; decide) rfl dX0_reopen_64 ?_
          refine go_goto C 27 rfl dX0_reopen_67 ?_
          refine go_sub [1, 2, 3, 0] rfl ?_
          exact ih _ _ _ _ hw
set_option maxRecDepth 20000 in
set_option maxHeartbeats 4000000 in
theorem gbX0_reopen_8 {X : XT} {G : GT} {l : Launch} {d : Nat} {k0 : Nat} {post : St → Prop} (C : Cx X G cX0_reopen RX0) (hr : Rt X G none (fun v τ => v = none ∧ post τ)) (hR : Rm X l d) (hnl : X.2.2.2.2.2.2.2.2.2.2.1 = 4)  (hd : 2 ≤ d) (hN : 75 ≤ G.2.2.2.2.2) (hk0 : k0 < 2)  
    : ∀ (n : Nat) (v1 : Int32) (v2 : Int32) (σ : St), wbX0_reopen_8 k0  post n v1 v2 σ → Go X G 8 [(0, .ref (G.2.2.1 (21 + 4 * k0))), (1, .int v1), (2, .int v2)] [] σ := by
  intro n
  induction n with
  | zero => intro v1 v2 σ hw; exact hw.elim
  | succ n ih =>
    intro v1 v2 σ hw
    have hw : ((16 ≤ v2 →
      wpX0_open k0 v1 σ (fun σ_2 =>
      post σ_2)) ∧
    (¬ 16 ≤ v2 →
      vp_in v2 16 ∧ (
      ∀ σ_3 : St, σ_3 = sI σ (21 + 4 * k0 + 3) v2.toNatClampNeg (-1000) →
      ∀ v3_4 : Int32, v3_4 = (v1 - 1) →
      ∃ m_27, wbX0_reopen_27 k0 (wbX0_reopen_8 k0 post n) post m_27 v1 v2 v3_4 σ_3))) := hw
    refine go_iload_n C 2 rfl rfl dX0_reopen_8 ?_
    refine go_bipush (v := 16) C rfl dX0_reopen_9 ?_
    refine go_icmp_ge C 76 rfl dX0_reopen_11 (fun hc => ?_) (fun hc => ?_)
    · replace hw := hw.1 hc
      refine go_aload_n C 0 rfl rfl dX0_reopen_76 ?_
      refine go_iload_n C 1 rfl rfl dX0_reopen_77 ?_
      refine go_callV (as := [.int v1]) C hR (shX0 G hk0) (ltX0 hN hk0) cwX0_65 (Nat.le_trans (by decide) hd) (by decide) rfl rfl (Nat.le_of_ble_eq_true rfl) dX0_reopen_78 (spX0_open (Nat.le_refl _) hN hk0 hw) (fun v_ τ_ hw => ?_)
      obtain ⟨rfl, hw⟩ := hw
      obtain ⟨σ_2, rfl⟩ : ∃ z, z = τ_ := ⟨_, rfl⟩
      exact go_vret C hr ⟨rfl, hw⟩ dX0_reopen_81
    · replace hw := hw.2 hc
      refine go_aload_n C 0 rfl rfl dX0_reopen_14 ?_
      refine go_get (v := .ref (G.2.2.1 (21 + 4 * k0 + 3))) C (shX0 G hk0) (ltX0 hN hk0) lkX0_19 rfl dX0_reopen_15 ?_
      refine go_iload_n C 2 rfl rfl dX0_reopen_18 ?_
      refine go_sipush (v := (-1000)) C rfl dX0_reopen_19 ?_
      refine go_iast C (saX0_latest G hk0) (laX0_latest hN hk0) hw.1 dX0_reopen_22 (go_nm fun σ_3 eσ_3 => ?_)
      replace hw := hw.2 σ_3 eσ_3
      refine go_iload_n C 1 rfl rfl dX0_reopen_23 ?_
      refine go_iconst (v := 1) C rfl dX0_reopen_24 ?_
      refine go_isub C dX0_reopen_25 ?_
      refine go_topi (fun v3_4 ev3_4 => ?_)
      replace hw := hw v3_4 ev3_4
      refine go_istore_n (lv2 := [(3, .int v3_4), (0, .ref (G.2.2.1 (21 + 4 * k0))), (1, .int v1), (2, .int v2)]) C rfl (by rw [hnl]; decide) rfl dX0_reopen_26 ?_
      refine go_sub [1, 2, 3, 0] rfl ?_
      obtain ⟨n_0, hw⟩ := hw
      exact (gbX0_reopen_27 C hr hR hnl hd hN hk0 ih) n_0 _ _ _ _ hw
set_option maxRecDepth 20000 in
set_option maxHeartbeats 4000000 in
theorem spX0_reopen {l : Launch} {G : GT} {d : Nat}  (hd : 2 ≤ d) {k0 : Nat} (hN : 75 ≤ G.2.2.2.2.2) (hk0 : k0 < 2) {a1 : Int32} {σ : St} {post : St → Prop} (hw : wpX0_reopen k0 a1 σ post) : Sp l G d yX0_reopen cX0_reopen 4 none [.ref (G.2.2.1 (21 + 4 * k0)), .int a1] σ (fun v τ => v = none ∧ post τ) := by
  refine Sp.of (by decide) (Nat.le_of_ble_eq_true rfl) fun X C hr hR hnl => ?_
  show Go X G 0 [(0, .ref (G.2.2.1 (21 + 4 * k0))), (1, .int a1)] [] σ
  have hw : ∀ σ_1 : St, σ_1 = sI σ (21 + 4 * k0) 3 60 →
  ∃ m_8, wbX0_reopen_8 k0 post m_8 a1 0 σ_1 := hw
  refine go_aload_n C 0 rfl rfl dX0_reopen_0 ?_
  refine go_bipush (v := 60) C rfl dX0_reopen_1 ?_
  refine go_puti C (shX0 G hk0) (ltX0 hN hk0) lpX0_34 (show 3 < 4 by decide) (pxX0_3 G _ _ _) dX0_reopen_3 (go_nm fun σ_1 eσ_1 => ?_)
  replace hw := hw σ_1 eσ_1
  refine go_iconst (v := 0) C rfl dX0_reopen_6 ?_
  refine go_istore_n (lv2 := [(2, .int 0), (0, .ref (G.2.2.1 (21 + 4 * k0))), (1, .int a1)]) C rfl (by rw [hnl]; decide) rfl dX0_reopen_7 ?_
  refine go_sub [1, 2, 0] rfl ?_
  obtain ⟨n_0, hw⟩ := hw
  exact (gbX0_reopen_8 C hr hR hnl hd hN hk0) n_0 _ _ _ hw
-- CradleNames$Book.beginFrom(LCradleNames$Book;)V
set_option maxRecDepth 20000 in
set_option maxHeartbeats 4000000 in
theorem spX0_beginFrom {l : Launch} {G : GT} {d : Nat}  (hd : 3 ≤ d) {k0 : Nat} {k1 : Nat} (hN : 75 ≤ G.2.2.2.2.2) (hk0 : k0 < 2) (hk1 : k1 < 2)  {σ : St} {post : St → Prop} (hw : wpX0_beginFrom k0 k1  σ post) : Sp l G d yX0_beginFrom cX0_beginFrom 2 none [.ref (G.2.2.1 (21 + 4 * k0)), .ref (G.2.2.1 (21 + 4 * k1))] σ (fun v τ => v = none ∧ post τ) := by
  refine Sp.of (by decide) (Nat.le_of_ble_eq_true rfl) fun X C hr hR hnl => ?_
  show Go X G 0 [(0, .ref (G.2.2.1 (21 + 4 * k0))), (1, .ref (G.2.2.1 (21 + 4 * k1)))] [] σ
  have hw : ¬ (0 : Int32) < 0 ∧ ¬ (0 : Int32) < 0 ∧ ¬ (4592 : Int32) < 0 ∧ (0 : Int32).toNatClampNeg + (4592 : Int32).toNatClampNeg ≤ 11424 ∧ (0 : Int32).toNatClampNeg + (4592 : Int32).toNatClampNeg ≤ 11424 ∧ (
  ∀ σ_1 : St, σ_1 = sA σ (21 + 4 * k0 + 2) (va_cpy (σ (21 + 4 * k1 + 2)).1 (σ (21 + 4 * k0 + 2)).1 (0 : Int32).toNatClampNeg (0 : Int32).toNatClampNeg (4592 : Int32).toNatClampNeg) →
  wpX0_reopen k0 0 σ_1 (fun σ_3 =>
  post σ_3)) := hw
  refine go_aload_n C 1 rfl rfl dX0_beginFrom_0 ?_
  refine go_get (v := .ref (G.2.2.1 (21 + 4 * k1 + 2))) C (shX0 G hk1) (ltX0 hN hk1) lkX0_15 rfl dX0_beginFrom_1 ?_
  refine go_iconst (v := 0) C rfl dX0_beginFrom_4 ?_
  refine go_aload_n C 0 rfl rfl dX0_beginFrom_5 ?_
  refine go_get (v := .ref (G.2.2.1 (21 + 4 * k0 + 2))) C (shX0 G hk0) (ltX0 hN hk0) lkX0_15 rfl dX0_beginFrom_6 ?_
  refine go_iconst (v := 0) C rfl dX0_beginFrom_9 ?_
  refine go_sipush (v := 4592) C rfl dX0_beginFrom_10 ?_
  refine go_copy (d := 0) C (rm_le hR (Nat.le_trans (by decide) hd)) (saX0_sums G hk1) (laX0_sums hN hk1) (saX0_sums G hk0) (laX0_sums hN hk0) acX0_28 ac_n ac_s ac_i hw.1 hw.2.1 hw.2.2.1 hw.2.2.2.1 hw.2.2.2.2.1 (Nat.le_of_ble_eq_true rfl) dX0_beginFrom_13 (go_nm fun σ_1 eσ_1 => ?_)
  replace hw := hw.2.2.2.2.2 σ_1 eσ_1
  refine go_aload_n C 0 rfl rfl dX0_beginFrom_16 ?_
  refine go_iconst (v := 0) C rfl dX0_beginFrom_17 ?_
  refine go_callV (as := [.int 0]) C hR (shX0 G hk0) (ltX0 hN hk0) cwX0_61 (Nat.le_trans (by decide) hd) (by decide) rfl rfl (Nat.le_of_ble_eq_true rfl) dX0_beginFrom_18 (spX0_reopen (Nat.le_refl _) hN hk0 hw) (fun v_ τ_ hw => ?_)
  obtain ⟨rfl, hw⟩ := hw
  obtain ⟨σ_3, rfl⟩ : ∃ z, z = τ_ := ⟨_, rfl⟩
  exact go_vret C hr ⟨rfl, hw⟩ dX0_beginFrom_21
-- CradleNames$Land.placeOf(I)I
set_option maxRecDepth 20000 in
set_option maxHeartbeats 4000000 in
theorem spX4_placeOf {l : Launch} {G : GT} {d : Nat}  (hd : 1 ≤ d)  (hN : 75 ≤ G.2.2.2.2.2)  {a1 : Int32} {σ : St} {post : Int32 → St → Prop} (hw : wpX4_placeOf  a1 σ post) : Sp l G d yX4_placeOf cX4_placeOf 1 (some .int) [.int a1] σ (fun v τ => ∃ r : Int32, v = some (.int r) ∧ post r τ) := by
  refine Sp.of (by decide) (Nat.le_of_ble_eq_true rfl) fun X C hr hR hnl => ?_
  show Go X G 0 [(0, .int a1)] [] σ
  have hw : post (a1 / 4) σ := hw
  refine go_iload_n C 0 rfl rfl dX4_placeOf_0 ?_
  refine go_iconst (v := 4) C rfl dX4_placeOf_1 ?_
  refine go_idiv C (by decide) dX4_placeOf_2 ?_
  exact go_iret C hr ⟨_, rfl, hw⟩ dX4_placeOf_3
-- CradleNames$Land.sexOf(I)I
set_option maxRecDepth 20000 in
set_option maxHeartbeats 4000000 in
theorem spX4_sexOf {l : Launch} {G : GT} {d : Nat}  (hd : 1 ≤ d)  (hN : 75 ≤ G.2.2.2.2.2)  {a1 : Int32} {σ : St} {post : Int32 → St → Prop} (hw : wpX4_sexOf  a1 σ post) : Sp l G d yX4_sexOf cX4_sexOf 1 (some .int) [.int a1] σ (fun v τ => ∃ r : Int32, v = some (.int r) ∧ post r τ) := by
  refine Sp.of (by decide) (Nat.le_of_ble_eq_true rfl) fun X C hr hR hnl => ?_
  show Go X G 0 [(0, .int a1)] [] σ
  have hw : post (a1 - a1 / 2 * 2) σ := hw
  refine go_iload_n C 0 rfl rfl dX4_sexOf_0 ?_
  refine go_iconst (v := 2) C rfl dX4_sexOf_1 ?_
  refine go_irem C (by decide) dX4_sexOf_2 ?_
  exact go_iret C hr ⟨_, rfl, hw⟩ dX4_sexOf_3
-- CradleNames$Land.listedIn(I)I
set_option maxRecDepth 20000 in
set_option maxHeartbeats 4000000 in
theorem gbX4_listedIn_7 {X : XT} {G : GT} {l : Launch} {d : Nat}  {post : Int32 → St → Prop} (C : Cx X G cX4_listedIn RX4) (hr : Rt X G (some .int) (fun v τ => ∃ r : Int32, v = some (.int r) ∧ post r τ)) (hR : Rm X l d) (hnl : X.2.2.2.2.2.2.2.2.2.2.1 = 3)  (hd : 1 ≤ d) (hN : 75 ≤ G.2.2.2.2.2)   
    : ∀ (n : Nat) (v1 : Int32) (v2 : Int32) (σ : St), wbX4_listedIn_7   post n v1 v2 σ → Go X G 7 [(0, .ref (G.2.2.1 9)), (1, .int v1), (2, .int v2)] [] σ := by
  intro n
  induction n with
  | zero => intro v1 v2 σ hw; exact hw.elim
  | succ n ih =>
    intro v1 v2 σ hw
    have hw : ((v2 < 0 →
      post 65535 σ) ∧
    (¬ v2 < 0 →
      vp_in v2 8 ∧ (
      ((v1 < (gI σ 16 v2.toNatClampNeg) →
        ∀ v2_1 : Int32, v2_1 = v2 + (-1) →
        wbX4_listedIn_7 post n v1 v2_1 σ) ∧
      (¬ v1 < (gI σ 16 v2.toNatClampNeg) →
        vp_in v2 8 ∧ (
        ((¬ (gI σ 17 v2.toNatClampNeg) = 0 →
          vp_in v2 8 ∧ (
          post (gI σ 17 v2.toNatClampNeg) σ)) ∧
        ((gI σ 17 v2.toNatClampNeg) = 0 →
          post 65535 σ)))))))) := hw
    refine go_iload_n C 2 rfl rfl dX4_listedIn_7 ?_
    refine go_if_lt C 48 rfl dX4_listedIn_8 (fun hc => ?_) (fun hc => ?_)
    · replace hw := hw.1 hc
      refine go_ldc (v := 65535) C kcX4_58 dX4_listedIn_48 ?_
      exact go_iret C hr ⟨_, rfl, hw⟩ dX4_listedIn_50
    · replace hw := hw.2 hc
      refine go_aload_n C 0 rfl rfl dX4_listedIn_11 ?_
      refine go_get (v := .ref (G.2.2.1 16)) C (shX4 G) (ltX4 hN) lkX4_34 rfl dX4_listedIn_12 ?_
      refine go_iload_n C 2 rfl rfl dX4_listedIn_15 ?_
      refine go_iald C (saX4_listFrom G) (laX4_listFrom hN) hw.1 dX4_listedIn_16 ?_
      replace hw := hw.2
      refine go_iload_n C 1 rfl rfl dX4_listedIn_17 ?_
      refine go_icmp_gt C 42 rfl dX4_listedIn_18 (fun hc => ?_) (fun hc => ?_)
      · replace hw := hw.1 hc
        obtain ⟨v2_1, ev2_1⟩ : ∃ z : Int32, z = v2 + (-1) := ⟨_, rfl⟩
        replace hw := hw v2_1 ev2_1
        refine go_iinc (v := v2_1) (lv2 := [(2, .int v2_1), (0, .ref (G.2.2.1 9)), (1, .int v1)]) C 2 rfl (by rw [ev2_1]; rfl) (by rw [hnl]; decide) rfl dX4_listedIn_42 ?_
        refine go_goto C 7 rfl dX4_listedIn_45 ?_
        refine go_sub [1, 2, 0] rfl ?_
        exact ih _ _ _ hw
      · replace hw := hw.2 hc
        refine go_aload_n C 0 rfl rfl dX4_listedIn_21 ?_
        refine go_get (v := .ref (G.2.2.1 17)) C (shX4 G) (ltX4 hN) lkX4_37 rfl dX4_listedIn_22 ?_
        refine go_iload_n C 2 rfl rfl dX4_listedIn_25 ?_
        refine go_iald C (saX4_listNames G) (laX4_listNames hN) hw.1 dX4_listedIn_26 ?_
        replace hw := hw.2
        refine go_if_ne C 35 rfl dX4_listedIn_27 (fun hc => ?_) (fun hc => ?_)
        · replace hw := hw.1 hc
          refine go_aload_n C 0 rfl rfl dX4_listedIn_35 ?_
          refine go_get (v := .ref (G.2.2.1 17)) C (shX4 G) (ltX4 hN) lkX4_37 rfl dX4_listedIn_36 ?_
          refine go_iload_n C 2 rfl rfl dX4_listedIn_39 ?_
          refine go_iald C (saX4_listNames G) (laX4_listNames hN) hw.1 dX4_listedIn_40 ?_
          replace hw := hw.2
          exact go_iret C hr ⟨_, rfl, hw⟩ dX4_listedIn_41
        · replace hw := hw.2 hc
          refine go_ldc (v := 65535) C kcX4_58 dX4_listedIn_30 ?_
          refine go_goto C 41 rfl dX4_listedIn_32 ?_
          exact go_iret C hr ⟨_, rfl, hw⟩ dX4_listedIn_41
set_option maxRecDepth 20000 in
set_option maxHeartbeats 4000000 in
theorem spX4_listedIn {l : Launch} {G : GT} {d : Nat}  (hd : 1 ≤ d)  (hN : 75 ≤ G.2.2.2.2.2)  {a1 : Int32} {σ : St} {post : Int32 → St → Prop} (hw : wpX4_listedIn  a1 σ post) : Sp l G d yX4_listedIn cX4_listedIn 3 (some .int) [.ref (G.2.2.1 9), .int a1] σ (fun v τ => ∃ r : Int32, v = some (.int r) ∧ post r τ) := by
  refine Sp.of (by decide) (Nat.le_of_ble_eq_true rfl) fun X C hr hR hnl => ?_
  show Go X G 0 [(0, .ref (G.2.2.1 9)), (1, .int a1)] [] σ
  have hw : ∀ v2_1 : Int32, v2_1 = ((gI σ 9 8) - 1) →
  ∃ m_7, wbX4_listedIn_7 post m_7 a1 v2_1 σ := hw
  refine go_aload_n C 0 rfl rfl dX4_listedIn_0 ?_
  refine go_get (v := .int (gI σ 9 8)) C (shX4 G) (ltX4 hN) lkX4_52 rfl dX4_listedIn_1 ?_
  refine go_iconst (v := 1) C rfl dX4_listedIn_4 ?_
  refine go_isub C dX4_listedIn_5 ?_
  refine go_topi (fun v2_1 ev2_1 => ?_)
  replace hw := hw v2_1 ev2_1
  refine go_istore_n (lv2 := [(2, .int v2_1), (0, .ref (G.2.2.1 9)), (1, .int a1)]) C rfl (by rw [hnl]; decide) rfl dX4_listedIn_6 ?_
  refine go_sub [1, 2, 0] rfl ?_
  obtain ⟨n_0, hw⟩ := hw
  exact (gbX4_listedIn_7 C hr hR hnl hd hN) n_0 _ _ _ hw
-- CradleNames$Judge.stand(LCradleNames$Book;IIII)V
set_option maxRecDepth 20000 in
set_option maxHeartbeats 4000000 in
theorem spX3_stand {l : Launch} {G : GT} {d : Nat}  (hd : 2 ≤ d) {k1 : Nat} (hN : 75 ≤ G.2.2.2.2.2) (hk1 : k1 < 2) {a2 : Int32} {a3 : Int32} {a4 : Int32} {a5 : Int32} {σ : St} {post : St → Prop} (hw : wpX3_stand k1 a2 a3 a4 a5 σ post) : Sp l G d yX3_stand cX3_stand 6 none [.ref (G.2.2.1 47), .ref (G.2.2.1 (21 + 4 * k1)), .int a2, .int a3, .int a4, .int a5] σ (fun v τ => v = none ∧ post τ) := by
  refine Sp.of (by decide) (Nat.le_of_ble_eq_true rfl) fun X C hr hR hnl => ?_
  show Go X G 0 [(0, .ref (G.2.2.1 47)), (1, .ref (G.2.2.1 (21 + 4 * k1))), (2, .int a2), (3, .int a3), (4, .int a4), (5, .int a5)] [] σ
  have hw : ∀ σ_1 : St, σ_1 = sR σ 47 8 (some (21 + 4 * k1)) →
  ∀ σ_2 : St, σ_2 = sI σ_1 47 9 a2 →
  ∀ σ_3 : St, σ_3 = sI σ_2 47 10 a3 →
  ∀ σ_4 : St, σ_4 = sI σ_3 47 11 a4 →
  ∀ σ_5 : St, σ_5 = sI σ_4 47 12 a5 →
  wpX4_listedIn a2 σ_5 (fun r_6 σ_7 =>
  ∀ σ_8 : St, σ_8 = sI σ_7 47 13 r_6 →
  post σ_8) := hw
  refine go_aload_n C 0 rfl rfl dX3_stand_0 ?_
  refine go_aload_n C 1 rfl rfl dX3_stand_1 ?_
  refine go_putr C (shX3 G) (ltX3 hN) lpX3_34 (show 8 < 14 by decide) (pxX3_8 G _ _) dX3_stand_2 (go_nm fun σ_1 eσ_1 => ?_)
  replace hw := hw σ_1 eσ_1
  refine go_aload_n C 0 rfl rfl dX3_stand_5 ?_
  refine go_iload_n C 2 rfl rfl dX3_stand_6 ?_
  refine go_puti C (shX3 G) (ltX3 hN) lpX3_42 (show 9 < 14 by decide) (pxX3_9 G _ _) dX3_stand_7 (go_nm fun σ_2 eσ_2 => ?_)
  replace hw := hw σ_2 eσ_2
  refine go_aload_n C 0 rfl rfl dX3_stand_10 ?_
  refine go_iload_n C 3 rfl rfl dX3_stand_11 ?_
  refine go_puti C (shX3 G) (ltX3 hN) lpX3_45 (show 10 < 14 by decide) (pxX3_10 G _ _) dX3_stand_12 (go_nm fun σ_3 eσ_3 => ?_)
  replace hw := hw σ_3 eσ_3
  refine go_aload_n C 0 rfl rfl dX3_stand_15 ?_
  refine go_iload C 4 rfl dX3_stand_16 ?_
  refine go_puti C (shX3 G) (ltX3 hN) lpX3_48 (show 11 < 14 by decide) (pxX3_11 G _ _) dX3_stand_18 (go_nm fun σ_4 eσ_4 => ?_)
  replace hw := hw σ_4 eσ_4
  refine go_aload_n C 0 rfl rfl dX3_stand_21 ?_
  refine go_iload C 5 rfl dX3_stand_22 ?_
  refine go_puti C (shX3 G) (ltX3 hN) lpX3_51 (show 12 < 14 by decide) (pxX3_12 G _ _) dX3_stand_24 (go_nm fun σ_5 eσ_5 => ?_)
  replace hw := hw σ_5 eσ_5
  refine go_aload_n C 0 rfl rfl dX3_stand_27 ?_
  refine go_aload_n C 0 rfl rfl dX3_stand_28 ?_
  refine go_get (v := .ref (G.2.2.1 9)) C (shX3 G) (ltX3 hN) lkX3_30 rfl dX3_stand_29 ?_
  refine go_iload_n C 2 rfl rfl dX3_stand_32 ?_
  refine go_callV (as := [.int a2]) C hR (shX4 G) (ltX4 hN) cwX3_54 (Nat.le_trans (by decide) hd) (by decide) rfl rfl (Nat.le_of_ble_eq_true rfl) dX3_stand_33 (spX4_listedIn (Nat.le_refl _) hN hw) (fun v_ τ_ hw => ?_)
  obtain ⟨r_6, rfl, hw⟩ := hw
  obtain ⟨σ_7, rfl⟩ : ∃ z, z = τ_ := ⟨_, rfl⟩
  refine go_puti C (shX3 G) (ltX3 hN) lpX3_60 (show 13 < 14 by decide) (pxX3_13 G _ _) dX3_stand_36 (go_nm fun σ_8 eσ_8 => ?_)
  replace hw := hw σ_8 eσ_8
  exact go_vret C hr ⟨rfl, hw⟩ dX3_stand_39
-- CradleNames$Judge.pick()I
set_option maxRecDepth 20000 in
set_option maxHeartbeats 4000000 in
theorem gbX3_pick_4 {X : XT} {G : GT} {l : Launch} {d : Nat}  {post : Int32 → St → Prop} (C : Cx X G cX3_pick RX3) (hr : Rt X G (some .int) (fun v τ => ∃ r : Int32, v = some (.int r) ∧ post r τ)) (hR : Rm X l d) (hnl : X.2.2.2.2.2.2.2.2.2.2.1 = 3)  (hd : 1 ≤ d) (hN : 75 ≤ G.2.2.2.2.2)   
    : ∀ (n : Nat) (v1 : Int32) (v2 : Int32) (σ : St), wbX3_pick_4   post n v1 v2 σ → Go X G 4 [(0, .ref (G.2.2.1 47)), (1, .int v1), (2, .int v2)] [] σ := by
  intro n
  induction n with
  | zero => intro v1 v2 σ hw; exact hw.elim
  | succ n ih =>
    intro v1 v2 σ hw
    have hw : (((gI σ 1 0) ≤ v2 →
      post v1 σ) ∧
    (¬ (gI σ 1 0) ≤ v2 →
      vp_in v2 16 ∧ (
      (((gI σ 50 v2.toNatClampNeg) = 0 →
        ∀ v2_1 : Int32, v2_1 = v2 + 1 →
        wbX3_pick_4 post n v1 v2_1 σ) ∧
      (¬ (gI σ 50 v2.toNatClampNeg) = 0 →
        ((v1 = (-1) →
          ∀ v2_2 : Int32, v2_2 = v2 + 1 →
          wbX3_pick_4 post n v2 v2_2 σ) ∧
        (¬ v1 = (-1) →
          vp_in v2 16 ∧ (
          vp_in v1 16 ∧ (
          (((gI σ 49 v2.toNatClampNeg) ≤ (gI σ 49 v1.toNatClampNeg) →
            ∀ v2_3 : Int32, v2_3 = v2 + 1 →
            wbX3_pick_4 post n v1 v2_3 σ) ∧
          (¬ (gI σ 49 v2.toNatClampNeg) ≤ (gI σ 49 v1.toNatClampNeg) →
            ∀ v2_4 : Int32, v2_4 = v2 + 1 →
            wbX3_pick_4 post n v2 v2_4 σ))))))))))) := hw
    refine go_iload_n C 2 rfl rfl dX3_pick_4 ?_
    refine go_aload_n C 0 rfl rfl dX3_pick_5 ?_
    refine go_get (v := .ref (G.2.2.1 1)) C (shX3 G) (ltX3 hN) lkX3_26 rfl dX3_pick_6 ?_
    refine go_get (v := .int (gI σ 1 0)) C (shX5 G) (ltX5 hN) lkX3_71 rfl dX3_pick_9 ?_
    refine go_icmp_ge C 52 rfl dX3_pick_12 (fun hc => ?_) (fun hc => ?_)
    · replace hw := hw.1 hc
      refine go_iload_n C 1 rfl rfl dX3_pick_52 ?_
      exact go_iret C hr ⟨_, rfl, hw⟩ dX3_pick_53
    · replace hw := hw.2 hc
      refine go_aload_n C 0 rfl rfl dX3_pick_15 ?_
      refine go_get (v := .ref (G.2.2.1 50)) C (shX3 G) (ltX3 hN) lkX3_18 rfl dX3_pick_16 ?_
      refine go_iload_n C 2 rfl rfl dX3_pick_19 ?_
      refine go_zald C (saX3_mays G) (laX3_mays hN) hw.1 dX3_pick_20 ?_
      replace hw := hw.2
      refine go_if_eq C 46 rfl dX3_pick_21 (fun hc => ?_) (fun hc => ?_)
      · replace hw := hw.1 hc
        obtain ⟨v2_1, ev2_1⟩ : ∃ z : Int32, z = v2 + 1 := ⟨_, rfl⟩
        replace hw := hw v2_1 ev2_1
        refine go_iinc (v := v2_1) (lv2 := [(2, .int v2_1), (0, .ref (G.2.2.1 47)), (1, .int v1)]) C 2 rfl (by rw [ev2_1]; rfl) (by rw [hnl]; decide) rfl dX3_pick_46 ?_
        refine go_goto C 4 rfl dX3_pick_49 ?_
        refine go_sub [1, 2, 0] rfl ?_
        exact ih _ _ _ hw
      · replace hw := hw.2 hc
        refine go_iload_n C 1 rfl rfl dX3_pick_24 ?_
        refine go_iconst (v := (-1)) C rfl dX3_pick_25 ?_
        refine go_icmp_eq C 44 rfl dX3_pick_26 (fun hc => ?_) (fun hc => ?_)
        · replace hw := hw.1 hc
          refine go_iload_n C 2 rfl rfl dX3_pick_44 ?_
          refine go_istore_n (lv2 := [(1, .int v2), (0, .ref (G.2.2.1 47)), (2, .int v2)]) C rfl (by rw [hnl]; decide) rfl dX3_pick_45 ?_
          obtain ⟨v2_2, ev2_2⟩ : ∃ z : Int32, z = v2 + 1 := ⟨_, rfl⟩
          replace hw := hw v2_2 ev2_2
          refine go_iinc (v := v2_2) (lv2 := [(2, .int v2_2), (1, .int v2), (0, .ref (G.2.2.1 47))]) C 2 rfl (by rw [ev2_2]; rfl) (by rw [hnl]; decide) rfl dX3_pick_46 ?_
          refine go_goto C 4 rfl dX3_pick_49 ?_
          refine go_sub [2, 1, 0] rfl ?_
          exact ih _ _ _ hw
        · replace hw := hw.2 hc
          refine go_aload_n C 0 rfl rfl dX3_pick_29 ?_
          refine go_get (v := .ref (G.2.2.1 49)) C (shX3 G) (ltX3 hN) lkX3_15 rfl dX3_pick_30 ?_
          refine go_iload_n C 2 rfl rfl dX3_pick_33 ?_
          refine go_iald C (saX3_worths G) (laX3_worths hN) hw.1 dX3_pick_34 ?_
          replace hw := hw.2
          refine go_aload_n C 0 rfl rfl dX3_pick_35 ?_
          refine go_get (v := .ref (G.2.2.1 49)) C (shX3 G) (ltX3 hN) lkX3_15 rfl dX3_pick_36 ?_
          refine go_iload_n C 1 rfl rfl dX3_pick_39 ?_
          refine go_iald C (saX3_worths G) (laX3_worths hN) hw.1 dX3_pick_40 ?_
          replace hw := hw.2
          refine go_icmp_le C 46 rfl dX3_pick_41 (fun hc => ?_) (fun hc => ?_)
          · replace hw := hw.1 hc
            obtain ⟨v2_3, ev2_3⟩ : ∃ z : Int32, z = v2 + 1 := ⟨_, rfl⟩
            replace hw := hw v2_3 ev2_3
            refine go_iinc (v := v2_3) (lv2 := [(2, .int v2_3), (0, .ref (G.2.2.1 47)), (1, .int v1)]) C 2 rfl (by rw [ev2_3]; rfl) (by rw [hnl]; decide) rfl dX3_pick_46 ?_
            refine go_goto C 4 rfl dX3_pick_49 ?_
            refine go_sub [1, 2, 0] rfl ?_
            exact ih _ _ _ hw
          · replace hw := hw.2 hc
            refine go_iload_n C 2 rfl rfl dX3_pick_44 ?_
            refine go_istore_n (lv2 := [(1, .int v2), (0, .ref (G.2.2.1 47)), (2, .int v2)]) C rfl (by rw [hnl]; decide) rfl dX3_pick_45 ?_
            obtain ⟨v2_4, ev2_4⟩ : ∃ z : Int32, z = v2 + 1 := ⟨_, rfl⟩
            replace hw := hw v2_4 ev2_4
            refine go_iinc (v := v2_4) (lv2 := [(2, .int v2_4), (1, .int v2), (0, .ref (G.2.2.1 47))]) C 2 rfl (by rw [ev2_4]; rfl) (by rw [hnl]; decide) rfl dX3_pick_46 ?_
            refine go_goto C 4 rfl dX3_pick_49 ?_
            refine go_sub [2, 1, 0] rfl ?_
            exact ih _ _ _ hw
set_option maxRecDepth 20000 in
set_option maxHeartbeats 4000000 in
theorem spX3_pick {l : Launch} {G : GT} {d : Nat}  (hd : 1 ≤ d)  (hN : 75 ≤ G.2.2.2.2.2)   {σ : St} {post : Int32 → St → Prop} (hw : wpX3_pick   σ post) : Sp l G d yX3_pick cX3_pick 3 (some .int) [.ref (G.2.2.1 47)] σ (fun v τ => ∃ r : Int32, v = some (.int r) ∧ post r τ) := by
  refine Sp.of (by decide) (Nat.le_of_ble_eq_true rfl) fun X C hr hR hnl => ?_
  show Go X G 0 [(0, .ref (G.2.2.1 47))] [] σ
  have hw : ∃ m_4, wbX3_pick_4 post m_4 (-1) 0 σ := hw
  refine go_iconst (v := (-1)) C rfl dX3_pick_0 ?_
  refine go_istore_n (lv2 := [(1, .int (-1)), (0, .ref (G.2.2.1 47))]) C rfl (by rw [hnl]; decide) rfl dX3_pick_1 ?_
  refine go_iconst (v := 0) C rfl dX3_pick_2 ?_
  refine go_istore_n (lv2 := [(2, .int 0), (1, .int (-1)), (0, .ref (G.2.2.1 47))]) C rfl (by rw [hnl]; decide) rfl dX3_pick_3 ?_
  refine go_sub [2, 1, 0] rfl ?_
  obtain ⟨n_0, hw⟩ := hw
  exact (gbX3_pick_4 C hr hR hnl hd hN) n_0 _ _ _ hw
-- CradleNames$Judge.give(I)V
set_option maxRecDepth 20000 in
set_option maxHeartbeats 4000000 in
theorem spX3_give {l : Launch} {G : GT} {d : Nat}  (hd : 4 ≤ d)  (hN : 75 ≤ G.2.2.2.2.2)  {a1 : Int32} {σ : St} {post : St → Prop} (hw : wpX3_give  a1 σ post) : Sp l G d yX3_give cX3_give 2 none [.ref (G.2.2.1 47), .int a1] σ (fun v τ => v = none ∧ post τ) := by
  refine Sp.of (by decide) (Nat.le_of_ble_eq_true rfl) fun X C hr hR hnl => ?_
  show Go X G 0 [(0, .ref (G.2.2.1 47)), (1, .int a1)] [] σ
  have hw : ∃ k_1, gR σ 47 8 = some (21 + 4 * k_1) ∧ k_1 < 2 ∧ (
  wpX0_give k_1 (gI σ 47 10) (gI σ 47 11) (gI σ 47 12) a1 σ (fun σ_3 =>
  post σ_3)) := hw
  refine go_aload_n C 0 rfl rfl dX3_give_0 ?_
  obtain ⟨k_1, gk_1, hk_1, hw⟩ := hw
  refine go_get (v := .ref (G.2.2.1 (21 + 4 * k_1))) C (shX3 G) (ltX3 hN) lkX3_34 (by show some (va_rf ((gR σ 47 8).map G.2.2.1)) = _; rw [gk_1]; rfl) dX3_give_1 ?_
  refine go_aload_n C 0 rfl rfl dX3_give_4 ?_
  refine go_get (v := .int (gI σ 47 10)) C (shX3 G) (ltX3 hN) lkX3_45 rfl dX3_give_5 ?_
  refine go_aload_n C 0 rfl rfl dX3_give_8 ?_
  refine go_get (v := .int (gI σ 47 11)) C (shX3 G) (ltX3 hN) lkX3_48 rfl dX3_give_9 ?_
  refine go_aload_n C 0 rfl rfl dX3_give_12 ?_
  refine go_get (v := .int (gI σ 47 12)) C (shX3 G) (ltX3 hN) lkX3_51 rfl dX3_give_13 ?_
  refine go_iload_n C 1 rfl rfl dX3_give_16 ?_
  refine go_callV (as := [.int (gI σ 47 10), .int (gI σ 47 11), .int (gI σ 47 12), .int a1]) C hR (shX0 G hk_1) (ltX0 hN hk_1) cwX3_74 (Nat.le_trans (by decide) hd) (by decide) rfl rfl (Nat.le_of_ble_eq_true rfl) dX3_give_17 (spX0_give (Nat.le_refl _) hN hk_1 hw) (fun v_ τ_ hw => ?_)
  obtain ⟨rfl, hw⟩ := hw
  obtain ⟨σ_3, rfl⟩ : ∃ z, z = τ_ := ⟨_, rfl⟩
  exact go_vret C hr ⟨rfl, hw⟩ dX3_give_20
-- CradleNames$Judge.bounded(J)I
set_option maxRecDepth 20000 in
set_option maxHeartbeats 4000000 in
theorem spX3_bounded {l : Launch} {G : GT} {d : Nat}  (hd : 1 ≤ d)  (hN : 75 ≤ G.2.2.2.2.2)  {a1 : Int64} {σ : St} {post : Int32 → St → Prop} (hw : wpX3_bounded  a1 σ post) : Sp l G d yX3_bounded cX3_bounded 2 (some .int) [.long a1] σ (fun v τ => ∃ r : Int32, v = some (.int r) ∧ post r τ) := by
  refine Sp.of (by decide) (Nat.le_of_ble_eq_true rfl) fun X C hr hR hnl => ?_
  show Go X G 0 [(0, .long a1)] [] σ
  have hw : ((a1 ≤ 1000000000 →
    (((-1000000000) ≤ a1 →
      post a1.toInt32 σ) ∧
    (¬ (-1000000000) ≤ a1 →
      post (-1000000000) σ))) ∧
  (¬ a1 ≤ 1000000000 →
    post 1000000000 σ)) := hw
  refine go_lload_n C 0 rfl rfl dX3_bounded_0 ?_
  refine go_ldc2 (v := 1000000000) C kcX3_112 dX3_bounded_1 ?_
  refine go_lc_le C 11 rfl dX3_bounded_4 dX3_bounded_5 (fun hc => ?_) (fun hc => ?_)
  · replace hw := hw.1 hc
    refine go_lload_n C 0 rfl rfl dX3_bounded_11 ?_
    refine go_ldc2 (v := (-1000000000)) C kcX3_115 dX3_bounded_12 ?_
    refine go_lc_ge C 24 rfl dX3_bounded_15 dX3_bounded_16 (fun hc => ?_) (fun hc => ?_)
    · replace hw := hw.1 hc
      refine go_lload_n C 0 rfl rfl dX3_bounded_24 ?_
      refine go_l2i C dX3_bounded_25 ?_
      exact go_iret C hr ⟨_, rfl, hw⟩ dX3_bounded_26
    · replace hw := hw.2 hc
      refine go_ldc (v := (-1000000000)) C kcX3_117 dX3_bounded_19 ?_
      refine go_goto C 26 rfl dX3_bounded_21 ?_
      exact go_iret C hr ⟨_, rfl, hw⟩ dX3_bounded_26
  · replace hw := hw.2 hc
    refine go_ldc (v := 1000000000) C kcX3_114 dX3_bounded_8 ?_
    exact go_iret C hr ⟨_, rfl, hw⟩ dX3_bounded_10
-- CradleNames$Judge.join(III)I
set_option maxRecDepth 20000 in
set_option maxHeartbeats 4000000 in
theorem spX3_join {l : Launch} {G : GT} {d : Nat}  (hd : 2 ≤ d)  (hN : 75 ≤ G.2.2.2.2.2)  {a1 : Int32} {a2 : Int32} {a3 : Int32} {σ : St} {post : Int32 → St → Prop} (hw : wpX3_join  a1 a2 a3 σ post) : Sp l G d yX3_join cX3_join 3 (some .int) [.int a1, .int a2, .int a3] σ (fun v τ => ∃ r : Int32, v = some (.int r) ∧ post r τ) := by
  refine Sp.of (by decide) (Nat.le_of_ble_eq_true rfl) fun X C hr hR hnl => ?_
  show Go X G 0 [(0, .int a1), (1, .int a2), (2, .int a3)] [] σ
  have hw : ((a1 = 17 →
    post (a2 ||| a3) σ) ∧
  (¬ a1 = 17 →
  ((a1 = 18 →
    post (a2 &&& a3) σ) ∧
  (¬ a1 = 18 →
  ((a1 = 19 →
    post 0 σ) ∧
  (¬ a1 = 19 →
  ((a1 = 20 →
    post (if a3 < a2 then a3 else a2) σ) ∧
  (¬ a1 = 20 →
  ((a1 = 21 →
    post (if a2 < a3 then a3 else a2) σ) ∧
  (¬ a1 = 21 →
  ((a1 = 22 →
    ((a3 ≤ a2 →
      post 0 σ) ∧
    (¬ a3 ≤ a2 →
      post 1 σ))) ∧
  (¬ a1 = 22 →
  ((a1 = 23 →
    ((a3 < a2 →
      post 0 σ) ∧
    (¬ a3 < a2 →
      post 1 σ))) ∧
  (¬ a1 = 23 →
  ((a1 = 24 →
    ((a2 ≤ a3 →
      post 0 σ) ∧
    (¬ a2 ≤ a3 →
      post 1 σ))) ∧
  (¬ a1 = 24 →
  ((a1 = 25 →
    ((a2 < a3 →
      post 0 σ) ∧
    (¬ a2 < a3 →
      post 1 σ))) ∧
  (¬ a1 = 25 →
  ((a1 = 26 →
    ((¬ a2 = a3 →
      post 0 σ) ∧
    (a2 = a3 →
      post 1 σ))) ∧
  (¬ a1 = 26 →
  ((a1 = 27 →
    ((a2 = a3 →
      post 0 σ) ∧
    (¬ a2 = a3 →
      post 1 σ))) ∧
  (¬ a1 = 27 →
  ((a1 = 28 →
    wpX3_bounded (a2.toInt64 + a3.toInt64) σ (fun r_1 σ_2 =>
    post r_1 σ_2)) ∧
  (¬ a1 = 28 →
  ((a1 = 29 →
    wpX3_bounded (a2.toInt64 - a3.toInt64) σ (fun r_3 σ_4 =>
    post r_3 σ_4)) ∧
  (¬ a1 = 29 →
  ((a1 = 30 →
    wpX3_bounded (a2.toInt64 * a3.toInt64) σ (fun r_5 σ_6 =>
    post r_5 σ_6)) ∧
  (¬ a1 = 30 →
  ((a1 = 31 →
    ((¬ a3 = 0 →
      ¬ a3 = 0 ∧ (
      post (a2 / a3) σ)) ∧
    (a3 = 0 →
      post 0 σ))) ∧
  (¬ a1 = 31 →
  post 0 σ)))))))))))))))))))))))))))))) := hw
  refine go_iload_n C 0 rfl rfl dX3_join_0 ?_
  by_cases hc0 : a1 = 17
  · replace hw := hw.1 hc0
    refine go_tableIn C 197 (by rw [hc0]; decide) (by rw [hc0]; decide) (by rw [hc0]; rfl) rfl dX3_join_1 ?_
    refine go_iload_n C 1 rfl rfl dX3_join_197 ?_
    refine go_iload_n C 2 rfl rfl dX3_join_198 ?_
    refine go_ior C dX3_join_199 ?_
    exact go_iret C hr ⟨_, rfl, hw⟩ dX3_join_200
  replace hw := hw.2 hc0
  by_cases hc1 : a1 = 18
  · replace hw := hw.1 hc1
    refine go_tableIn C 193 (by rw [hc1]; decide) (by rw [hc1]; decide) (by rw [hc1]; rfl) rfl dX3_join_1 ?_
    refine go_iload_n C 1 rfl rfl dX3_join_193 ?_
    refine go_iload_n C 2 rfl rfl dX3_join_194 ?_
    refine go_iand C dX3_join_195 ?_
    exact go_iret C hr ⟨_, rfl, hw⟩ dX3_join_196
  replace hw := hw.2 hc1
  by_cases hc2 : a1 = 19
  · replace hw := hw.1 hc2
    refine go_tableIn C 201 (by rw [hc2]; decide) (by rw [hc2]; decide) (by rw [hc2]; rfl) rfl dX3_join_1 ?_
    refine go_iconst (v := 0) C rfl dX3_join_201 ?_
    exact go_iret C hr ⟨_, rfl, hw⟩ dX3_join_202
  replace hw := hw.2 hc2
  by_cases hc3 : a1 = 20
  · replace hw := hw.1 hc3
    refine go_tableIn C 115 (by rw [hc3]; decide) (by rw [hc3]; decide) (by rw [hc3]; rfl) rfl dX3_join_1 ?_
    refine go_iload_n C 1 rfl rfl dX3_join_115 ?_
    refine go_iload_n C 2 rfl rfl dX3_join_116 ?_
    refine go_mmin (d := 0) C (rm_le hR (Nat.le_trans (by decide) hd)) mlX3_104 (Nat.le_of_ble_eq_true rfl) dX3_join_117 ?_
    exact go_iret C hr ⟨_, rfl, hw⟩ dX3_join_120
  replace hw := hw.2 hc3
  by_cases hc4 : a1 = 21
  · replace hw := hw.1 hc4
    refine go_tableIn C 121 (by rw [hc4]; decide) (by rw [hc4]; decide) (by rw [hc4]; rfl) rfl dX3_join_1 ?_
    refine go_iload_n C 1 rfl rfl dX3_join_121 ?_
    refine go_iload_n C 2 rfl rfl dX3_join_122 ?_
    refine go_mmax (d := 0) C (rm_le hR (Nat.le_trans (by decide) hd)) mlX3_109 (Nat.le_of_ble_eq_true rfl) dX3_join_123 ?_
    exact go_iret C hr ⟨_, rfl, hw⟩ dX3_join_126
  replace hw := hw.2 hc4
  by_cases hc5 : a1 = 22
  · replace hw := hw.1 hc5
    refine go_tableIn C 127 (by rw [hc5]; decide) (by rw [hc5]; decide) (by rw [hc5]; rfl) rfl dX3_join_1 ?_
    refine go_iload_n C 1 rfl rfl dX3_join_127 ?_
    refine go_iload_n C 2 rfl rfl dX3_join_128 ?_
    refine go_icmp_ge C 136 rfl dX3_join_129 (fun hc => ?_) (fun hc => ?_)
    · replace hw := hw.1 hc
      refine go_iconst (v := 0) C rfl dX3_join_136 ?_
      exact go_iret C hr ⟨_, rfl, hw⟩ dX3_join_137
    · replace hw := hw.2 hc
      refine go_iconst (v := 1) C rfl dX3_join_132 ?_
      refine go_goto C 137 rfl dX3_join_133 ?_
      exact go_iret C hr ⟨_, rfl, hw⟩ dX3_join_137
  replace hw := hw.2 hc5
  by_cases hc6 : a1 = 23
  · replace hw := hw.1 hc6
    refine go_tableIn C 138 (by rw [hc6]; decide) (by rw [hc6]; decide) (by rw [hc6]; rfl) rfl dX3_join_1 ?_
    refine go_iload_n C 1 rfl rfl dX3_join_138 ?_
    refine go_iload_n C 2 rfl rfl dX3_join_139 ?_
    refine go_icmp_gt C 147 rfl dX3_join_140 (fun hc => ?_) (fun hc => ?_)
    · replace hw := hw.1 hc
      refine go_iconst (v := 0) C rfl dX3_join_147 ?_
      exact go_iret C hr ⟨_, rfl, hw⟩ dX3_join_148
    · replace hw := hw.2 hc
      refine go_iconst (v := 1) C rfl dX3_join_143 ?_
      refine go_goto C 148 rfl dX3_join_144 ?_
      exact go_iret C hr ⟨_, rfl, hw⟩ dX3_join_148
  replace hw := hw.2 hc6
  by_cases hc7 : a1 = 24
  · replace hw := hw.1 hc7
    refine go_tableIn C 149 (by rw [hc7]; decide) (by rw [hc7]; decide) (by rw [hc7]; rfl) rfl dX3_join_1 ?_
    refine go_iload_n C 1 rfl rfl dX3_join_149 ?_
    refine go_iload_n C 2 rfl rfl dX3_join_150 ?_
    refine go_icmp_le C 158 rfl dX3_join_151 (fun hc => ?_) (fun hc => ?_)
    · replace hw := hw.1 hc
      refine go_iconst (v := 0) C rfl dX3_join_158 ?_
      exact go_iret C hr ⟨_, rfl, hw⟩ dX3_join_159
    · replace hw := hw.2 hc
      refine go_iconst (v := 1) C rfl dX3_join_154 ?_
      refine go_goto C 159 rfl dX3_join_155 ?_
      exact go_iret C hr ⟨_, rfl, hw⟩ dX3_join_159
  replace hw := hw.2 hc7
  by_cases hc8 : a1 = 25
  · replace hw := hw.1 hc8
    refine go_tableIn C 160 (by rw [hc8]; decide) (by rw [hc8]; decide) (by rw [hc8]; rfl) rfl dX3_join_1 ?_
    refine go_iload_n C 1 rfl rfl dX3_join_160 ?_
    refine go_iload_n C 2 rfl rfl dX3_join_161 ?_
    refine go_icmp_lt C 169 rfl dX3_join_162 (fun hc => ?_) (fun hc => ?_)
    · replace hw := hw.1 hc
      refine go_iconst (v := 0) C rfl dX3_join_169 ?_
      exact go_iret C hr ⟨_, rfl, hw⟩ dX3_join_170
    · replace hw := hw.2 hc
      refine go_iconst (v := 1) C rfl dX3_join_165 ?_
      refine go_goto C 170 rfl dX3_join_166 ?_
      exact go_iret C hr ⟨_, rfl, hw⟩ dX3_join_170
  replace hw := hw.2 hc8
  by_cases hc9 : a1 = 26
  · replace hw := hw.1 hc9
    refine go_tableIn C 171 (by rw [hc9]; decide) (by rw [hc9]; decide) (by rw [hc9]; rfl) rfl dX3_join_1 ?_
    refine go_iload_n C 1 rfl rfl dX3_join_171 ?_
    refine go_iload_n C 2 rfl rfl dX3_join_172 ?_
    refine go_icmp_ne C 180 rfl dX3_join_173 (fun hc => ?_) (fun hc => ?_)
    · replace hw := hw.1 hc
      refine go_iconst (v := 0) C rfl dX3_join_180 ?_
      exact go_iret C hr ⟨_, rfl, hw⟩ dX3_join_181
    · replace hw := hw.2 hc
      refine go_iconst (v := 1) C rfl dX3_join_176 ?_
      refine go_goto C 181 rfl dX3_join_177 ?_
      exact go_iret C hr ⟨_, rfl, hw⟩ dX3_join_181
  replace hw := hw.2 hc9
  by_cases hc10 : a1 = 27
  · replace hw := hw.1 hc10
    refine go_tableIn C 182 (by rw [hc10]; decide) (by rw [hc10]; decide) (by rw [hc10]; rfl) rfl dX3_join_1 ?_
    refine go_iload_n C 1 rfl rfl dX3_join_182 ?_
    refine go_iload_n C 2 rfl rfl dX3_join_183 ?_
    refine go_icmp_eq C 191 rfl dX3_join_184 (fun hc => ?_) (fun hc => ?_)
    · replace hw := hw.1 hc
      refine go_iconst (v := 0) C rfl dX3_join_191 ?_
      exact go_iret C hr ⟨_, rfl, hw⟩ dX3_join_192
    · replace hw := hw.2 hc
      refine go_iconst (v := 1) C rfl dX3_join_187 ?_
      refine go_goto C 192 rfl dX3_join_188 ?_
      exact go_iret C hr ⟨_, rfl, hw⟩ dX3_join_192
  replace hw := hw.2 hc10
  by_cases hc11 : a1 = 28
  · replace hw := hw.1 hc11
    refine go_tableIn C 76 (by rw [hc11]; decide) (by rw [hc11]; decide) (by rw [hc11]; rfl) rfl dX3_join_1 ?_
    refine go_iload_n C 1 rfl rfl dX3_join_76 ?_
    refine go_i2l C dX3_join_77 ?_
    refine go_iload_n C 2 rfl rfl dX3_join_78 ?_
    refine go_i2l C dX3_join_79 ?_
    refine go_ladd C dX3_join_80 ?_
    refine go_callS (as := [.long (a2.toInt64 + a3.toInt64)]) C hR cwX3_100 (Nat.le_trans (by decide) hd) (by decide) rfl rfl (Nat.le_of_ble_eq_true rfl) dX3_join_81 (spX3_bounded (Nat.le_refl _) hN hw) (fun v_ τ_ hw => ?_)
    obtain ⟨r_1, rfl, hw⟩ := hw
    obtain ⟨σ_2, rfl⟩ : ∃ z, z = τ_ := ⟨_, rfl⟩
    exact go_iret C hr ⟨_, rfl, hw⟩ dX3_join_84
  replace hw := hw.2 hc11
  by_cases hc12 : a1 = 29
  · replace hw := hw.1 hc12
    refine go_tableIn C 85 (by rw [hc12]; decide) (by rw [hc12]; decide) (by rw [hc12]; rfl) rfl dX3_join_1 ?_
    refine go_iload_n C 1 rfl rfl dX3_join_85 ?_
    refine go_i2l C dX3_join_86 ?_
    refine go_iload_n C 2 rfl rfl dX3_join_87 ?_
    refine go_i2l C dX3_join_88 ?_
    refine go_lsub C dX3_join_89 ?_
    refine go_callS (as := [.long (a2.toInt64 - a3.toInt64)]) C hR cwX3_100 (Nat.le_trans (by decide) hd) (by decide) rfl rfl (Nat.le_of_ble_eq_true rfl) dX3_join_90 (spX3_bounded (Nat.le_refl _) hN hw) (fun v_ τ_ hw => ?_)
    obtain ⟨r_3, rfl, hw⟩ := hw
    obtain ⟨σ_4, rfl⟩ : ∃ z, z = τ_ := ⟨_, rfl⟩
    exact go_iret C hr ⟨_, rfl, hw⟩ dX3_join_93
  replace hw := hw.2 hc12
  by_cases hc13 : a1 = 30
  · replace hw := hw.1 hc13
    refine go_tableIn C 94 (by rw [hc13]; decide) (by rw [hc13]; decide) (by rw [hc13]; rfl) rfl dX3_join_1 ?_
    refine go_iload_n C 1 rfl rfl dX3_join_94 ?_
    refine go_i2l C dX3_join_95 ?_
    refine go_iload_n C 2 rfl rfl dX3_join_96 ?_
    refine go_i2l C dX3_join_97 ?_
    refine go_lmul C dX3_join_98 ?_
    refine go_callS (as := [.long (a2.toInt64 * a3.toInt64)]) C hR cwX3_100 (Nat.le_trans (by decide) hd) (by decide) rfl rfl (Nat.le_of_ble_eq_true rfl) dX3_join_99 (spX3_bounded (Nat.le_refl _) hN hw) (fun v_ τ_ hw => ?_)
    obtain ⟨r_5, rfl, hw⟩ := hw
    obtain ⟨σ_6, rfl⟩ : ∃ z, z = τ_ := ⟨_, rfl⟩
    exact go_iret C hr ⟨_, rfl, hw⟩ dX3_join_102
  replace hw := hw.2 hc13
  by_cases hc14 : a1 = 31
  · replace hw := hw.1 hc14
    refine go_tableIn C 103 (by rw [hc14]; decide) (by rw [hc14]; decide) (by rw [hc14]; rfl) rfl dX3_join_1 ?_
    refine go_iload_n C 2 rfl rfl dX3_join_103 ?_
    refine go_if_ne C 111 rfl dX3_join_104 (fun hc => ?_) (fun hc => ?_)
    · replace hw := hw.1 hc
      refine go_iload_n C 1 rfl rfl dX3_join_111 ?_
      refine go_iload_n C 2 rfl rfl dX3_join_112 ?_
      refine go_idiv C hw.1 dX3_join_113 ?_
      replace hw := hw.2
      exact go_iret C hr ⟨_, rfl, hw⟩ dX3_join_114
    · replace hw := hw.2 hc
      refine go_iconst (v := 0) C rfl dX3_join_107 ?_
      refine go_goto C 114 rfl dX3_join_108 ?_
      exact go_iret C hr ⟨_, rfl, hw⟩ dX3_join_114
  replace hw := hw.2 hc14
  refine go_tableOut C 201 (by have g0 := lv_neT hc0 (show (17 : Int32).toInt = 17 from rfl); have g1 := lv_neT hc1 (show (18 : Int32).toInt = 18 from rfl); have g2 := lv_neT hc2 (show (19 : Int32).toInt = 19 from rfl); have g3 := lv_neT hc3 (show (20 : Int32).toInt = 20 from rfl); have g4 := lv_neT hc4 (show (21 : Int32).toInt = 21 from rfl); have g5 := lv_neT hc5 (show (22 : Int32).toInt = 22 from rfl); have g6 := lv_neT hc6 (show (23 : Int32).toInt = 23 from rfl); have g7 := lv_neT hc7 (show (24 : Int32).toInt = 24 from rfl); have g8 := lv_neT hc8 (show (25 : Int32).toInt = 25 from rfl); have g9 := lv_neT hc9 (show (26 : Int32).toInt = 26 from rfl); have g10 := lv_neT hc10 (show (27 : Int32).toInt = 27 from rfl); have g11 := lv_neT hc11 (show (28 : Int32).toInt = 28 from rfl); have g12 := lv_neT hc12 (show (29 : Int32).toInt = 29 from rfl); have g13 := lv_neT hc13 (show (30 : Int32).toInt = 30 from rfl); have g14 := lv_neT hc14 (show (31 : Int32).toInt = 31 from rfl); omega) rfl dX3_join_1 ?_
  refine go_iconst (v := 0) C rfl dX3_join_201 ?_
  exact go_iret C hr ⟨_, rfl, hw⟩ dX3_join_202
-- CradleNames$Names.sameEnding(II)Z
set_option maxRecDepth 20000 in
set_option maxHeartbeats 4000000 in
theorem spX5_sameEnding {l : Launch} {G : GT} {d : Nat}  (hd : 1 ≤ d)  (hN : 75 ≤ G.2.2.2.2.2)  {a1 : Int32} {a2 : Int32} {σ : St} {post : Int32 → St → Prop} (hw : wpX5_sameEnding  a1 a2 σ post) : Sp l G d yX5_sameEnding cX5_sameEnding 3 (some .boolean) [.ref (G.2.2.1 1), .int a1, .int a2] σ (fun v τ => ∃ r : Int32, v = some (.int r) ∧ post r τ) := by
  refine Sp.of (by decide) (Nat.le_of_ble_eq_true rfl) fun X C hr hR hnl => ?_
  show Go X G 0 [(0, .ref (G.2.2.1 1)), (1, .int a1), (2, .int a2)] [] σ
  have hw : vp_in a1 16 ∧ (
  vp_in a2 16 ∧ (
  ((¬ (gL σ 6 a1.toNatClampNeg) = (gL σ 6 a2.toNatClampNeg) →
    post 0 σ) ∧
  ((gL σ 6 a1.toNatClampNeg) = (gL σ 6 a2.toNatClampNeg) →
    post 1 σ)))) := hw
  refine go_aload_n C 0 rfl rfl dX5_sameEnding_0 ?_
  refine go_get (v := .ref (G.2.2.1 6)) C (shX5 G) (ltX5 hN) lkX5_25 rfl dX5_sameEnding_1 ?_
  refine go_iload_n C 1 rfl rfl dX5_sameEnding_4 ?_
  refine go_lald C (saX5_endings G) (laX5_endings hN) hw.1 dX5_sameEnding_5 ?_
  replace hw := hw.2
  refine go_aload_n C 0 rfl rfl dX5_sameEnding_6 ?_
  refine go_get (v := .ref (G.2.2.1 6)) C (shX5 G) (ltX5 hN) lkX5_25 rfl dX5_sameEnding_7 ?_
  refine go_iload_n C 2 rfl rfl dX5_sameEnding_10 ?_
  refine go_lald C (saX5_endings G) (laX5_endings hN) hw.1 dX5_sameEnding_11 ?_
  replace hw := hw.2
  refine go_lc_ne C 20 rfl dX5_sameEnding_12 dX5_sameEnding_13 (fun hc => ?_) (fun hc => ?_)
  · replace hw := hw.1 hc
    refine go_iconst (v := 0) C rfl dX5_sameEnding_20 ?_
    exact go_zret C hr rfl ⟨_, rfl, hw⟩ dX5_sameEnding_21
  · replace hw := hw.2 hc
    refine go_iconst (v := 1) C rfl dX5_sameEnding_16 ?_
    refine go_goto C 21 rfl dX5_sameEnding_17 ?_
    exact go_zret C hr rfl ⟨_, rfl, hw⟩ dX5_sameEnding_21
-- CradleNames$Judge.heardOfEnding(I)I
set_option maxRecDepth 20000 in
set_option maxHeartbeats 4000000 in
theorem gbX3_heardOfEnding_4 {X : XT} {G : GT} {l : Launch} {d : Nat}  {post : Int32 → St → Prop} (C : Cx X G cX3_heardOfEnding RX3) (hr : Rt X G (some .int) (fun v τ => ∃ r : Int32, v = some (.int r) ∧ post r τ)) (hR : Rm X l d) (hnl : X.2.2.2.2.2.2.2.2.2.2.1 = 4)  (hd : 2 ≤ d) (hN : 75 ≤ G.2.2.2.2.2)   
    : ∀ (n : Nat) (v1 : Int32) (v2 : Int32) (v3 : Int32) (σ : St), wbX3_heardOfEnding_4   post n v1 v2 v3 σ → Go X G 4 [(0, .ref (G.2.2.1 47)), (1, .int v1), (2, .int v2), (3, .int v3)] [] σ := by
  intro n
  induction n with
  | zero => intro v1 v2 v3 σ hw; exact hw.elim
  | succ n ih =>
    intro v1 v2 v3 σ hw
    have hw : (((gI σ 1 0) ≤ v3 →
      post v2 σ) ∧
    (¬ (gI σ 1 0) ≤ v3 →
      ((v3 = v1 →
        ∀ v3_1 : Int32, v3_1 = v3 + 1 →
        wbX3_heardOfEnding_4 post n v1 v2 v3_1 σ) ∧
      (¬ v3 = v1 →
        wpX5_sameEnding v3 v1 σ (fun r_2 σ_3 =>
        ((r_2 = 0 →
          ∀ v3_4 : Int32, v3_4 = v3 + 1 →
          wbX3_heardOfEnding_4 post n v1 v2 v3_4 σ_3) ∧
        (¬ r_2 = 0 →
          ∃ k_5, gR σ_3 47 8 = some (21 + 4 * k_5) ∧ k_5 < 2 ∧ (
          wpX0_between k_5 6 v3 ((gI σ_3 47 9) - 1) ((gI σ_3 47 9) - 1) σ_3 (fun r_6 σ_7 =>
          ∀ v2_8 : Int32, v2_8 = (v2 + r_6) →
          ∀ v3_9 : Int32, v3_9 = v3 + 1 →
          wbX3_heardOfEnding_4 post n v1 v2_8 v3_9 σ_7))))))))) := hw
    refine go_iload_n C 3 rfl rfl dX3_heardOfEnding_4 ?_
    refine go_aload_n C 0 rfl rfl dX3_heardOfEnding_5 ?_
    refine go_get (v := .ref (G.2.2.1 1)) C (shX3 G) (ltX3 hN) lkX3_26 rfl dX3_heardOfEnding_6 ?_
    refine go_get (v := .int (gI σ 1 0)) C (shX5 G) (ltX5 hN) lkX3_71 rfl dX3_heardOfEnding_9 ?_
    refine go_icmp_ge C 63 rfl dX3_heardOfEnding_12 (fun hc => ?_) (fun hc => ?_)
    · replace hw := hw.1 hc
      refine go_iload_n C 2 rfl rfl dX3_heardOfEnding_63 ?_
      exact go_iret C hr ⟨_, rfl, hw⟩ dX3_heardOfEnding_64
    · replace hw := hw.2 hc
      refine go_iload_n C 3 rfl rfl dX3_heardOfEnding_15 ?_
      refine go_iload_n C 1 rfl rfl dX3_heardOfEnding_16 ?_
      refine go_icmp_eq C 57 rfl dX3_heardOfEnding_17 (fun hc => ?_) (fun hc => ?_)
      · replace hw := hw.1 hc
        obtain ⟨v3_1, ev3_1⟩ : ∃ z : Int32, z = v3 + 1 := ⟨_, rfl⟩
        replace hw := hw v3_1 ev3_1
        refine go_iinc (v := v3_1) (lv2 := [(3, .int v3_1), (0, .ref (G.2.2.1 47)), (1, .int v1), (2, .int v2)]) C 3 rfl (by rw [ev3_1]; rfl) (by rw [hnl]; decide) rfl dX3_heardOfEnding_57 ?_
        refine go_goto C 4 rfl dX3_heardOfEnding_60 ?_
        refine go_sub [1, 2, 3, 0] rfl ?_
        exact ih _ _ _ _ hw
      · replace hw := hw.2 hc
        refine go_aload_n C 0 rfl rfl dX3_heardOfEnding_20 ?_
        refine go_get (v := .ref (G.2.2.1 1)) C (shX3 G) (ltX3 hN) lkX3_26 rfl dX3_heardOfEnding_21 ?_
        refine go_iload_n C 3 rfl rfl dX3_heardOfEnding_24 ?_
        refine go_iload_n C 1 rfl rfl dX3_heardOfEnding_25 ?_
        refine go_callV (as := [.int v3, .int v1]) C hR (shX5 G) (ltX5 hN) cwX3_147 (Nat.le_trans (by decide) hd) (by decide) rfl rfl (Nat.le_of_ble_eq_true rfl) dX3_heardOfEnding_26 (spX5_sameEnding (Nat.le_refl _) hN hw) (fun v_ τ_ hw => ?_)
        obtain ⟨r_2, rfl, hw⟩ := hw
        obtain ⟨σ_3, rfl⟩ : ∃ z, z = τ_ := ⟨_, rfl⟩
        refine go_if_eq C 57 rfl dX3_heardOfEnding_29 (fun hc => ?_) (fun hc => ?_)
        · replace hw := hw.1 hc
          obtain ⟨v3_4, ev3_4⟩ : ∃ z : Int32, z = v3 + 1 := ⟨_, rfl⟩
          replace hw := hw v3_4 ev3_4
          refine go_iinc (v := v3_4) (lv2 := [(3, .int v3_4), (0, .ref (G.2.2.1 47)), (1, .int v1), (2, .int v2)]) C 3 rfl (by rw [ev3_4]; rfl) (by rw [hnl]; decide) rfl dX3_heardOfEnding_57 ?_
          refine go_goto C 4 rfl dX3_heardOfEnding_60 ?_
          refine go_sub [1, 2, 3, 0] rfl ?_
          exact ih _ _ _ _ hw
        · replace hw := hw.2 hc
          refine go_iload_n C 2 rfl rfl dX3_heardOfEnding_32 ?_
          refine go_aload_n C 0 rfl rfl dX3_heardOfEnding_33 ?_
          obtain ⟨k_5, gk_5, hk_5, hw⟩ := hw
          refine go_get (v := .ref (G.2.2.1 (21 + 4 * k_5))) C (shX3 G) (ltX3 hN) lkX3_34 (by show some (va_rf ((gR σ_3 47 8).map G.2.2.1)) = _; rw [gk_5]; rfl) dX3_heardOfEnding_34 ?_
          refine go_bipush (v := 6) C rfl dX3_heardOfEnding_37 ?_
          refine go_iload_n C 3 rfl rfl dX3_heardOfEnding_39 ?_
          refine go_aload_n C 0 rfl rfl dX3_heardOfEnding_40 ?_
          refine go_get (v := .int (gI σ_3 47 9)) C (shX3 G) (ltX3 hN) lkX3_42 rfl dX3_heardOfEnding_41 ?_
          refine go_iconst (v := 1) C rfl dX3_heardOfEnding_44 ?_
          refine go_isub C dX3_heardOfEnding_45 ?_
          refine go_aload_n C 0 rfl rfl dX3_heardOfEnding_46 ?_
          refine go_get (v := .int (gI σ_3 47 9)) C (shX3 G) (ltX3 hN) lkX3_42 rfl dX3_heardOfEnding_47 ?_
          refine go_iconst (v := 1) C rfl dX3_heardOfEnding_50 ?_
          refine go_isub C dX3_heardOfEnding_51 ?_
          refine go_callV (as := [.int 6, .int v3, .int ((gI σ_3 47 9) - 1), .int ((gI σ_3 47 9) - 1)]) C hR (shX0 G hk_5) (ltX0 hN hk_5) cwX3_124 (Nat.le_trans (by decide) hd) (by decide) rfl rfl (Nat.le_of_ble_eq_true rfl) dX3_heardOfEnding_52 (spX0_between (Nat.le_refl _) hN hk_5 hw) (fun v_ τ_ hw => ?_)
          obtain ⟨r_6, rfl, hw⟩ := hw
          obtain ⟨σ_7, rfl⟩ : ∃ z, z = τ_ := ⟨_, rfl⟩
          refine go_iadd C dX3_heardOfEnding_55 ?_
          refine go_topi (fun v2_8 ev2_8 => ?_)
          replace hw := hw v2_8 ev2_8
          refine go_istore_n (lv2 := [(2, .int v2_8), (0, .ref (G.2.2.1 47)), (1, .int v1), (3, .int v3)]) C rfl (by rw [hnl]; decide) rfl dX3_heardOfEnding_56 ?_
          obtain ⟨v3_9, ev3_9⟩ : ∃ z : Int32, z = v3 + 1 := ⟨_, rfl⟩
          replace hw := hw v3_9 ev3_9
          refine go_iinc (v := v3_9) (lv2 := [(3, .int v3_9), (2, .int v2_8), (0, .ref (G.2.2.1 47)), (1, .int v1)]) C 3 rfl (by rw [ev3_9]; rfl) (by rw [hnl]; decide) rfl dX3_heardOfEnding_57 ?_
          refine go_goto C 4 rfl dX3_heardOfEnding_60 ?_
          refine go_sub [2, 3, 1, 0] rfl ?_
          exact ih _ _ _ _ hw
set_option maxRecDepth 20000 in
set_option maxHeartbeats 4000000 in
theorem spX3_heardOfEnding {l : Launch} {G : GT} {d : Nat}  (hd : 2 ≤ d)  (hN : 75 ≤ G.2.2.2.2.2)  {a1 : Int32} {σ : St} {post : Int32 → St → Prop} (hw : wpX3_heardOfEnding  a1 σ post) : Sp l G d yX3_heardOfEnding cX3_heardOfEnding 4 (some .int) [.ref (G.2.2.1 47), .int a1] σ (fun v τ => ∃ r : Int32, v = some (.int r) ∧ post r τ) := by
  refine Sp.of (by decide) (Nat.le_of_ble_eq_true rfl) fun X C hr hR hnl => ?_
  show Go X G 0 [(0, .ref (G.2.2.1 47)), (1, .int a1)] [] σ
  have hw : ∃ m_4, wbX3_heardOfEnding_4 post m_4 a1 0 0 σ := hw
  refine go_iconst (v := 0) C rfl dX3_heardOfEnding_0 ?_
  refine go_istore_n (lv2 := [(2, .int 0), (0, .ref (G.2.2.1 47)), (1, .int a1)]) C rfl (by rw [hnl]; decide) rfl dX3_heardOfEnding_1 ?_
  refine go_iconst (v := 0) C rfl dX3_heardOfEnding_2 ?_
  refine go_istore_n (lv2 := [(3, .int 0), (2, .int 0), (0, .ref (G.2.2.1 47)), (1, .int a1)]) C rfl (by rw [hnl]; decide) rfl dX3_heardOfEnding_3 ?_
  refine go_sub [2, 3, 1, 0] rfl ?_
  obtain ⟨n_0, hw⟩ := hw
  exact (gbX3_heardOfEnding_4 C hr hR hnl hd hN) n_0 _ _ _ _ hw
-- CradleNames$Land.filmOf(III)I
set_option maxRecDepth 20000 in
set_option maxHeartbeats 4000000 in
theorem gbX4_filmOf_6 {X : XT} {G : GT} {l : Launch} {d : Nat}  {post : Int32 → St → Prop} (C : Cx X G cX4_filmOf RX4) (hr : Rt X G (some .int) (fun v τ => ∃ r : Int32, v = some (.int r) ∧ post r τ)) (hR : Rm X l d) (hnl : X.2.2.2.2.2.2.2.2.2.2.1 = 7)  (hd : 1 ≤ d) (hN : 75 ≤ G.2.2.2.2.2)   
    : ∀ (n : Nat) (v1 : Int32) (v2 : Int32) (v3 : Int32) (v4 : Int32) (v5 : Int32) (σ : St), wbX4_filmOf_6   post n v1 v2 v3 v4 v5 σ → Go X G 6 [(0, .ref (G.2.2.1 9)), (1, .int v1), (2, .int v2), (3, .int v3), (4, .int v4), (5, .int v5)] [] σ := by
  intro n
  induction n with
  | zero => intro v1 v2 v3 v4 v5 σ hw; exact hw.elim
  | succ n ih =>
    intro v1 v2 v3 v4 v5 σ hw
    have hw : (((gI σ 9 11) ≤ v5 →
      post v4 σ) ∧
    (¬ (gI σ 9 11) ≤ v5 →
      vp_in v5 8 ∧ (
      ∀ v6_1 : Int32, v6_1 = (v2 - (gI σ 19 v5.toNatClampNeg)) →
      ((v5 = v3 →
        ∀ v5_2 : Int32, v5_2 = v5 + 1 →
        wbX4_filmOf_6 post n v1 v2 v3 v4 v5_2 σ) ∧
      (¬ v5 = v3 →
        vp_in v5 8 ∧ (
        ((¬ (gI σ 18 v5.toNatClampNeg) = v1 →
          ∀ v5_3 : Int32, v5_3 = v5 + 1 →
          wbX4_filmOf_6 post n v1 v2 v3 v4 v5_3 σ) ∧
        ((gI σ 18 v5.toNatClampNeg) = v1 →
          ((v6_1 < 0 →
            ∀ v5_4 : Int32, v5_4 = v5 + 1 →
            wbX4_filmOf_6 post n v1 v2 v3 v4 v5_4 σ) ∧
          (¬ v6_1 < 0 →
            ((10 ≤ v6_1 →
              ∀ v5_5 : Int32, v5_5 = v5 + 1 →
              wbX4_filmOf_6 post n v1 v2 v3 v4 v5_5 σ) ∧
            (¬ 10 ≤ v6_1 →
              vp_in v5 8 ∧ (
              ∀ v4_6 : Int32, v4_6 = (v4 + ((gI σ 20 v5.toNatClampNeg) >>> (v6_1 &&& 31))) →
              ∀ v5_7 : Int32, v5_7 = v5 + 1 →
              wbX4_filmOf_6 post n v1 v2 v3 v4_6 v5_7 σ))))))))))))) := hw
    refine go_iload C 5 rfl dX4_filmOf_6 ?_
    refine go_aload_n C 0 rfl rfl dX4_filmOf_8 ?_
    refine go_get (v := .int (gI σ 9 11)) C (shX4 G) (ltX4 hN) lkX4_55 rfl dX4_filmOf_9 ?_
    refine go_icmp_ge C 76 rfl dX4_filmOf_12 (fun hc => ?_) (fun hc => ?_)
    · replace hw := hw.1 hc
      refine go_iload C 4 rfl dX4_filmOf_76 ?_
      exact go_iret C hr ⟨_, rfl, hw⟩ dX4_filmOf_78
    · replace hw := hw.2 hc
      refine go_iload_n C 2 rfl rfl dX4_filmOf_15 ?_
      refine go_aload_n C 0 rfl rfl dX4_filmOf_16 ?_
      refine go_get (v := .ref (G.2.2.1 19)) C (shX4 G) (ltX4 hN) lkX4_43 rfl dX4_filmOf_17 ?_
      refine go_iload C 5 rfl dX4_filmOf_20 ?_
      refine go_iald C (saX4_filmYear G) (laX4_filmYear hN) hw.1 dX4_filmOf_22 ?_
      replace hw := hw.2
      refine go_isub C dX4_filmOf_23 ?_
      refine go_topi (fun v6_1 ev6_1 => ?_)
      replace hw := hw v6_1 ev6_1
      refine go_istore (lv2 := [(6, .int v6_1), (0, .ref (G.2.2.1 9)), (1, .int v1), (2, .int v2), (3, .int v3), (4, .int v4), (5, .int v5)]) C (by rw [hnl]; decide) rfl dX4_filmOf_24 ?_
      refine go_iload C 6 rfl dX4_filmOf_26 ?_
      refine go_iload_n C 4 rfl rfl dX4_filmOf_28 ?_
      refine go_icmp_eq C 70 rfl dX4_filmOf_29 (fun hc => ?_) (fun hc => ?_)
      · replace hw := hw.1 hc
        obtain ⟨v5_2, ev5_2⟩ : ∃ z : Int32, z = v5 + 1 := ⟨_, rfl⟩
        replace hw := hw v5_2 ev5_2
        refine go_iinc (v := v5_2) (lv2 := [(5, .int v5_2), (6, .int v6_1), (0, .ref (G.2.2.1 9)), (1, .int v1), (2, .int v2), (3, .int v3), (4, .int v4)]) C 6 rfl (by rw [ev5_2]; rfl) (by rw [hnl]; decide) rfl dX4_filmOf_70 ?_
        refine go_goto C 6 rfl dX4_filmOf_73 ?_
        refine go_sub [2, 3, 4, 5, 6, 0] rfl ?_
        exact ih _ _ _ _ _ _ hw
      · replace hw := hw.2 hc
        refine go_aload_n C 1 rfl rfl dX4_filmOf_32 ?_
        refine go_get (v := .ref (G.2.2.1 18)) C (shX4 G) (ltX4 hN) lkX4_40 rfl dX4_filmOf_33 ?_
        refine go_iload C 6 rfl dX4_filmOf_36 ?_
        refine go_iald C (saX4_filmName G) (laX4_filmName hN) hw.1 dX4_filmOf_38 ?_
        replace hw := hw.2
        refine go_iload_n C 2 rfl rfl dX4_filmOf_39 ?_
        refine go_icmp_ne C 70 rfl dX4_filmOf_40 (fun hc => ?_) (fun hc => ?_)
        · replace hw := hw.1 hc
          obtain ⟨v5_3, ev5_3⟩ : ∃ z : Int32, z = v5 + 1 := ⟨_, rfl⟩
          replace hw := hw v5_3 ev5_3
          refine go_iinc (v := v5_3) (lv2 := [(5, .int v5_3), (6, .int v6_1), (0, .ref (G.2.2.1 9)), (1, .int v1), (2, .int v2), (3, .int v3), (4, .int v4)]) C 6 rfl (by rw [ev5_3]; rfl) (by rw [hnl]; decide) rfl dX4_filmOf_70 ?_
          refine go_goto C 6 rfl dX4_filmOf_73 ?_
          refine go_sub [2, 3, 4, 5, 6, 0] rfl ?_
          exact ih _ _ _ _ _ _ hw
        · replace hw := hw.2 hc
          refine go_iload C 0 rfl dX4_filmOf_43 ?_
          refine go_if_lt C 70 rfl dX4_filmOf_45 (fun hc => ?_) (fun hc => ?_)
          · replace hw := hw.1 hc
            obtain ⟨v5_4, ev5_4⟩ : ∃ z : Int32, z = v5 + 1 := ⟨_, rfl⟩
            replace hw := hw v5_4 ev5_4
            refine go_iinc (v := v5_4) (lv2 := [(5, .int v5_4), (6, .int v6_1), (0, .ref (G.2.2.1 9)), (1, .int v1), (2, .int v2), (3, .int v3), (4, .int v4)]) C 6 rfl (by rw [ev5_4]; rfl) (by rw [hnl]; decide) rfl dX4_filmOf_70 ?_
            refine go_goto C 6 rfl dX4_filmOf_73 ?_
            refine go_sub [2, 3, 4, 5, 6, 0] rfl ?_
            exact ih _ _ _ _ _ _ hw
          · replace hw := hw.2 hc
            refine go_iload C 0 rfl dX4_filmOf_48 ?_
            refine go_bipush (v := 10) C rfl dX4_filmOf_50 ?_
            refine go_icmp_ge C 70 rfl dX4_filmOf_52 (fun hc => ?_) (fun hc => ?_)
            · replace hw := hw.1 hc
              obtain ⟨v5_5, ev5_5⟩ : ∃ z : Int32, z = v5 + 1 := ⟨_, rfl⟩
              replace hw := hw v5_5 ev5_5
              refine go_iinc (v := v5_5) (lv2 := [(5, .int v5_5), (6, .int v6_1), (0, .ref (G.2.2.1 9)), (1, .int v1), (2, .int v2), (3, .int v3), (4, .int v4)]) C 6 rfl (by rw [ev5_5]; rfl) (by rw [hnl]; decide) rfl dX4_filmOf_70 ?_
              refine go_goto C 6 rfl dX4_filmOf_73 ?_
              refine go_sub [2, 3, 4, 5, 6, 0] rfl ?_
              exact ih _ _ _ _ _ _ hw
            · replace hw := hw.2 hc
              refine go_iload C 5 rfl dX4_filmOf_55 ?_
              refine go_aload_n C 1 rfl rfl dX4_filmOf_57 ?_
              refine go_get (v := .ref (G.2.2.1 20)) C (shX4 G) (ltX4 hN) lkX4_46 rfl dX4_filmOf_58 ?_
              refine go_iload C 6 rfl dX4_filmOf_61 ?_
              refine go_iald C (saX4_filmPoints G) (laX4_filmPoints hN) hw.1 dX4_filmOf_63 ?_
              replace hw := hw.2
              refine go_iload C 0 rfl dX4_filmOf_64 ?_
              refine go_ishr C dX4_filmOf_66 ?_
              refine go_iadd C dX4_filmOf_67 ?_
              refine go_topi (fun v4_6 ev4_6 => ?_)
              replace hw := hw v4_6 ev4_6
              refine go_istore (lv2 := [(4, .int v4_6), (6, .int v6_1), (0, .ref (G.2.2.1 9)), (1, .int v1), (2, .int v2), (3, .int v3), (5, .int v5)]) C (by rw [hnl]; decide) rfl dX4_filmOf_68 ?_
              obtain ⟨v5_7, ev5_7⟩ : ∃ z : Int32, z = v5 + 1 := ⟨_, rfl⟩
              replace hw := hw v5_7 ev5_7
              refine go_iinc (v := v5_7) (lv2 := [(5, .int v5_7), (4, .int v4_6), (6, .int v6_1), (0, .ref (G.2.2.1 9)), (1, .int v1), (2, .int v2), (3, .int v3)]) C 6 rfl (by rw [ev5_7]; rfl) (by rw [hnl]; decide) rfl dX4_filmOf_70 ?_
              refine go_goto C 6 rfl dX4_filmOf_73 ?_
              refine go_sub [3, 4, 5, 6, 1, 0] rfl ?_
              exact ih _ _ _ _ _ _ hw
set_option maxRecDepth 20000 in
set_option maxHeartbeats 4000000 in
theorem spX4_filmOf {l : Launch} {G : GT} {d : Nat}  (hd : 1 ≤ d)  (hN : 75 ≤ G.2.2.2.2.2)  {a1 : Int32} {a2 : Int32} {a3 : Int32} {σ : St} {post : Int32 → St → Prop} (hw : wpX4_filmOf  a1 a2 a3 σ post) : Sp l G d yX4_filmOf cX4_filmOf 7 (some .int) [.ref (G.2.2.1 9), .int a1, .int a2, .int a3] σ (fun v τ => ∃ r : Int32, v = some (.int r) ∧ post r τ) := by
  refine Sp.of (by decide) (Nat.le_of_ble_eq_true rfl) fun X C hr hR hnl => ?_
  show Go X G 0 [(0, .ref (G.2.2.1 9)), (1, .int a1), (2, .int a2), (3, .int a3)] [] σ
  have hw : ∃ m_6, wbX4_filmOf_6 post m_6 a1 a2 a3 0 0 σ := hw
  refine go_iconst (v := 0) C rfl dX4_filmOf_0 ?_
  refine go_istore (lv2 := [(4, .int 0), (0, .ref (G.2.2.1 9)), (1, .int a1), (2, .int a2), (3, .int a3)]) C (by rw [hnl]; decide) rfl dX4_filmOf_1 ?_
  refine go_iconst (v := 0) C rfl dX4_filmOf_3 ?_
  refine go_istore (lv2 := [(5, .int 0), (4, .int 0), (0, .ref (G.2.2.1 9)), (1, .int a1), (2, .int a2), (3, .int a3)]) C (by rw [hnl]; decide) rfl dX4_filmOf_4 ?_
  refine go_sub [2, 3, 4, 5, 1, 0] rfl ?_
  obtain ⟨n_0, hw⟩ := hw
  exact (gbX4_filmOf_6 C hr hR hnl hd hN) n_0 _ _ _ _ _ _ hw
-- CradleNames$Judge.heard(II)I
set_option maxRecDepth 20000 in
set_option maxHeartbeats 4000000 in
theorem spX3_heard {l : Launch} {G : GT} {d : Nat}  (hd : 3 ≤ d)  (hN : 75 ≤ G.2.2.2.2.2)  {a1 : Int32} {a2 : Int32} {σ : St} {post : Int32 → St → Prop} (hw : wpX3_heard  a1 a2 σ post) : Sp l G d yX3_heard cX3_heard 5 (some .int) [.ref (G.2.2.1 47), .int a1, .int a2] σ (fun v τ => ∃ r : Int32, v = some (.int r) ∧ post r τ) := by
  refine Sp.of (by decide) (Nat.le_of_ble_eq_true rfl) fun X C hr hR hnl => ?_
  show Go X G 0 [(0, .ref (G.2.2.1 47)), (1, .int a1), (2, .int a2)] [] σ
  have hw : ∃ k_1, gR σ 47 5 = some (30 + 2 * k_1) ∧ k_1 < 6 ∧ (
  ∀ v3_2 : Int32, v3_2 = (((gI σ 47 9) - (gI σ (30 + 2 * k_1) 2)) + 1) →
  ∀ v4_3 : Int32, v4_3 = (((gI σ 47 9) - (gI σ 9 1)) + 1) →
  ((a1 = 0 →
    ∃ k_4, gR σ 47 8 = some (21 + 4 * k_4) ∧ k_4 < 2 ∧ (
    wpX0_between k_4 (0 + (gI σ 47 10)) a2 v3_2 (gI σ 47 9) σ (fun r_5 σ_6 =>
    post r_5 σ_6))) ∧
  (¬ a1 = 0 →
  ((a1 = 1 →
    ∃ k_7, gR σ 47 8 = some (21 + 4 * k_7) ∧ k_7 < 2 ∧ (
    wpX0_between k_7 6 a2 v3_2 (gI σ 47 9) σ (fun r_8 σ_9 =>
    ∃ k_10, gR σ_9 47 8 = some (21 + 4 * k_10) ∧ k_10 < 2 ∧ (
    wpX0_between k_10 (0 + (gI σ_9 47 10)) a2 v3_2 (gI σ_9 47 9) σ_9 (fun r_11 σ_12 =>
    post (r_8 - r_11) σ_12))))) ∧
  (¬ a1 = 1 →
  ((a1 = 2 →
    ((¬ (gI σ 47 11) = 0 →
      ∃ k_13, gR σ 47 8 = some (21 + 4 * k_13) ∧ k_13 < 2 ∧ (
      wpX0_between k_13 3 a2 v3_2 (gI σ 47 9) σ (fun r_14 σ_15 =>
      post r_14 σ_15))) ∧
    ((gI σ 47 11) = 0 →
      post 0 σ))) ∧
  (¬ a1 = 2 →
  ((a1 = 3 →
    ∃ k_16, gR σ 47 8 = some (21 + 4 * k_16) ∧ k_16 < 2 ∧ (
    wpX0_between k_16 (3 + (gI σ 47 11)) a2 v3_2 (gI σ 47 9) σ (fun r_17 σ_18 =>
    post r_17 σ_18))) ∧
  (¬ a1 = 3 →
  ((a1 = 4 →
    ∃ k_19, gR σ 47 8 = some (21 + 4 * k_19) ∧ k_19 < 2 ∧ (
    wpX0_between k_19 5 a2 v4_3 (gI σ 47 9) σ (fun r_20 σ_21 =>
    post r_20 σ_21))) ∧
  (¬ a1 = 4 →
  ((a1 = 5 →
    ∃ k_22, gR σ 47 8 = some (21 + 4 * k_22) ∧ k_22 < 2 ∧ (
    wpX0_between k_22 6 a2 v4_3 (gI σ 47 9) σ (fun r_23 σ_24 =>
    ∃ k_25, gR σ_24 47 8 = some (21 + 4 * k_25) ∧ k_25 < 2 ∧ (
    wpX0_between k_25 5 a2 v4_3 (gI σ_24 47 9) σ_24 (fun r_26 σ_27 =>
    post (r_23 - r_26) σ_27))))) ∧
  (¬ a1 = 5 →
  ((a1 = 6 →
    ∃ k_28, gR σ 47 8 = some (21 + 4 * k_28) ∧ k_28 < 2 ∧ (
    ∃ k_29, gR σ 47 5 = some (30 + 2 * k_29) ∧ k_29 < 6 ∧ (
    wpX0_between k_28 6 a2 v4_3 ((gI σ 47 9) - (gI σ (30 + 2 * k_29) 3)) σ (fun r_30 σ_31 =>
    post r_30 σ_31)))) ∧
  (¬ a1 = 6 →
  ((a1 = 7 →
    ∃ k_32, gR σ 47 8 = some (21 + 4 * k_32) ∧ k_32 < 2 ∧ (
    wpX0_between k_32 6 a2 v4_3 (gI σ 47 9) σ (fun r_33 σ_34 =>
    post r_33 σ_34))) ∧
  (¬ a1 = 7 →
  ((a1 = 8 →
    ∃ k_35, gR σ 47 8 = some (21 + 4 * k_35) ∧ k_35 < 2 ∧ (
    wpX0_since k_35 a2 (gI σ 47 9) σ (fun r_36 σ_37 =>
    post r_36 σ_37))) ∧
  (¬ a1 = 8 →
  ((a1 = 9 →
    ∃ k_38, gR σ 47 8 = some (21 + 4 * k_38) ∧ k_38 < 2 ∧ (
    wpX0_between k_38 6 a2 ((gI σ 47 9) - 1) ((gI σ 47 9) - 1) σ (fun r_39 σ_40 =>
    ∃ k_41, gR σ_40 47 8 = some (21 + 4 * k_41) ∧ k_41 < 2 ∧ (
    wpX0_between k_41 6 a2 ((gI σ_40 47 9) - 2) ((gI σ_40 47 9) - 2) σ_40 (fun r_42 σ_43 =>
    post (r_39 - r_42) σ_43))))) ∧
  (¬ a1 = 9 →
  ((a1 = 10 →
    (((gI σ 47 7) = 0 →
      wpX3_heardOfEnding a2 σ (fun r_44 σ_45 =>
      post r_44 σ_45)) ∧
    (¬ (gI σ 47 7) = 0 →
      post 0 σ))) ∧
  (¬ a1 = 10 →
  ((a1 = 11 →
    wpX4_filmOf a2 (gI σ 47 9) (gI σ 47 6) σ (fun r_46 σ_47 =>
    post r_46 σ_47)) ∧
  (¬ a1 = 11 →
  ((a1 = 12 →
    vp_in a2 16 ∧ (
    post (gI σ 3 a2.toNatClampNeg) σ)) ∧
  (¬ a1 = 12 →
  ((a1 = 13 →
    post (gI σ 47 9) σ) ∧
  (¬ a1 = 13 →
  post 0 σ))))))))))))))))))))))))))))) := hw
  refine go_aload_n C 0 rfl rfl dX3_heard_0 ?_
  refine go_get (v := .int (gI σ 47 9)) C (shX3 G) (ltX3 hN) lkX3_42 rfl dX3_heard_1 ?_
  refine go_aload_n C 0 rfl rfl dX3_heard_4 ?_
  obtain ⟨k_1, gk_1, hk_1, hw⟩ := hw
  refine go_get (v := .ref (G.2.2.1 (30 + 2 * k_1))) C (shX3 G) (ltX3 hN) lkX3_38 (by show some (va_rf ((gR σ 47 5).map G.2.2.1)) = _; rw [gk_1]; rfl) dX3_heard_5 ?_
  refine go_get (v := .int (gI σ (30 + 2 * k_1) 2)) C (shX9 G hk_1) (ltX9 hN hk_1) lkX3_118 rfl dX3_heard_8 ?_
  refine go_isub C dX3_heard_11 ?_
  refine go_iconst (v := 1) C rfl dX3_heard_12 ?_
  refine go_iadd C dX3_heard_13 ?_
  refine go_topi (fun v3_2 ev3_2 => ?_)
  replace hw := hw v3_2 ev3_2
  refine go_istore_n (lv2 := [(3, .int v3_2), (0, .ref (G.2.2.1 47)), (1, .int a1), (2, .int a2)]) C rfl (by rw [hnl]; decide) rfl dX3_heard_14 ?_
  refine go_aload_n C 1 rfl rfl dX3_heard_15 ?_
  refine go_get (v := .int (gI σ 47 9)) C (shX3 G) (ltX3 hN) lkX3_42 rfl dX3_heard_16 ?_
  refine go_aload_n C 1 rfl rfl dX3_heard_19 ?_
  refine go_get (v := .ref (G.2.2.1 9)) C (shX3 G) (ltX3 hN) lkX3_30 rfl dX3_heard_20 ?_
  refine go_get (v := .int (gI σ 9 1)) C (shX4 G) (ltX4 hN) lkX3_121 rfl dX3_heard_23 ?_
  refine go_isub C dX3_heard_26 ?_
  refine go_iconst (v := 1) C rfl dX3_heard_27 ?_
  refine go_iadd C dX3_heard_28 ?_
  refine go_topi (fun v4_3 ev4_3 => ?_)
  replace hw := hw v4_3 ev4_3
  refine go_istore (lv2 := [(4, .int v4_3), (3, .int v3_2), (0, .ref (G.2.2.1 47)), (1, .int a1), (2, .int a2)]) C (by rw [hnl]; decide) rfl dX3_heard_29 ?_
  refine go_iload_n C 3 rfl rfl dX3_heard_31 ?_
  by_cases hc0 : a1 = 0
  · replace hw := hw.1 hc0
    refine go_tableIn C 104 (by rw [hc0]; decide) (by rw [hc0]; decide) (by rw [hc0]; rfl) rfl dX3_heard_32 ?_
    refine go_aload_n C 2 rfl rfl dX3_heard_104 ?_
    obtain ⟨k_4, gk_4, hk_4, hw⟩ := hw
    refine go_get (v := .ref (G.2.2.1 (21 + 4 * k_4))) C (shX3 G) (ltX3 hN) lkX3_34 (by show some (va_rf ((gR σ 47 8).map G.2.2.1)) = _; rw [gk_4]; rfl) dX3_heard_105 ?_
    refine go_iconst (v := 0) C rfl dX3_heard_108 ?_
    refine go_aload_n C 2 rfl rfl dX3_heard_109 ?_
    refine go_get (v := .int (gI σ 47 10)) C (shX3 G) (ltX3 hN) lkX3_45 rfl dX3_heard_110 ?_
    refine go_iadd C dX3_heard_113 ?_
    refine go_iload_n C 4 rfl rfl dX3_heard_114 ?_
    refine go_iload_n C 1 rfl rfl dX3_heard_115 ?_
    refine go_aload_n C 2 rfl rfl dX3_heard_116 ?_
    refine go_get (v := .int (gI σ 47 9)) C (shX3 G) (ltX3 hN) lkX3_42 rfl dX3_heard_117 ?_
    refine go_callV (as := [.int (0 + (gI σ 47 10)), .int a2, .int v3_2, .int (gI σ 47 9)]) C hR (shX0 G hk_4) (ltX0 hN hk_4) cwX3_124 (Nat.le_trans (by decide) hd) (by decide) rfl rfl (Nat.le_of_ble_eq_true rfl) dX3_heard_120 (spX0_between (Nat.le_refl _) hN hk_4 hw) (fun v_ τ_ hw => ?_)
    obtain ⟨r_5, rfl, hw⟩ := hw
    obtain ⟨σ_6, rfl⟩ : ∃ z, z = τ_ := ⟨_, rfl⟩
    exact go_iret C hr ⟨_, rfl, hw⟩ dX3_heard_123
  replace hw := hw.2 hc0
  by_cases hc1 : a1 = 1
  · replace hw := hw.1 hc1
    refine go_tableIn C 124 (by rw [hc1]; decide) (by rw [hc1]; decide) (by rw [hc1]; rfl) rfl dX3_heard_32 ?_
    refine go_aload_n C 2 rfl rfl dX3_heard_124 ?_
    obtain ⟨k_7, gk_7, hk_7, hw⟩ := hw
    refine go_get (v := .ref (G.2.2.1 (21 + 4 * k_7))) C (shX3 G) (ltX3 hN) lkX3_34 (by show some (va_rf ((gR σ 47 8).map G.2.2.1)) = _; rw [gk_7]; rfl) dX3_heard_125 ?_
    refine go_bipush (v := 6) C rfl dX3_heard_128 ?_
    refine go_iload_n C 4 rfl rfl dX3_heard_130 ?_
    refine go_iload_n C 1 rfl rfl dX3_heard_131 ?_
    refine go_aload_n C 2 rfl rfl dX3_heard_132 ?_
    refine go_get (v := .int (gI σ 47 9)) C (shX3 G) (ltX3 hN) lkX3_42 rfl dX3_heard_133 ?_
    refine go_callV (as := [.int 6, .int a2, .int v3_2, .int (gI σ 47 9)]) C hR (shX0 G hk_7) (ltX0 hN hk_7) cwX3_124 (Nat.le_trans (by decide) hd) (by decide) rfl rfl (Nat.le_of_ble_eq_true rfl) dX3_heard_136 (spX0_between (Nat.le_refl _) hN hk_7 hw) (fun v_ τ_ hw => ?_)
    obtain ⟨r_8, rfl, hw⟩ := hw
    obtain ⟨σ_9, rfl⟩ : ∃ z, z = τ_ := ⟨_, rfl⟩
    refine go_aload_n C 2 rfl rfl dX3_heard_139 ?_
    obtain ⟨k_10, gk_10, hk_10, hw⟩ := hw
    refine go_get (v := .ref (G.2.2.1 (21 + 4 * k_10))) C (shX3 G) (ltX3 hN) lkX3_34 (by show some (va_rf ((gR σ_9 47 8).map G.2.2.1)) = _; rw [gk_10]; rfl) dX3_heard_140 ?_
    refine go_iconst (v := 0) C rfl dX3_heard_143 ?_
    refine go_aload_n C 2 rfl rfl dX3_heard_144 ?_
    refine go_get (v := .int (gI σ_9 47 10)) C (shX3 G) (ltX3 hN) lkX3_45 rfl dX3_heard_145 ?_
    refine go_iadd C dX3_heard_148 ?_
    refine go_iload_n C 4 rfl rfl dX3_heard_149 ?_
    refine go_iload_n C 1 rfl rfl dX3_heard_150 ?_
    refine go_aload_n C 2 rfl rfl dX3_heard_151 ?_
    refine go_get (v := .int (gI σ_9 47 9)) C (shX3 G) (ltX3 hN) lkX3_42 rfl dX3_heard_152 ?_
    refine go_callV (as := [.int (0 + (gI σ_9 47 10)), .int a2, .int v3_2, .int (gI σ_9 47 9)]) C hR (shX0 G hk_10) (ltX0 hN hk_10) cwX3_124 (Nat.le_trans (by decide) hd) (by decide) rfl rfl (Nat.le_of_ble_eq_true rfl) dX3_heard_155 (spX0_between (Nat.le_refl _) hN hk_10 hw) (fun v_ τ_ hw => ?_)
    obtain ⟨r_11, rfl, hw⟩ := hw
    obtain ⟨σ_12, rfl⟩ : ∃ z, z = τ_ := ⟨_, rfl⟩
    refine go_isub C dX3_heard_158 ?_
    exact go_iret C hr ⟨_, rfl, hw⟩ dX3_heard_159
  replace hw := hw.2 hc1
  by_cases hc2 : a1 = 2
  · replace hw := hw.1 hc2
    refine go_tableIn C 160 (by rw [hc2]; decide) (by rw [hc2]; decide) (by rw [hc2]; rfl) rfl dX3_heard_32 ?_
    refine go_aload_n C 2 rfl rfl dX3_heard_160 ?_
    refine go_get (v := .int (gI σ 47 11)) C (shX3 G) (ltX3 hN) lkX3_48 rfl dX3_heard_161 ?_
    refine go_if_ne C 171 rfl dX3_heard_164 (fun hc => ?_) (fun hc => ?_)
    · replace hw := hw.1 hc
      refine go_aload_n C 2 rfl rfl dX3_heard_171 ?_
      obtain ⟨k_13, gk_13, hk_13, hw⟩ := hw
      refine go_get (v := .ref (G.2.2.1 (21 + 4 * k_13))) C (shX3 G) (ltX3 hN) lkX3_34 (by show some (va_rf ((gR σ 47 8).map G.2.2.1)) = _; rw [gk_13]; rfl) dX3_heard_172 ?_
      refine go_iconst (v := 3) C rfl dX3_heard_175 ?_
      refine go_iload_n C 4 rfl rfl dX3_heard_176 ?_
      refine go_iload_n C 1 rfl rfl dX3_heard_177 ?_
      refine go_aload_n C 2 rfl rfl dX3_heard_178 ?_
      refine go_get (v := .int (gI σ 47 9)) C (shX3 G) (ltX3 hN) lkX3_42 rfl dX3_heard_179 ?_
      refine go_callV (as := [.int 3, .int a2, .int v3_2, .int (gI σ 47 9)]) C hR (shX0 G hk_13) (ltX0 hN hk_13) cwX3_124 (Nat.le_trans (by decide) hd) (by decide) rfl rfl (Nat.le_of_ble_eq_true rfl) dX3_heard_182 (spX0_between (Nat.le_refl _) hN hk_13 hw) (fun v_ τ_ hw => ?_)
      obtain ⟨r_14, rfl, hw⟩ := hw
      obtain ⟨σ_15, rfl⟩ : ∃ z, z = τ_ := ⟨_, rfl⟩
      exact go_iret C hr ⟨_, rfl, hw⟩ dX3_heard_185
    · replace hw := hw.2 hc
      refine go_iconst (v := 0) C rfl dX3_heard_167 ?_
      refine go_goto C 185 rfl dX3_heard_168 ?_
      exact go_iret C hr ⟨_, rfl, hw⟩ dX3_heard_185
  replace hw := hw.2 hc2
  by_cases hc3 : a1 = 3
  · replace hw := hw.1 hc3
    refine go_tableIn C 186 (by rw [hc3]; decide) (by rw [hc3]; decide) (by rw [hc3]; rfl) rfl dX3_heard_32 ?_
    refine go_aload_n C 2 rfl rfl dX3_heard_186 ?_
    obtain ⟨k_16, gk_16, hk_16, hw⟩ := hw
    refine go_get (v := .ref (G.2.2.1 (21 + 4 * k_16))) C (shX3 G) (ltX3 hN) lkX3_34 (by show some (va_rf ((gR σ 47 8).map G.2.2.1)) = _; rw [gk_16]; rfl) dX3_heard_187 ?_
    refine go_iconst (v := 3) C rfl dX3_heard_190 ?_
    refine go_aload_n C 2 rfl rfl dX3_heard_191 ?_
    refine go_get (v := .int (gI σ 47 11)) C (shX3 G) (ltX3 hN) lkX3_48 rfl dX3_heard_192 ?_
    refine go_iadd C dX3_heard_195 ?_
    refine go_iload_n C 4 rfl rfl dX3_heard_196 ?_
    refine go_iload_n C 1 rfl rfl dX3_heard_197 ?_
    refine go_aload_n C 2 rfl rfl dX3_heard_198 ?_
    refine go_get (v := .int (gI σ 47 9)) C (shX3 G) (ltX3 hN) lkX3_42 rfl dX3_heard_199 ?_
    refine go_callV (as := [.int (3 + (gI σ 47 11)), .int a2, .int v3_2, .int (gI σ 47 9)]) C hR (shX0 G hk_16) (ltX0 hN hk_16) cwX3_124 (Nat.le_trans (by decide) hd) (by decide) rfl rfl (Nat.le_of_ble_eq_true rfl) dX3_heard_202 (spX0_between (Nat.le_refl _) hN hk_16 hw) (fun v_ τ_ hw => ?_)
    obtain ⟨r_17, rfl, hw⟩ := hw
    obtain ⟨σ_18, rfl⟩ : ∃ z, z = τ_ := ⟨_, rfl⟩
    exact go_iret C hr ⟨_, rfl, hw⟩ dX3_heard_205
  replace hw := hw.2 hc3
  by_cases hc4 : a1 = 4
  · replace hw := hw.1 hc4
    refine go_tableIn C 206 (by rw [hc4]; decide) (by rw [hc4]; decide) (by rw [hc4]; rfl) rfl dX3_heard_32 ?_
    refine go_aload_n C 2 rfl rfl dX3_heard_206 ?_
    obtain ⟨k_19, gk_19, hk_19, hw⟩ := hw
    refine go_get (v := .ref (G.2.2.1 (21 + 4 * k_19))) C (shX3 G) (ltX3 hN) lkX3_34 (by show some (va_rf ((gR σ 47 8).map G.2.2.1)) = _; rw [gk_19]; rfl) dX3_heard_207 ?_
    refine go_iconst (v := 5) C rfl dX3_heard_210 ?_
    refine go_iload_n C 4 rfl rfl dX3_heard_211 ?_
    refine go_iload C 0 rfl dX3_heard_212 ?_
    refine go_aload_n C 2 rfl rfl dX3_heard_214 ?_
    refine go_get (v := .int (gI σ 47 9)) C (shX3 G) (ltX3 hN) lkX3_42 rfl dX3_heard_215 ?_
    refine go_callV (as := [.int 5, .int a2, .int v4_3, .int (gI σ 47 9)]) C hR (shX0 G hk_19) (ltX0 hN hk_19) cwX3_124 (Nat.le_trans (by decide) hd) (by decide) rfl rfl (Nat.le_of_ble_eq_true rfl) dX3_heard_218 (spX0_between (Nat.le_refl _) hN hk_19 hw) (fun v_ τ_ hw => ?_)
    obtain ⟨r_20, rfl, hw⟩ := hw
    obtain ⟨σ_21, rfl⟩ : ∃ z, z = τ_ := ⟨_, rfl⟩
    exact go_iret C hr ⟨_, rfl, hw⟩ dX3_heard_221
  replace hw := hw.2 hc4
  by_cases hc5 : a1 = 5
  · replace hw := hw.1 hc5
    refine go_tableIn C 222 (by rw [hc5]; decide) (by rw [hc5]; decide) (by rw [hc5]; rfl) rfl dX3_heard_32 ?_
    refine go_aload_n C 2 rfl rfl dX3_heard_222 ?_
    obtain ⟨k_22, gk_22, hk_22, hw⟩ := hw
    refine go_get (v := .ref (G.2.2.1 (21 + 4 * k_22))) C (shX3 G) (ltX3 hN) lkX3_34 (by show some (va_rf ((gR σ 47 8).map G.2.2.1)) = _; rw [gk_22]; rfl) dX3_heard_223 ?_
    refine go_bipush (v := 6) C rfl dX3_heard_226 ?_
    refine go_iload_n C 4 rfl rfl dX3_heard_228 ?_
    refine go_iload C 0 rfl dX3_heard_229 ?_
    refine go_aload_n C 2 rfl rfl dX3_heard_231 ?_
    refine go_get (v := .int (gI σ 47 9)) C (shX3 G) (ltX3 hN) lkX3_42 rfl dX3_heard_232 ?_
    refine go_callV (as := [.int 6, .int a2, .int v4_3, .int (gI σ 47 9)]) C hR (shX0 G hk_22) (ltX0 hN hk_22) cwX3_124 (Nat.le_trans (by decide) hd) (by decide) rfl rfl (Nat.le_of_ble_eq_true rfl) dX3_heard_235 (spX0_between (Nat.le_refl _) hN hk_22 hw) (fun v_ τ_ hw => ?_)
    obtain ⟨r_23, rfl, hw⟩ := hw
    obtain ⟨σ_24, rfl⟩ : ∃ z, z = τ_ := ⟨_, rfl⟩
    refine go_aload_n C 2 rfl rfl dX3_heard_238 ?_
    obtain ⟨k_25, gk_25, hk_25, hw⟩ := hw
    refine go_get (v := .ref (G.2.2.1 (21 + 4 * k_25))) C (shX3 G) (ltX3 hN) lkX3_34 (by show some (va_rf ((gR σ_24 47 8).map G.2.2.1)) = _; rw [gk_25]; rfl) dX3_heard_239 ?_
    refine go_iconst (v := 5) C rfl dX3_heard_242 ?_
    refine go_iload_n C 4 rfl rfl dX3_heard_243 ?_
    refine go_iload C 0 rfl dX3_heard_244 ?_
    refine go_aload_n C 2 rfl rfl dX3_heard_246 ?_
    refine go_get (v := .int (gI σ_24 47 9)) C (shX3 G) (ltX3 hN) lkX3_42 rfl dX3_heard_247 ?_
    refine go_callV (as := [.int 5, .int a2, .int v4_3, .int (gI σ_24 47 9)]) C hR (shX0 G hk_25) (ltX0 hN hk_25) cwX3_124 (Nat.le_trans (by decide) hd) (by decide) rfl rfl (Nat.le_of_ble_eq_true rfl) dX3_heard_250 (spX0_between (Nat.le_refl _) hN hk_25 hw) (fun v_ τ_ hw => ?_)
    obtain ⟨r_26, rfl, hw⟩ := hw
    obtain ⟨σ_27, rfl⟩ : ∃ z, z = τ_ := ⟨_, rfl⟩
    refine go_isub C dX3_heard_253 ?_
    exact go_iret C hr ⟨_, rfl, hw⟩ dX3_heard_254
  replace hw := hw.2 hc5
  by_cases hc6 : a1 = 6
  · replace hw := hw.1 hc6
    refine go_tableIn C 255 (by rw [hc6]; decide) (by rw [hc6]; decide) (by rw [hc6]; rfl) rfl dX3_heard_32 ?_
    refine go_aload_n C 2 rfl rfl dX3_heard_255 ?_
    obtain ⟨k_28, gk_28, hk_28, hw⟩ := hw
    refine go_get (v := .ref (G.2.2.1 (21 + 4 * k_28))) C (shX3 G) (ltX3 hN) lkX3_34 (by show some (va_rf ((gR σ 47 8).map G.2.2.1)) = _; rw [gk_28]; rfl) dX3_heard_256 ?_
    refine go_bipush (v := 6) C rfl dX3_heard_259 ?_
    refine go_iload_n C 4 rfl rfl dX3_heard_261 ?_
    refine go_iload C 0 rfl dX3_heard_262 ?_
    refine go_aload_n C 2 rfl rfl dX3_heard_264 ?_
    refine go_get (v := .int (gI σ 47 9)) C (shX3 G) (ltX3 hN) lkX3_42 rfl dX3_heard_265 ?_
    refine go_aload_n C 2 rfl rfl dX3_heard_268 ?_
    obtain ⟨k_29, gk_29, hk_29, hw⟩ := hw
    refine go_get (v := .ref (G.2.2.1 (30 + 2 * k_29))) C (shX3 G) (ltX3 hN) lkX3_38 (by show some (va_rf ((gR σ 47 5).map G.2.2.1)) = _; rw [gk_29]; rfl) dX3_heard_269 ?_
    refine go_get (v := .int (gI σ (30 + 2 * k_29) 3)) C (shX9 G hk_29) (ltX9 hN hk_29) lkX3_128 rfl dX3_heard_272 ?_
    refine go_isub C dX3_heard_275 ?_
    refine go_callV (as := [.int 6, .int a2, .int v4_3, .int ((gI σ 47 9) - (gI σ (30 + 2 * k_29) 3))]) C hR (shX0 G hk_28) (ltX0 hN hk_28) cwX3_124 (Nat.le_trans (by decide) hd) (by decide) rfl rfl (Nat.le_of_ble_eq_true rfl) dX3_heard_276 (spX0_between (Nat.le_refl _) hN hk_28 hw) (fun v_ τ_ hw => ?_)
    obtain ⟨r_30, rfl, hw⟩ := hw
    obtain ⟨σ_31, rfl⟩ : ∃ z, z = τ_ := ⟨_, rfl⟩
    exact go_iret C hr ⟨_, rfl, hw⟩ dX3_heard_279
  replace hw := hw.2 hc6
  by_cases hc7 : a1 = 7
  · replace hw := hw.1 hc7
    refine go_tableIn C 280 (by rw [hc7]; decide) (by rw [hc7]; decide) (by rw [hc7]; rfl) rfl dX3_heard_32 ?_
    refine go_aload_n C 2 rfl rfl dX3_heard_280 ?_
    obtain ⟨k_32, gk_32, hk_32, hw⟩ := hw
    refine go_get (v := .ref (G.2.2.1 (21 + 4 * k_32))) C (shX3 G) (ltX3 hN) lkX3_34 (by show some (va_rf ((gR σ 47 8).map G.2.2.1)) = _; rw [gk_32]; rfl) dX3_heard_281 ?_
    refine go_bipush (v := 6) C rfl dX3_heard_284 ?_
    refine go_iload_n C 4 rfl rfl dX3_heard_286 ?_
    refine go_iload C 0 rfl dX3_heard_287 ?_
    refine go_aload_n C 2 rfl rfl dX3_heard_289 ?_
    refine go_get (v := .int (gI σ 47 9)) C (shX3 G) (ltX3 hN) lkX3_42 rfl dX3_heard_290 ?_
    refine go_callV (as := [.int 6, .int a2, .int v4_3, .int (gI σ 47 9)]) C hR (shX0 G hk_32) (ltX0 hN hk_32) cwX3_124 (Nat.le_trans (by decide) hd) (by decide) rfl rfl (Nat.le_of_ble_eq_true rfl) dX3_heard_293 (spX0_between (Nat.le_refl _) hN hk_32 hw) (fun v_ τ_ hw => ?_)
    obtain ⟨r_33, rfl, hw⟩ := hw
    obtain ⟨σ_34, rfl⟩ : ∃ z, z = τ_ := ⟨_, rfl⟩
    exact go_iret C hr ⟨_, rfl, hw⟩ dX3_heard_296
  replace hw := hw.2 hc7
  by_cases hc8 : a1 = 8
  · replace hw := hw.1 hc8
    refine go_tableIn C 297 (by rw [hc8]; decide) (by rw [hc8]; decide) (by rw [hc8]; rfl) rfl dX3_heard_32 ?_
    refine go_aload_n C 2 rfl rfl dX3_heard_297 ?_
    obtain ⟨k_35, gk_35, hk_35, hw⟩ := hw
    refine go_get (v := .ref (G.2.2.1 (21 + 4 * k_35))) C (shX3 G) (ltX3 hN) lkX3_34 (by show some (va_rf ((gR σ 47 8).map G.2.2.1)) = _; rw [gk_35]; rfl) dX3_heard_298 ?_
    refine go_iload_n C 4 rfl rfl dX3_heard_301 ?_
    refine go_aload_n C 2 rfl rfl dX3_heard_302 ?_
    refine go_get (v := .int (gI σ 47 9)) C (shX3 G) (ltX3 hN) lkX3_42 rfl dX3_heard_303 ?_
    refine go_callV (as := [.int a2, .int (gI σ 47 9)]) C hR (shX0 G hk_35) (ltX0 hN hk_35) cwX3_131 (Nat.le_trans (by decide) hd) (by decide) rfl rfl (Nat.le_of_ble_eq_true rfl) dX3_heard_306 (spX0_since (Nat.le_refl _) hN hk_35 hw) (fun v_ τ_ hw => ?_)
    obtain ⟨r_36, rfl, hw⟩ := hw
    obtain ⟨σ_37, rfl⟩ : ∃ z, z = τ_ := ⟨_, rfl⟩
    exact go_iret C hr ⟨_, rfl, hw⟩ dX3_heard_309
  replace hw := hw.2 hc8
  by_cases hc9 : a1 = 9
  · replace hw := hw.1 hc9
    refine go_tableIn C 310 (by rw [hc9]; decide) (by rw [hc9]; decide) (by rw [hc9]; rfl) rfl dX3_heard_32 ?_
    refine go_aload_n C 2 rfl rfl dX3_heard_310 ?_
    obtain ⟨k_38, gk_38, hk_38, hw⟩ := hw
    refine go_get (v := .ref (G.2.2.1 (21 + 4 * k_38))) C (shX3 G) (ltX3 hN) lkX3_34 (by show some (va_rf ((gR σ 47 8).map G.2.2.1)) = _; rw [gk_38]; rfl) dX3_heard_311 ?_
    refine go_bipush (v := 6) C rfl dX3_heard_314 ?_
    refine go_iload_n C 4 rfl rfl dX3_heard_316 ?_
    refine go_aload_n C 2 rfl rfl dX3_heard_317 ?_
    refine go_get (v := .int (gI σ 47 9)) C (shX3 G) (ltX3 hN) lkX3_42 rfl dX3_heard_318 ?_
    refine go_iconst (v := 1) C rfl dX3_heard_321 ?_
    refine go_isub C dX3_heard_322 ?_
    refine go_aload_n C 2 rfl rfl dX3_heard_323 ?_
    refine go_get (v := .int (gI σ 47 9)) C (shX3 G) (ltX3 hN) lkX3_42 rfl dX3_heard_324 ?_
    refine go_iconst (v := 1) C rfl dX3_heard_327 ?_
    refine go_isub C dX3_heard_328 ?_
    refine go_callV (as := [.int 6, .int a2, .int ((gI σ 47 9) - 1), .int ((gI σ 47 9) - 1)]) C hR (shX0 G hk_38) (ltX0 hN hk_38) cwX3_124 (Nat.le_trans (by decide) hd) (by decide) rfl rfl (Nat.le_of_ble_eq_true rfl) dX3_heard_329 (spX0_between (Nat.le_refl _) hN hk_38 hw) (fun v_ τ_ hw => ?_)
    obtain ⟨r_39, rfl, hw⟩ := hw
    obtain ⟨σ_40, rfl⟩ : ∃ z, z = τ_ := ⟨_, rfl⟩
    refine go_aload_n C 2 rfl rfl dX3_heard_332 ?_
    obtain ⟨k_41, gk_41, hk_41, hw⟩ := hw
    refine go_get (v := .ref (G.2.2.1 (21 + 4 * k_41))) C (shX3 G) (ltX3 hN) lkX3_34 (by show some (va_rf ((gR σ_40 47 8).map G.2.2.1)) = _; rw [gk_41]; rfl) dX3_heard_333 ?_
    refine go_bipush (v := 6) C rfl dX3_heard_336 ?_
    refine go_iload_n C 4 rfl rfl dX3_heard_338 ?_
    refine go_aload_n C 2 rfl rfl dX3_heard_339 ?_
    refine go_get (v := .int (gI σ_40 47 9)) C (shX3 G) (ltX3 hN) lkX3_42 rfl dX3_heard_340 ?_
    refine go_iconst (v := 2) C rfl dX3_heard_343 ?_
    refine go_isub C dX3_heard_344 ?_
    refine go_aload_n C 2 rfl rfl dX3_heard_345 ?_
    refine go_get (v := .int (gI σ_40 47 9)) C (shX3 G) (ltX3 hN) lkX3_42 rfl dX3_heard_346 ?_
    refine go_iconst (v := 2) C rfl dX3_heard_349 ?_
    refine go_isub C dX3_heard_350 ?_
    refine go_callV (as := [.int 6, .int a2, .int ((gI σ_40 47 9) - 2), .int ((gI σ_40 47 9) - 2)]) C hR (shX0 G hk_41) (ltX0 hN hk_41) cwX3_124 (Nat.le_trans (by decide) hd) (by decide) rfl rfl (Nat.le_of_ble_eq_true rfl) dX3_heard_351 (spX0_between (Nat.le_refl _) hN hk_41 hw) (fun v_ τ_ hw => ?_)
    obtain ⟨r_42, rfl, hw⟩ := hw
    obtain ⟨σ_43, rfl⟩ : ∃ z, z = τ_ := ⟨_, rfl⟩
    refine go_isub C dX3_heard_354 ?_
    exact go_iret C hr ⟨_, rfl, hw⟩ dX3_heard_355
  replace hw := hw.2 hc9
  by_cases hc10 : a1 = 10
  · replace hw := hw.1 hc10
    refine go_tableIn C 356 (by rw [hc10]; decide) (by rw [hc10]; decide) (by rw [hc10]; rfl) rfl dX3_heard_32 ?_
    refine go_aload_n C 2 rfl rfl dX3_heard_356 ?_
    refine go_get (v := .int (gI σ 47 7)) C (shX3 G) (ltX3 hN) lkX3_134 rfl dX3_heard_357 ?_
    refine go_if_eq C 367 rfl dX3_heard_360 (fun hc => ?_) (fun hc => ?_)
    · replace hw := hw.1 hc
      refine go_aload_n C 2 rfl rfl dX3_heard_367 ?_
      refine go_iload_n C 4 rfl rfl dX3_heard_368 ?_
      refine go_callV (as := [.int a2]) C hR (shX3 G) (ltX3 hN) cwX3_138 (Nat.le_trans (by decide) hd) (by decide) rfl rfl (Nat.le_of_ble_eq_true rfl) dX3_heard_369 (spX3_heardOfEnding (Nat.le_refl _) hN hw) (fun v_ τ_ hw => ?_)
      obtain ⟨r_44, rfl, hw⟩ := hw
      obtain ⟨σ_45, rfl⟩ : ∃ z, z = τ_ := ⟨_, rfl⟩
      exact go_iret C hr ⟨_, rfl, hw⟩ dX3_heard_372
    · replace hw := hw.2 hc
      refine go_iconst (v := 0) C rfl dX3_heard_363 ?_
      refine go_goto C 372 rfl dX3_heard_364 ?_
      exact go_iret C hr ⟨_, rfl, hw⟩ dX3_heard_372
  replace hw := hw.2 hc10
  by_cases hc11 : a1 = 11
  · replace hw := hw.1 hc11
    refine go_tableIn C 373 (by rw [hc11]; decide) (by rw [hc11]; decide) (by rw [hc11]; rfl) rfl dX3_heard_32 ?_
    refine go_aload_n C 2 rfl rfl dX3_heard_373 ?_
    refine go_get (v := .ref (G.2.2.1 9)) C (shX3 G) (ltX3 hN) lkX3_30 rfl dX3_heard_374 ?_
    refine go_iload_n C 4 rfl rfl dX3_heard_377 ?_
    refine go_aload_n C 2 rfl rfl dX3_heard_378 ?_
    refine go_get (v := .int (gI σ 47 9)) C (shX3 G) (ltX3 hN) lkX3_42 rfl dX3_heard_379 ?_
    refine go_aload_n C 2 rfl rfl dX3_heard_382 ?_
    refine go_get (v := .int (gI σ 47 6)) C (shX3 G) (ltX3 hN) lkX3_22 rfl dX3_heard_383 ?_
    refine go_callV (as := [.int a2, .int (gI σ 47 9), .int (gI σ 47 6)]) C hR (shX4 G) (ltX4 hN) cwX3_141 (Nat.le_trans (by decide) hd) (by decide) rfl rfl (Nat.le_of_ble_eq_true rfl) dX3_heard_386 (spX4_filmOf (Nat.le_refl _) hN hw) (fun v_ τ_ hw => ?_)
    obtain ⟨r_46, rfl, hw⟩ := hw
    obtain ⟨σ_47, rfl⟩ : ∃ z, z = τ_ := ⟨_, rfl⟩
    exact go_iret C hr ⟨_, rfl, hw⟩ dX3_heard_389
  replace hw := hw.2 hc11
  by_cases hc12 : a1 = 12
  · replace hw := hw.1 hc12
    refine go_tableIn C 390 (by rw [hc12]; decide) (by rw [hc12]; decide) (by rw [hc12]; rfl) rfl dX3_heard_32 ?_
    refine go_aload_n C 2 rfl rfl dX3_heard_390 ?_
    refine go_get (v := .ref (G.2.2.1 1)) C (shX3 G) (ltX3 hN) lkX3_26 rfl dX3_heard_391 ?_
    refine go_get (v := .ref (G.2.2.1 3)) C (shX5 G) (ltX5 hN) lkX3_144 rfl dX3_heard_394 ?_
    refine go_iload_n C 4 rfl rfl dX3_heard_397 ?_
    refine go_iald C (saX5_lengths G) (laX5_lengths hN) hw.1 dX3_heard_398 ?_
    replace hw := hw.2
    exact go_iret C hr ⟨_, rfl, hw⟩ dX3_heard_399
  replace hw := hw.2 hc12
  by_cases hc13 : a1 = 13
  · replace hw := hw.1 hc13
    refine go_tableIn C 400 (by rw [hc13]; decide) (by rw [hc13]; decide) (by rw [hc13]; rfl) rfl dX3_heard_32 ?_
    refine go_aload_n C 2 rfl rfl dX3_heard_400 ?_
    refine go_get (v := .int (gI σ 47 9)) C (shX3 G) (ltX3 hN) lkX3_42 rfl dX3_heard_401 ?_
    exact go_iret C hr ⟨_, rfl, hw⟩ dX3_heard_404
  replace hw := hw.2 hc13
  refine go_tableOut C 405 (by have g0 := lv_neT hc0 (show (0 : Int32).toInt = 0 from rfl); have g1 := lv_neT hc1 (show (1 : Int32).toInt = 1 from rfl); have g2 := lv_neT hc2 (show (2 : Int32).toInt = 2 from rfl); have g3 := lv_neT hc3 (show (3 : Int32).toInt = 3 from rfl); have g4 := lv_neT hc4 (show (4 : Int32).toInt = 4 from rfl); have g5 := lv_neT hc5 (show (5 : Int32).toInt = 5 from rfl); have g6 := lv_neT hc6 (show (6 : Int32).toInt = 6 from rfl); have g7 := lv_neT hc7 (show (7 : Int32).toInt = 7 from rfl); have g8 := lv_neT hc8 (show (8 : Int32).toInt = 8 from rfl); have g9 := lv_neT hc9 (show (9 : Int32).toInt = 9 from rfl); have g10 := lv_neT hc10 (show (10 : Int32).toInt = 10 from rfl); have g11 := lv_neT hc11 (show (11 : Int32).toInt = 11 from rfl); have g12 := lv_neT hc12 (show (12 : Int32).toInt = 12 from rfl); have g13 := lv_neT hc13 (show (13 : Int32).toInt = 13 from rfl); omega) rfl dX3_heard_32 ?_
  refine go_iconst (v := 0) C rfl dX3_heard_405 ?_
  exact go_iret C hr ⟨_, rfl, hw⟩ dX3_heard_406
