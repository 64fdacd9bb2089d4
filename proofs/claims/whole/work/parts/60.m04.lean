-- CradleNames$Press.brought(III)I
set_option maxRecDepth 20000 in
set_option maxHeartbeats 4000000 in
theorem spX7_brought {l : Launch} {G : GT} {d : Nat}  (hd : 1 ≤ d)  (hN : 75 ≤ G.2.2.2.2.2)  {a1 : Int32} {a2 : Int32} {a3 : Int32} {σ : St} {post : Int32 → St → Prop} (hw : wpX7_brought  a1 a2 a3 σ post) : Sp l G d yX7_brought cX7_brought 6 (some .int) [.ref (G.2.2.1 64), .int a1, .int a2, .int a3] σ (fun v τ => ∃ r : Int32, v = some (.int r) ∧ post r τ) := by
  refine Sp.of (by decide) (Nat.le_of_ble_eq_true rfl) fun X C hr hR hnl => ?_
  show Go X G 0 [(0, .ref (G.2.2.1 64)), (1, .int a1), (2, .int a2), (3, .int a3)] [] σ
  have hw : vp_in ((((a1 * 61) + a2) * 6) + (a3 / 16)) 2196 ∧ (
  ∀ v4_1 : Int64, v4_1 = (gL σ 69 ((((a1 * 61) + a2) * 6) + (a3 / 16)).toNatClampNeg) →
  post (((v4_1.toUInt64 >>> ((4 * (a3 - a3 / 16 * 16)).toInt64.toUInt64 &&& Int64.toUInt64 63)).toInt64).toInt32 &&& 15) σ) := hw
  refine go_aload_n C 0 rfl rfl dX7_brought_0 ?_
  refine go_get (v := .ref (G.2.2.1 69)) C (shX7 G) (ltX7 hN) lkX7_24 rfl dX7_brought_1 ?_
  refine go_iload_n C 1 rfl rfl dX7_brought_4 ?_
  refine go_bipush (v := 61) C rfl dX7_brought_5 ?_
  refine go_imul C dX7_brought_7 ?_
  refine go_iload_n C 2 rfl rfl dX7_brought_8 ?_
  refine go_iadd C dX7_brought_9 ?_
  refine go_bipush (v := 6) C rfl dX7_brought_10 ?_
  refine go_imul C dX7_brought_12 ?_
  refine go_iload_n C 3 rfl rfl dX7_brought_13 ?_
  refine go_bipush (v := 16) C rfl dX7_brought_14 ?_
  refine go_idiv C (by decide) dX7_brought_16 ?_
  refine go_iadd C dX7_brought_17 ?_
  refine go_lald C (saX7_runs G) (laX7_runs hN) hw.1 dX7_brought_18 ?_
  replace hw := hw.2
  refine go_topl (fun v4_1 ev4_1 => ?_)
  replace hw := hw v4_1 ev4_1
  refine go_lstore (lv2 := [(4, .long v4_1), (0, .ref (G.2.2.1 64)), (1, .int a1), (2, .int a2), (3, .int a3)]) C (by rw [hnl]; decide) rfl dX7_brought_19 ?_
  refine go_lload C 0 rfl dX7_brought_21 ?_
  refine go_iconst (v := 4) C rfl dX7_brought_23 ?_
  refine go_iload_n C 4 rfl rfl dX7_brought_24 ?_
  refine go_bipush (v := 16) C rfl dX7_brought_25 ?_
  refine go_irem C (by decide) dX7_brought_27 ?_
  refine go_imul C dX7_brought_28 ?_
  refine go_lushr C dX7_brought_29 ?_
  refine go_l2i C dX7_brought_30 ?_
  refine go_bipush (v := 15) C rfl dX7_brought_31 ?_
  refine go_iand C dX7_brought_33 ?_
  exact go_iret C hr ⟨_, rfl, hw⟩ dX7_brought_34
-- CradleNames$Press.agreeing(III)I
set_option maxRecDepth 20000 in
set_option maxHeartbeats 4000000 in
theorem gbX7_agreeing_86 {X : XT} {G : GT} {l : Launch} {d : Nat}  {post : Int32 → St → Prop} (C : Cx X G cX7_agreeing RX7) (hr : Rt X G (some .int) (fun v τ => ∃ r : Int32, v = some (.int r) ∧ post r τ)) (hR : Rm X l d) (hnl : X.2.2.2.2.2.2.2.2.2.2.1 = 8)  (hd : 2 ≤ d) (hN : 75 ≤ G.2.2.2.2.2)  {K6 : Int32 → Int32 → Int32 → Int32 → St → Prop} (hK6 : ∀ (v2 : Int32) (v3 : Int32) (v4 : Int32) (v5 : Int32) (σ : St), K6 v2 v3 v4 v5 σ → Go X G 6 [(0, .ref (G.2.2.1 64)), (2, .int v2), (3, .int v3), (4, .int v4), (5, .int v5)] [] σ)
    : ∀ (v2 : Int32) (v3 : Int32) (v4 : Int32) (v5 : Int32) (v6 : Int32) (σ : St), wbX7_agreeing_86  K6 post v2 v3 v4 v5 v6 σ → Go X G 86 [(0, .ref (G.2.2.1 64)), (2, .int v2), (3, .int v3), (4, .int v4), (5, .int v5), (6, .int v6)] [] σ := by
  intro v2 v3 v4 v5 v6 σ hw
  have hw : ((v6 = 0 →
    ∀ v4_1 : Int32, v4_1 = (v4 ||| 0) →
    ∀ v5_2 : Int32, v5_2 = v5 + 1 →
    K6 v2 v3 v4_1 v5_2 σ) ∧
  (¬ v6 = 0 →
    ∀ v4_3 : Int32, v4_3 = (v4 ||| (1 <<< (v5 &&& 31))) →
    ∀ v5_4 : Int32, v5_4 = v5 + 1 →
    K6 v2 v3 v4_3 v5_4 σ)) := hw
  refine go_iload C 3 rfl dX7_agreeing_86 ?_
  refine go_iload C 5 rfl dX7_agreeing_88 ?_
  refine go_if_eq C 100 rfl dX7_agreeing_90 (fun hc => ?_) (fun hc => ?_)
  · replace hw := hw.1 hc
    refine go_iconst (v := 0) C rfl dX7_agreeing_100 ?_
    refine go_ior C dX7_agreeing_101 ?_
    refine go_topi (fun v4_1 ev4_1 => ?_)
    replace hw := hw v4_1 ev4_1
    refine go_istore (lv2 := [(4, .int v4_1), (0, .ref (G.2.2.1 64)), (2, .int v2), (3, .int v3), (5, .int v5), (6, .int v6)]) C (by rw [hnl]; decide) rfl dX7_agreeing_102 ?_
    obtain ⟨v5_2, ev5_2⟩ : ∃ z : Int32, z = v5 + 1 := ⟨_, rfl⟩
    replace hw := hw v5_2 ev5_2
    refine go_iinc (v := v5_2) (lv2 := [(5, .int v5_2), (4, .int v4_1), (0, .ref (G.2.2.1 64)), (2, .int v2), (3, .int v3), (6, .int v6)]) C 4 rfl (by rw [ev5_2]; rfl) (by rw [hnl]; decide) rfl dX7_agreeing_104 ?_
    refine go_goto C 6 rfl dX7_agreeing_107 ?_
    refine go_sub [2, 3, 4, 1, 0] rfl ?_
    exact hK6 _ _ _ _ _ hw
  · replace hw := hw.2 hc
    refine go_iconst (v := 1) C rfl dX7_agreeing_93 ?_
    refine go_iload C 4 rfl dX7_agreeing_94 ?_
    refine go_ishl C dX7_agreeing_96 ?_
    refine go_goto C 101 rfl dX7_agreeing_97 ?_
    refine go_ior C dX7_agreeing_101 ?_
    refine go_topi (fun v4_3 ev4_3 => ?_)
    replace hw := hw v4_3 ev4_3
    refine go_istore (lv2 := [(4, .int v4_3), (0, .ref (G.2.2.1 64)), (2, .int v2), (3, .int v3), (5, .int v5), (6, .int v6)]) C (by rw [hnl]; decide) rfl dX7_agreeing_102 ?_
    obtain ⟨v5_4, ev5_4⟩ : ∃ z : Int32, z = v5 + 1 := ⟨_, rfl⟩
    replace hw := hw v5_4 ev5_4
    refine go_iinc (v := v5_4) (lv2 := [(5, .int v5_4), (4, .int v4_3), (0, .ref (G.2.2.1 64)), (2, .int v2), (3, .int v3), (6, .int v6)]) C 4 rfl (by rw [ev5_4]; rfl) (by rw [hnl]; decide) rfl dX7_agreeing_104 ?_
    refine go_goto C 6 rfl dX7_agreeing_107 ?_
    refine go_sub [2, 3, 4, 1, 0] rfl ?_
    exact hK6 _ _ _ _ _ hw
set_option maxRecDepth 20000 in
set_option maxHeartbeats 4000000 in
theorem gbX7_agreeing_18 {X : XT} {G : GT} {l : Launch} {d : Nat}  {post : Int32 → St → Prop} (C : Cx X G cX7_agreeing RX7) (hr : Rt X G (some .int) (fun v τ => ∃ r : Int32, v = some (.int r) ∧ post r τ)) (hR : Rm X l d) (hnl : X.2.2.2.2.2.2.2.2.2.2.1 = 8)  (hd : 2 ≤ d) (hN : 75 ≤ G.2.2.2.2.2)  {K6 : Int32 → Int32 → Int32 → Int32 → St → Prop} (hK6 : ∀ (v2 : Int32) (v3 : Int32) (v4 : Int32) (v5 : Int32) (σ : St), K6 v2 v3 v4 v5 σ → Go X G 6 [(0, .ref (G.2.2.1 64)), (2, .int v2), (3, .int v3), (4, .int v4), (5, .int v5)] [] σ)
    : ∀ (n : Nat) (v2 : Int32) (v3 : Int32) (v4 : Int32) (v5 : Int32) (v6 : Int32) (v7 : Int32) (σ : St), wbX7_agreeing_18  K6 post n v2 v3 v4 v5 v6 v7 σ → Go X G 18 [(0, .ref (G.2.2.1 64)), (2, .int v2), (3, .int v3), (4, .int v4), (5, .int v5), (6, .int v6), (7, .int v7)] [] σ := by
  intro n
  induction n with
  | zero => intro v2 v3 v4 v5 v6 v7 σ hw; exact hw.elim
  | succ n ih =>
    intro v2 v3 v4 v5 v6 v7 σ hw
    have hw : (((gI σ 64 0) ≤ v7 →
      wbX7_agreeing_86 K6 post v2 v3 v4 v5 v6 σ) ∧
    (¬ (gI σ 64 0) ≤ v7 →
      ((v6 = 0 →
        wbX7_agreeing_86 K6 post v2 v3 v4 v5 v6 σ) ∧
      (¬ v6 = 0 →
        vp_in v7 150 ∧ (
        ((v3 < (gI σ 68 v7.toNatClampNeg) →
          ∀ v7_1 : Int32, v7_1 = v7 + 1 →
          wbX7_agreeing_18 K6 post n v2 v3 v4 v5 1 v7_1 σ) ∧
        (¬ v3 < (gI σ 68 v7.toNatClampNeg) →
          vp_in v7 150 ∧ (
          vp_in v7 150 ∧ (
          wpX7_brought v5 (gI σ 65 v7.toNatClampNeg) (gI σ 66 v7.toNatClampNeg) σ (fun r_2 σ_3 =>
          vp_in v7 150 ∧ (
          ((¬ r_2 = (gI σ_3 67 v7.toNatClampNeg) →
            ∀ v7_4 : Int32, v7_4 = v7 + 1 →
            wbX7_agreeing_18 K6 post n v2 v3 v4 v5 0 v7_4 σ_3) ∧
          (r_2 = (gI σ_3 67 v7.toNatClampNeg) →
            ∀ v7_5 : Int32, v7_5 = v7 + 1 →
            wbX7_agreeing_18 K6 post n v2 v3 v4 v5 1 v7_5 σ_3))))))))))))) := hw
    refine go_iload C 6 rfl dX7_agreeing_18 ?_
    refine go_aload_n C 0 rfl rfl dX7_agreeing_20 ?_
    refine go_get (v := .int (gI σ 64 0)) C (shX7 G) (ltX7 hN) lkX7_28 rfl dX7_agreeing_21 ?_
    refine go_icmp_ge C 86 rfl dX7_agreeing_24 (fun hc => ?_) (fun hc => ?_)
    · replace hw := hw.1 hc
      refine go_sub [0, 1, 2, 3, 4, 5] rfl ?_
      exact (gbX7_agreeing_86 C hr hR hnl hd hN hK6) _ _ _ _ _ _ hw
    · replace hw := hw.2 hc
      refine go_iload C 5 rfl dX7_agreeing_27 ?_
      refine go_if_eq C 86 rfl dX7_agreeing_29 (fun hc => ?_) (fun hc => ?_)
      · replace hw := hw.1 hc
        refine go_sub [0, 1, 2, 3, 4, 5] rfl ?_
        exact (gbX7_agreeing_86 C hr hR hnl hd hN hK6) _ _ _ _ _ _ hw
      · replace hw := hw.2 hc
        refine go_aload_n C 0 rfl rfl dX7_agreeing_32 ?_
        refine go_get (v := .ref (G.2.2.1 68)) C (shX7 G) (ltX7 hN) lkX7_21 rfl dX7_agreeing_33 ?_
        refine go_iload C 6 rfl dX7_agreeing_36 ?_
        refine go_iald C (saX7_toldAt G) (laX7_toldAt hN) hw.1 dX7_agreeing_38 ?_
        replace hw := hw.2
        refine go_iload_n C 2 rfl rfl dX7_agreeing_39 ?_
        refine go_icmp_gt C 73 rfl dX7_agreeing_40 (fun hc => ?_) (fun hc => ?_)
        · replace hw := hw.1 hc
          refine go_iconst (v := 1) C rfl dX7_agreeing_73 ?_
          refine go_goto C 78 rfl dX7_agreeing_74 ?_
          refine go_istore (lv2 := [(6, .int 1), (0, .ref (G.2.2.1 64)), (2, .int v2), (3, .int v3), (4, .int v4), (5, .int v5), (7, .int v7)]) C (by rw [hnl]; decide) rfl dX7_agreeing_78 ?_
          obtain ⟨v7_1, ev7_1⟩ : ∃ z : Int32, z = v7 + 1 := ⟨_, rfl⟩
          replace hw := hw v7_1 ev7_1
          refine go_iinc (v := v7_1) (lv2 := [(7, .int v7_1), (6, .int 1), (0, .ref (G.2.2.1 64)), (2, .int v2), (3, .int v3), (4, .int v4), (5, .int v5)]) C 6 rfl (by rw [ev7_1]; rfl) (by rw [hnl]; decide) rfl dX7_agreeing_80 ?_
          refine go_goto C 18 rfl dX7_agreeing_83 ?_
          refine go_sub [2, 3, 4, 5, 6, 1, 0] rfl ?_
          exact ih _ _ _ _ _ _ _ hw
        · replace hw := hw.2 hc
          refine go_aload_n C 0 rfl rfl dX7_agreeing_43 ?_
          refine go_iload C 4 rfl dX7_agreeing_44 ?_
          refine go_aload_n C 0 rfl rfl dX7_agreeing_46 ?_
          refine go_get (v := .ref (G.2.2.1 65)) C (shX7 G) (ltX7 hN) lkX7_9 rfl dX7_agreeing_47 ?_
          refine go_iload C 6 rfl dX7_agreeing_50 ?_
          refine go_iald C (saX7_ofYear G) (laX7_ofYear hN) hw.1 dX7_agreeing_52 ?_
          replace hw := hw.2
          refine go_aload_n C 0 rfl rfl dX7_agreeing_53 ?_
          refine go_get (v := .ref (G.2.2.1 66)) C (shX7 G) (ltX7 hN) lkX7_15 rfl dX7_agreeing_54 ?_
          refine go_iload C 6 rfl dX7_agreeing_57 ?_
          refine go_iald C (saX7_ofSpot G) (laX7_ofSpot hN) hw.1 dX7_agreeing_59 ?_
          replace hw := hw.2
          refine go_callV (as := [.int v5, .int (gI σ 65 v7.toNatClampNeg), .int (gI σ 66 v7.toNatClampNeg)]) C hR (shX7 G) (ltX7 hN) cwX7_46 (Nat.le_trans (by decide) hd) (by decide) rfl rfl (Nat.le_of_ble_eq_true rfl) dX7_agreeing_60 (spX7_brought (Nat.le_refl _) hN hw) (fun v_ τ_ hw => ?_)
          obtain ⟨r_2, rfl, hw⟩ := hw
          obtain ⟨σ_3, rfl⟩ : ∃ z, z = τ_ := ⟨_, rfl⟩
          refine go_aload_n C 0 rfl rfl dX7_agreeing_63 ?_
          refine go_get (v := .ref (G.2.2.1 67)) C (shX7 G) (ltX7 hN) lkX7_18 rfl dX7_agreeing_64 ?_
          refine go_iload C 6 rfl dX7_agreeing_67 ?_
          refine go_iald C (saX7_numbers G) (laX7_numbers hN) hw.1 dX7_agreeing_69 ?_
          replace hw := hw.2
          refine go_icmp_ne C 77 rfl dX7_agreeing_70 (fun hc => ?_) (fun hc => ?_)
          · replace hw := hw.1 hc
            refine go_iconst (v := 0) C rfl dX7_agreeing_77 ?_
            refine go_istore (lv2 := [(6, .int 0), (0, .ref (G.2.2.1 64)), (2, .int v2), (3, .int v3), (4, .int v4), (5, .int v5), (7, .int v7)]) C (by rw [hnl]; decide) rfl dX7_agreeing_78 ?_
            obtain ⟨v7_4, ev7_4⟩ : ∃ z : Int32, z = v7 + 1 := ⟨_, rfl⟩
            replace hw := hw v7_4 ev7_4
            refine go_iinc (v := v7_4) (lv2 := [(7, .int v7_4), (6, .int 0), (0, .ref (G.2.2.1 64)), (2, .int v2), (3, .int v3), (4, .int v4), (5, .int v5)]) C 6 rfl (by rw [ev7_4]; rfl) (by rw [hnl]; decide) rfl dX7_agreeing_80 ?_
            refine go_goto C 18 rfl dX7_agreeing_83 ?_
            refine go_sub [2, 3, 4, 5, 6, 1, 0] rfl ?_
            exact ih _ _ _ _ _ _ _ hw
          · replace hw := hw.2 hc
            refine go_iconst (v := 1) C rfl dX7_agreeing_73 ?_
            refine go_goto C 78 rfl dX7_agreeing_74 ?_
            refine go_istore (lv2 := [(6, .int 1), (0, .ref (G.2.2.1 64)), (2, .int v2), (3, .int v3), (4, .int v4), (5, .int v5), (7, .int v7)]) C (by rw [hnl]; decide) rfl dX7_agreeing_78 ?_
            obtain ⟨v7_5, ev7_5⟩ : ∃ z : Int32, z = v7 + 1 := ⟨_, rfl⟩
            replace hw := hw v7_5 ev7_5
            refine go_iinc (v := v7_5) (lv2 := [(7, .int v7_5), (6, .int 1), (0, .ref (G.2.2.1 64)), (2, .int v2), (3, .int v3), (4, .int v4), (5, .int v5)]) C 6 rfl (by rw [ev7_5]; rfl) (by rw [hnl]; decide) rfl dX7_agreeing_80 ?_
            refine go_goto C 18 rfl dX7_agreeing_83 ?_
            refine go_sub [2, 3, 4, 5, 6, 1, 0] rfl ?_
            exact ih _ _ _ _ _ _ _ hw
set_option maxRecDepth 20000 in
set_option maxHeartbeats 4000000 in
theorem gbX7_agreeing_6 {X : XT} {G : GT} {l : Launch} {d : Nat}  {post : Int32 → St → Prop} (C : Cx X G cX7_agreeing RX7) (hr : Rt X G (some .int) (fun v τ => ∃ r : Int32, v = some (.int r) ∧ post r τ)) (hR : Rm X l d) (hnl : X.2.2.2.2.2.2.2.2.2.2.1 = 8)  (hd : 2 ≤ d) (hN : 75 ≤ G.2.2.2.2.2)   
    : ∀ (n : Nat) (v2 : Int32) (v3 : Int32) (v4 : Int32) (v5 : Int32) (σ : St), wbX7_agreeing_6   post n v2 v3 v4 v5 σ → Go X G 6 [(0, .ref (G.2.2.1 64)), (2, .int v2), (3, .int v3), (4, .int v4), (5, .int v5)] [] σ := by
  intro n
  induction n with
  | zero => intro v2 v3 v4 v5 σ hw; exact hw.elim
  | succ n ih =>
    intro v2 v3 v4 v5 σ hw
    have hw : ((v2 < v5 →
      post v4 σ) ∧
    (¬ v2 < v5 →
      ∃ m_18, wbX7_agreeing_18 (wbX7_agreeing_6 post n) post m_18 v2 v3 v4 v5 1 0 σ)) := hw
    refine go_iload C 4 rfl dX7_agreeing_6 ?_
    refine go_iload_n C 1 rfl rfl dX7_agreeing_8 ?_
    refine go_icmp_gt C 110 rfl dX7_agreeing_9 (fun hc => ?_) (fun hc => ?_)
    · replace hw := hw.1 hc
      refine go_iload C 3 rfl dX7_agreeing_110 ?_
      exact go_iret C hr ⟨_, rfl, hw⟩ dX7_agreeing_112
    · replace hw := hw.2 hc
      refine go_iconst (v := 1) C rfl dX7_agreeing_12 ?_
      refine go_istore (lv2 := [(6, .int 1), (0, .ref (G.2.2.1 64)), (2, .int v2), (3, .int v3), (4, .int v4), (5, .int v5)]) C (by rw [hnl]; decide) rfl dX7_agreeing_13 ?_
      refine go_iconst (v := 0) C rfl dX7_agreeing_15 ?_
      refine go_istore (lv2 := [(7, .int 0), (6, .int 1), (0, .ref (G.2.2.1 64)), (2, .int v2), (3, .int v3), (4, .int v4), (5, .int v5)]) C (by rw [hnl]; decide) rfl dX7_agreeing_16 ?_
      refine go_sub [2, 3, 4, 5, 6, 1, 0] rfl ?_
      obtain ⟨n_0, hw⟩ := hw
      exact (gbX7_agreeing_18 C hr hR hnl hd hN ih) n_0 _ _ _ _ _ _ _ hw
set_option maxRecDepth 20000 in
set_option maxHeartbeats 4000000 in
theorem spX7_agreeing {l : Launch} {G : GT} {d : Nat}  (hd : 2 ≤ d)  (hN : 75 ≤ G.2.2.2.2.2)  {a1 : Int32} {a2 : Int32} {a3 : Int32} {σ : St} {post : Int32 → St → Prop} (hw : wpX7_agreeing  a1 a2 a3 σ post) : Sp l G d yX7_agreeing cX7_agreeing 8 (some .int) [.ref (G.2.2.1 64), .int a1, .int a2, .int a3] σ (fun v τ => ∃ r : Int32, v = some (.int r) ∧ post r τ) := by
  refine Sp.of (by decide) (Nat.le_of_ble_eq_true rfl) fun X C hr hR hnl => ?_
  show Go X G 0 [(0, .ref (G.2.2.1 64)), (1, .int a1), (2, .int a2), (3, .int a3)] [] σ
  have hw : ∃ m_6, wbX7_agreeing_6 post m_6 a2 a3 0 a1 σ := hw
  refine go_iconst (v := 0) C rfl dX7_agreeing_0 ?_
  refine go_istore (lv2 := [(4, .int 0), (0, .ref (G.2.2.1 64)), (1, .int a1), (2, .int a2), (3, .int a3)]) C (by rw [hnl]; decide) rfl dX7_agreeing_1 ?_
  refine go_iload_n C 2 rfl rfl dX7_agreeing_3 ?_
  refine go_istore (lv2 := [(5, .int a1), (4, .int 0), (0, .ref (G.2.2.1 64)), (1, .int a1), (2, .int a2), (3, .int a3)]) C (by rw [hnl]; decide) rfl dX7_agreeing_4 ?_
  refine go_sub [2, 4, 5, 1, 0] rfl ?_
  obtain ⟨n_0, hw⟩ := hw
  exact (gbX7_agreeing_6 C hr hR hnl hd hN) n_0 _ _ _ _ _ hw
-- CradleNames$Press.bound(IIIZ)I
set_option maxRecDepth 20000 in
set_option maxHeartbeats 4000000 in
theorem gbX7_bound_6 {X : XT} {G : GT} {l : Launch} {d : Nat}  {post : Int32 → St → Prop} (C : Cx X G cX7_bound RX7) (hr : Rt X G (some .int) (fun v τ => ∃ r : Int32, v = some (.int r) ∧ post r τ)) (hR : Rm X l d) (hnl : X.2.2.2.2.2.2.2.2.2.2.1 = 8)  (hd : 2 ≤ d) (hN : 75 ≤ G.2.2.2.2.2)   
    : ∀ (n : Nat) (v1 : Int32) (v2 : Int32) (v3 : Int32) (v4 : Int32) (v5 : Int32) (v6 : Int32) (σ : St), wbX7_bound_6   post n v1 v2 v3 v4 v5 v6 σ → Go X G 6 [(0, .ref (G.2.2.1 64)), (1, .int v1), (2, .int v2), (3, .int v3), (4, .int v4), (5, .int v5), (6, .int v6)] [] σ := by
  intro n
  induction n with
  | zero => intro v1 v2 v3 v4 v5 v6 σ hw; exact hw.elim
  | succ n ih =>
    intro v1 v2 v3 v4 v5 v6 σ hw
    have hw : ((6 ≤ v6 →
      post v5 σ) ∧
    (¬ 6 ≤ v6 →
      ((¬ ((v1 >>> (v6 &&& 31)) &&& 1) = 1 →
        ∀ v6_1 : Int32, v6_1 = v6 + 1 →
        wbX7_bound_6 post n v1 v2 v3 v4 v5 v6_1 σ) ∧
      (((v1 >>> (v6 &&& 31)) &&& 1) = 1 →
        wpX7_brought v6 v2 v3 σ (fun r_2 σ_3 =>
        ((v5 = (-1) →
          ∀ v6_4 : Int32, v6_4 = v6 + 1 →
          wbX7_bound_6 post n v1 v2 v3 v4 r_2 v6_4 σ_3) ∧
        (¬ v5 = (-1) →
          ((v4 = 0 →
            ((v5 ≤ r_2 →
              ∀ v6_5 : Int32, v6_5 = v6 + 1 →
              wbX7_bound_6 post n v1 v2 v3 v4 v5 v6_5 σ_3) ∧
            (¬ v5 ≤ r_2 →
              ∀ v6_6 : Int32, v6_6 = v6 + 1 →
              wbX7_bound_6 post n v1 v2 v3 v4 r_2 v6_6 σ_3))) ∧
          (¬ v4 = 0 →
            ((r_2 ≤ v5 →
              ∀ v6_7 : Int32, v6_7 = v6 + 1 →
              wbX7_bound_6 post n v1 v2 v3 v4 v5 v6_7 σ_3) ∧
            (¬ r_2 ≤ v5 →
              ∀ v6_8 : Int32, v6_8 = v6 + 1 →
              wbX7_bound_6 post n v1 v2 v3 v4 r_2 v6_8 σ_3))))))))))) := hw
    refine go_iload C 6 rfl dX7_bound_6 ?_
    refine go_bipush (v := 6) C rfl dX7_bound_8 ?_
    refine go_icmp_ge C 71 rfl dX7_bound_10 (fun hc => ?_) (fun hc => ?_)
    · replace hw := hw.1 hc
      refine go_iload C 5 rfl dX7_bound_71 ?_
      exact go_iret C hr ⟨_, rfl, hw⟩ dX7_bound_73
    · replace hw := hw.2 hc
      refine go_iload_n C 1 rfl rfl dX7_bound_13 ?_
      refine go_iload C 6 rfl dX7_bound_14 ?_
      refine go_ishr C dX7_bound_16 ?_
      refine go_iconst (v := 1) C rfl dX7_bound_17 ?_
      refine go_iand C dX7_bound_18 ?_
      refine go_iconst (v := 1) C rfl dX7_bound_19 ?_
      refine go_icmp_ne C 65 rfl dX7_bound_20 (fun hc => ?_) (fun hc => ?_)
      · replace hw := hw.1 hc
        obtain ⟨v6_1, ev6_1⟩ : ∃ z : Int32, z = v6 + 1 := ⟨_, rfl⟩
        replace hw := hw v6_1 ev6_1
        refine go_iinc (v := v6_1) (lv2 := [(6, .int v6_1), (0, .ref (G.2.2.1 64)), (1, .int v1), (2, .int v2), (3, .int v3), (4, .int v4), (5, .int v5)]) C 6 rfl (by rw [ev6_1]; rfl) (by rw [hnl]; decide) rfl dX7_bound_65 ?_
        refine go_goto C 6 rfl dX7_bound_68 ?_
        refine go_sub [1, 2, 3, 4, 5, 6, 0] rfl ?_
        exact ih _ _ _ _ _ _ _ hw
      · replace hw := hw.2 hc
        refine go_aload_n C 0 rfl rfl dX7_bound_23 ?_
        refine go_iload C 6 rfl dX7_bound_24 ?_
        refine go_iload_n C 2 rfl rfl dX7_bound_26 ?_
        refine go_iload_n C 3 rfl rfl dX7_bound_27 ?_
        refine go_callV (as := [.int v6, .int v2, .int v3]) C hR (shX7 G) (ltX7 hN) cwX7_46 (Nat.le_trans (by decide) hd) (by decide) rfl rfl (Nat.le_of_ble_eq_true rfl) dX7_bound_28 (spX7_brought (Nat.le_refl _) hN hw) (fun v_ τ_ hw => ?_)
        obtain ⟨r_2, rfl, hw⟩ := hw
        obtain ⟨σ_3, rfl⟩ : ∃ z, z = τ_ := ⟨_, rfl⟩
        refine go_istore (lv2 := [(7, .int r_2), (0, .ref (G.2.2.1 64)), (1, .int v1), (2, .int v2), (3, .int v3), (4, .int v4), (5, .int v5), (6, .int v6)]) C (by rw [hnl]; decide) rfl dX7_bound_31 ?_
        refine go_iload C 6 rfl dX7_bound_33 ?_
        refine go_iconst (v := (-1)) C rfl dX7_bound_35 ?_
        refine go_icmp_eq C 61 rfl dX7_bound_36 (fun hc => ?_) (fun hc => ?_)
        · replace hw := hw.1 hc
          refine go_iload C 0 rfl dX7_bound_61 ?_
          refine go_istore (lv2 := [(5, .int r_2), (7, .int r_2), (0, .ref (G.2.2.1 64)), (1, .int v1), (2, .int v2), (3, .int v3), (4, .int v4), (6, .int v6)]) C (by rw [hnl]; decide) rfl dX7_bound_63 ?_
          obtain ⟨v6_4, ev6_4⟩ : ∃ z : Int32, z = v6 + 1 := ⟨_, rfl⟩
          replace hw := hw v6_4 ev6_4
          refine go_iinc (v := v6_4) (lv2 := [(6, .int v6_4), (5, .int r_2), (7, .int r_2), (0, .ref (G.2.2.1 64)), (1, .int v1), (2, .int v2), (3, .int v3), (4, .int v4)]) C 7 rfl (by rw [ev6_4]; rfl) (by rw [hnl]; decide) rfl dX7_bound_65 ?_
          refine go_goto C 6 rfl dX7_bound_68 ?_
          refine go_sub [3, 4, 5, 6, 7, 1, 0] rfl ?_
          exact ih _ _ _ _ _ _ _ hw
        · replace hw := hw.2 hc
          refine go_iload C 5 rfl dX7_bound_39 ?_
          refine go_if_eq C 54 rfl dX7_bound_41 (fun hc => ?_) (fun hc => ?_)
          · replace hw := hw.1 hc
            refine go_iload C 0 rfl dX7_bound_54 ?_
            refine go_iload C 6 rfl dX7_bound_56 ?_
            refine go_icmp_ge C 65 rfl dX7_bound_58 (fun hc => ?_) (fun hc => ?_)
            · replace hw := hw.1 hc
              obtain ⟨v6_5, ev6_5⟩ : ∃ z : Int32, z = v6 + 1 := ⟨_, rfl⟩
              replace hw := hw v6_5 ev6_5
              refine go_iinc (v := v6_5) (lv2 := [(6, .int v6_5), (7, .int r_2), (0, .ref (G.2.2.1 64)), (1, .int v1), (2, .int v2), (3, .int v3), (4, .int v4), (5, .int v5)]) C 7 rfl (by rw [ev6_5]; rfl) (by rw [hnl]; decide) rfl dX7_bound_65 ?_
              refine go_goto C 6 rfl dX7_bound_68 ?_
              refine go_sub [2, 3, 4, 5, 6, 7, 0] rfl ?_
              exact ih _ _ _ _ _ _ _ hw
            · replace hw := hw.2 hc
              refine go_iload C 0 rfl dX7_bound_61 ?_
              refine go_istore (lv2 := [(5, .int r_2), (7, .int r_2), (0, .ref (G.2.2.1 64)), (1, .int v1), (2, .int v2), (3, .int v3), (4, .int v4), (6, .int v6)]) C (by rw [hnl]; decide) rfl dX7_bound_63 ?_
              obtain ⟨v6_6, ev6_6⟩ : ∃ z : Int32, z = v6 + 1 := ⟨_, rfl⟩
              replace hw := hw v6_6 ev6_6
              refine go_iinc (v := v6_6) (lv2 := [(6, .int v6_6), (5, .int r_2), (7, .int r_2), (0, .ref (G.2.2.1 64)), (1, .int v1), (2, .int v2), (3, .int v3), (4, .int v4)]) C 7 rfl (by rw [ev6_6]; rfl) (by rw [hnl]; decide) rfl dX7_bound_65 ?_
              refine go_goto C 6 rfl dX7_bound_68 ?_
              refine go_sub [3, 4, 5, 6, 7, 1, 0] rfl ?_
              exact ih _ _ _ _ _ _ _ hw
          · replace hw := hw.2 hc
            refine go_iload C 0 rfl dX7_bound_44 ?_
            refine go_iload C 6 rfl dX7_bound_46 ?_
            refine go_icmp_le C 65 rfl dX7_bound_48 (fun hc => ?_) (fun hc => ?_)
            · replace hw := hw.1 hc
              obtain ⟨v6_7, ev6_7⟩ : ∃ z : Int32, z = v6 + 1 := ⟨_, rfl⟩
              replace hw := hw v6_7 ev6_7
              refine go_iinc (v := v6_7) (lv2 := [(6, .int v6_7), (7, .int r_2), (0, .ref (G.2.2.1 64)), (1, .int v1), (2, .int v2), (3, .int v3), (4, .int v4), (5, .int v5)]) C 7 rfl (by rw [ev6_7]; rfl) (by rw [hnl]; decide) rfl dX7_bound_65 ?_
              refine go_goto C 6 rfl dX7_bound_68 ?_
              refine go_sub [2, 3, 4, 5, 6, 7, 0] rfl ?_
              exact ih _ _ _ _ _ _ _ hw
            · replace hw := hw.2 hc
              refine go_goto C 61 rfl dX7_bound_51 ?_
              refine go_iload C 0 rfl dX7_bound_61 ?_
              refine go_istore (lv2 := [(5, .int r_2), (7, .int r_2), (0, .ref (G.2.2.1 64)), (1, .int v1), (2, .int v2), (3, .int v3), (4, .int v4), (6, .int v6)]) C (by rw [hnl]; decide) rfl dX7_bound_63 ?_
              obtain ⟨v6_8, ev6_8⟩ : ∃ z : Int32, z = v6 + 1 := ⟨_, rfl⟩
              replace hw := hw v6_8 ev6_8
              refine go_iinc (v := v6_8) (lv2 := [(6, .int v6_8), (5, .int r_2), (7, .int r_2), (0, .ref (G.2.2.1 64)), (1, .int v1), (2, .int v2), (3, .int v3), (4, .int v4)]) C 7 rfl (by rw [ev6_8]; rfl) (by rw [hnl]; decide) rfl dX7_bound_65 ?_
              refine go_goto C 6 rfl dX7_bound_68 ?_
              refine go_sub [3, 4, 5, 6, 7, 1, 0] rfl ?_
              exact ih _ _ _ _ _ _ _ hw
set_option maxRecDepth 20000 in
set_option maxHeartbeats 4000000 in
theorem spX7_bound {l : Launch} {G : GT} {d : Nat}  (hd : 2 ≤ d)  (hN : 75 ≤ G.2.2.2.2.2)  {a1 : Int32} {a2 : Int32} {a3 : Int32} {a4 : Int32} {σ : St} {post : Int32 → St → Prop} (hw : wpX7_bound  a1 a2 a3 a4 σ post) : Sp l G d yX7_bound cX7_bound 8 (some .int) [.ref (G.2.2.1 64), .int a1, .int a2, .int a3, .int a4] σ (fun v τ => ∃ r : Int32, v = some (.int r) ∧ post r τ) := by
  refine Sp.of (by decide) (Nat.le_of_ble_eq_true rfl) fun X C hr hR hnl => ?_
  show Go X G 0 [(0, .ref (G.2.2.1 64)), (1, .int a1), (2, .int a2), (3, .int a3), (4, .int a4)] [] σ
  have hw : ∃ m_6, wbX7_bound_6 post m_6 a1 a2 a3 a4 (-1) 0 σ := hw
  refine go_iconst (v := (-1)) C rfl dX7_bound_0 ?_
  refine go_istore (lv2 := [(5, .int (-1)), (0, .ref (G.2.2.1 64)), (1, .int a1), (2, .int a2), (3, .int a3), (4, .int a4)]) C (by rw [hnl]; decide) rfl dX7_bound_1 ?_
  refine go_iconst (v := 0) C rfl dX7_bound_3 ?_
  refine go_istore (lv2 := [(6, .int 0), (5, .int (-1)), (0, .ref (G.2.2.1 64)), (1, .int a1), (2, .int a2), (3, .int a3), (4, .int a4)]) C (by rw [hnl]; decide) rfl dX7_bound_4 ?_
  refine go_sub [2, 3, 4, 5, 6, 1, 0] rfl ?_
  obtain ⟨n_0, hw⟩ := hw
  exact (gbX7_bound_6 C hr hR hnl hd hN) n_0 _ _ _ _ _ _ _ hw
-- CradleNames$Press.width(III)I
set_option maxRecDepth 20000 in
set_option maxHeartbeats 4000000 in
theorem spX7_width {l : Launch} {G : GT} {d : Nat}  (hd : 3 ≤ d)  (hN : 75 ≤ G.2.2.2.2.2)  {a1 : Int32} {a2 : Int32} {a3 : Int32} {σ : St} {post : Int32 → St → Prop} (hw : wpX7_width  a1 a2 a3 σ post) : Sp l G d yX7_width cX7_width 4 (some .int) [.ref (G.2.2.1 64), .int a1, .int a2, .int a3] σ (fun v τ => ∃ r : Int32, v = some (.int r) ∧ post r τ) := by
  refine Sp.of (by decide) (Nat.le_of_ble_eq_true rfl) fun X C hr hR hnl => ?_
  show Go X G 0 [(0, .ref (G.2.2.1 64)), (1, .int a1), (2, .int a2), (3, .int a3)] [] σ
  have hw : wpX7_bound a1 a2 a3 1 σ (fun r_1 σ_2 =>
  wpX7_bound a1 a2 a3 0 σ_2 (fun r_3 σ_4 =>
  post (r_1 - r_3) σ_4)) := hw
  refine go_aload_n C 0 rfl rfl dX7_width_0 ?_
  refine go_iload_n C 1 rfl rfl dX7_width_1 ?_
  refine go_iload_n C 2 rfl rfl dX7_width_2 ?_
  refine go_iload_n C 3 rfl rfl dX7_width_3 ?_
  refine go_iconst (v := 1) C rfl dX7_width_4 ?_
  refine go_callV (as := [.int a1, .int a2, .int a3, .int 1]) C hR (shX7 G) (ltX7 hN) cwX7_49 (Nat.le_trans (by decide) hd) (by decide) rfl rfl (Nat.le_of_ble_eq_true rfl) dX7_width_5 (spX7_bound (Nat.le_refl _) hN hw) (fun v_ τ_ hw => ?_)
  obtain ⟨r_1, rfl, hw⟩ := hw
  obtain ⟨σ_2, rfl⟩ : ∃ z, z = τ_ := ⟨_, rfl⟩
  refine go_aload_n C 0 rfl rfl dX7_width_8 ?_
  refine go_iload_n C 1 rfl rfl dX7_width_9 ?_
  refine go_iload_n C 2 rfl rfl dX7_width_10 ?_
  refine go_iload_n C 3 rfl rfl dX7_width_11 ?_
  refine go_iconst (v := 0) C rfl dX7_width_12 ?_
  refine go_callV (as := [.int a1, .int a2, .int a3, .int 0]) C hR (shX7 G) (ltX7 hN) cwX7_49 (Nat.le_trans (by decide) hd) (by decide) rfl rfl (Nat.le_of_ble_eq_true rfl) dX7_width_13 (spX7_bound (Nat.le_refl _) hN hw) (fun v_ τ_ hw => ?_)
  obtain ⟨r_3, rfl, hw⟩ := hw
  obtain ⟨σ_4, rfl⟩ : ∃ z, z = τ_ := ⟨_, rfl⟩
  refine go_isub C dX7_width_16 ?_
  exact go_iret C hr ⟨_, rfl, hw⟩ dX7_width_17
-- CradleNames$Press.widestSpot(II)I
set_option maxRecDepth 20000 in
set_option maxHeartbeats 4000000 in
theorem gbX7_widestSpot_8 {X : XT} {G : GT} {l : Launch} {d : Nat}  {post : Int32 → St → Prop} (C : Cx X G cX7_widestSpot RX7) (hr : Rt X G (some .int) (fun v τ => ∃ r : Int32, v = some (.int r) ∧ post r τ)) (hR : Rm X l d) (hnl : X.2.2.2.2.2.2.2.2.2.2.1 = 7)  (hd : 4 ≤ d) (hN : 75 ≤ G.2.2.2.2.2)   
    : ∀ (n : Nat) (v1 : Int32) (v2 : Int32) (v3 : Int32) (v4 : Int32) (v5 : Int32) (σ : St), wbX7_widestSpot_8   post n v1 v2 v3 v4 v5 σ → Go X G 8 [(0, .ref (G.2.2.1 64)), (1, .int v1), (2, .int v2), (3, .int v3), (4, .int v4), (5, .int v5)] [] σ := by
  intro n
  induction n with
  | zero => intro v1 v2 v3 v4 v5 σ hw; exact hw.elim
  | succ n ih =>
    intro v1 v2 v3 v4 v5 σ hw
    have hw : ((96 ≤ v5 →
      post v3 σ) ∧
    (¬ 96 ≤ v5 →
      wpX7_width v1 v2 v5 σ (fun r_1 σ_2 =>
      ((r_1 ≤ v4 →
        ∀ v5_3 : Int32, v5_3 = v5 + 1 →
        wbX7_widestSpot_8 post n v1 v2 v3 v4 v5_3 σ_2) ∧
      (¬ r_1 ≤ v4 →
        ∀ v5_4 : Int32, v5_4 = v5 + 1 →
        wbX7_widestSpot_8 post n v1 v2 v5 r_1 v5_4 σ_2))))) := hw
    refine go_iload C 5 rfl dX7_widestSpot_8 ?_
    refine go_bipush (v := 96) C rfl dX7_widestSpot_10 ?_
    refine go_icmp_ge C 45 rfl dX7_widestSpot_12 (fun hc => ?_) (fun hc => ?_)
    · replace hw := hw.1 hc
      refine go_iload_n C 3 rfl rfl dX7_widestSpot_45 ?_
      exact go_iret C hr ⟨_, rfl, hw⟩ dX7_widestSpot_46
    · replace hw := hw.2 hc
      refine go_aload_n C 0 rfl rfl dX7_widestSpot_15 ?_
      refine go_iload_n C 1 rfl rfl dX7_widestSpot_16 ?_
      refine go_iload_n C 2 rfl rfl dX7_widestSpot_17 ?_
      refine go_iload C 5 rfl dX7_widestSpot_18 ?_
      refine go_callV (as := [.int v1, .int v2, .int v5]) C hR (shX7 G) (ltX7 hN) cwX7_53 (Nat.le_trans (by decide) hd) (by decide) rfl rfl (Nat.le_of_ble_eq_true rfl) dX7_widestSpot_20 (spX7_width (Nat.le_refl _) hN hw) (fun v_ τ_ hw => ?_)
      obtain ⟨r_1, rfl, hw⟩ := hw
      obtain ⟨σ_2, rfl⟩ : ∃ z, z = τ_ := ⟨_, rfl⟩
      refine go_istore (lv2 := [(6, .int r_1), (0, .ref (G.2.2.1 64)), (1, .int v1), (2, .int v2), (3, .int v3), (4, .int v4), (5, .int v5)]) C (by rw [hnl]; decide) rfl dX7_widestSpot_23 ?_
      refine go_iload C 0 rfl dX7_widestSpot_25 ?_
      refine go_iload C 5 rfl dX7_widestSpot_27 ?_
      refine go_icmp_le C 39 rfl dX7_widestSpot_29 (fun hc => ?_) (fun hc => ?_)
      · replace hw := hw.1 hc
        obtain ⟨v5_3, ev5_3⟩ : ∃ z : Int32, z = v5 + 1 := ⟨_, rfl⟩
        replace hw := hw v5_3 ev5_3
        refine go_iinc (v := v5_3) (lv2 := [(5, .int v5_3), (6, .int r_1), (0, .ref (G.2.2.1 64)), (1, .int v1), (2, .int v2), (3, .int v3), (4, .int v4)]) C 6 rfl (by rw [ev5_3]; rfl) (by rw [hnl]; decide) rfl dX7_widestSpot_39 ?_
        refine go_goto C 8 rfl dX7_widestSpot_42 ?_
        refine go_sub [2, 3, 4, 5, 6, 0] rfl ?_
        exact ih _ _ _ _ _ _ hw
      · replace hw := hw.2 hc
        refine go_iload C 6 rfl dX7_widestSpot_32 ?_
        refine go_istore_n (lv2 := [(3, .int v5), (6, .int r_1), (0, .ref (G.2.2.1 64)), (1, .int v1), (2, .int v2), (4, .int v4), (5, .int v5)]) C rfl (by rw [hnl]; decide) rfl dX7_widestSpot_34 ?_
        refine go_iload C 1 rfl dX7_widestSpot_35 ?_
        refine go_istore (lv2 := [(4, .int r_1), (3, .int v5), (6, .int r_1), (0, .ref (G.2.2.1 64)), (1, .int v1), (2, .int v2), (5, .int v5)]) C (by rw [hnl]; decide) rfl dX7_widestSpot_37 ?_
        obtain ⟨v5_4, ev5_4⟩ : ∃ z : Int32, z = v5 + 1 := ⟨_, rfl⟩
        replace hw := hw v5_4 ev5_4
        refine go_iinc (v := v5_4) (lv2 := [(5, .int v5_4), (4, .int r_1), (3, .int v5), (6, .int r_1), (0, .ref (G.2.2.1 64)), (1, .int v1), (2, .int v2)]) C 6 rfl (by rw [ev5_4]; rfl) (by rw [hnl]; decide) rfl dX7_widestSpot_39 ?_
        refine go_goto C 8 rfl dX7_widestSpot_42 ?_
        refine go_sub [4, 5, 6, 2, 1, 0] rfl ?_
        exact ih _ _ _ _ _ _ hw
set_option maxRecDepth 20000 in
set_option maxHeartbeats 4000000 in
theorem spX7_widestSpot {l : Launch} {G : GT} {d : Nat}  (hd : 4 ≤ d)  (hN : 75 ≤ G.2.2.2.2.2)  {a1 : Int32} {a2 : Int32} {σ : St} {post : Int32 → St → Prop} (hw : wpX7_widestSpot  a1 a2 σ post) : Sp l G d yX7_widestSpot cX7_widestSpot 7 (some .int) [.ref (G.2.2.1 64), .int a1, .int a2] σ (fun v τ => ∃ r : Int32, v = some (.int r) ∧ post r τ) := by
  refine Sp.of (by decide) (Nat.le_of_ble_eq_true rfl) fun X C hr hR hnl => ?_
  show Go X G 0 [(0, .ref (G.2.2.1 64)), (1, .int a1), (2, .int a2)] [] σ
  have hw : ∃ m_8, wbX7_widestSpot_8 post m_8 a1 a2 (-1) 0 0 σ := hw
  refine go_iconst (v := (-1)) C rfl dX7_widestSpot_0 ?_
  refine go_istore_n (lv2 := [(3, .int (-1)), (0, .ref (G.2.2.1 64)), (1, .int a1), (2, .int a2)]) C rfl (by rw [hnl]; decide) rfl dX7_widestSpot_1 ?_
  refine go_iconst (v := 0) C rfl dX7_widestSpot_2 ?_
  refine go_istore (lv2 := [(4, .int 0), (3, .int (-1)), (0, .ref (G.2.2.1 64)), (1, .int a1), (2, .int a2)]) C (by rw [hnl]; decide) rfl dX7_widestSpot_3 ?_
  refine go_iconst (v := 0) C rfl dX7_widestSpot_5 ?_
  refine go_istore (lv2 := [(5, .int 0), (4, .int 0), (3, .int (-1)), (0, .ref (G.2.2.1 64)), (1, .int a1), (2, .int a2)]) C (by rw [hnl]; decide) rfl dX7_widestSpot_6 ?_
  refine go_sub [3, 4, 5, 2, 1, 0] rfl ?_
  obtain ⟨n_0, hw⟩ := hw
  exact (gbX7_widestSpot_8 C hr hR hnl hd hN) n_0 _ _ _ _ _ _ hw
-- CradleNames$Reader.hasRoom()Z
set_option maxRecDepth 20000 in
set_option maxHeartbeats 4000000 in
theorem spX8_hasRoom {l : Launch} {G : GT} {d : Nat}  (hd : 1 ≤ d)  (hN : 75 ≤ G.2.2.2.2.2)   {σ : St} {post : Int32 → St → Prop} (hw : wpX8_hasRoom   σ post) : Sp l G d yX8_hasRoom cX8_hasRoom 1 (some .boolean) [.ref (G.2.2.1 42)] σ (fun v τ => ∃ r : Int32, v = some (.int r) ∧ post r τ) := by
  refine Sp.of (by decide) (Nat.le_of_ble_eq_true rfl) fun X C hr hR hnl => ?_
  show Go X G 0 [(0, .ref (G.2.2.1 42))] [] σ
  have hw : ((300 < ((gI σ 42 1) + 20) →
    post 0 σ) ∧
  (¬ 300 < ((gI σ 42 1) + 20) →
    post 1 σ)) := hw
  refine go_aload_n C 0 rfl rfl dX8_hasRoom_0 ?_
  refine go_get (v := .int (gI σ 42 1)) C (shX8 G) (ltX8 hN) lkX8_35 rfl dX8_hasRoom_1 ?_
  refine go_bipush (v := 20) C rfl dX8_hasRoom_4 ?_
  refine go_iadd C dX8_hasRoom_6 ?_
  refine go_sipush (v := 300) C rfl dX8_hasRoom_7 ?_
  refine go_icmp_gt C 17 rfl dX8_hasRoom_10 (fun hc => ?_) (fun hc => ?_)
  · replace hw := hw.1 hc
    refine go_iconst (v := 0) C rfl dX8_hasRoom_17 ?_
    exact go_zret C hr rfl ⟨_, rfl, hw⟩ dX8_hasRoom_18
  · replace hw := hw.2 hc
    refine go_iconst (v := 1) C rfl dX8_hasRoom_13 ?_
    refine go_goto C 18 rfl dX8_hasRoom_14 ?_
    exact go_zret C hr rfl ⟨_, rfl, hw⟩ dX8_hasRoom_18
-- CradleNames$Reader.put(I)V
set_option maxRecDepth 20000 in
set_option maxHeartbeats 4000000 in
theorem gbX8_put_3 {X : XT} {G : GT} {l : Launch} {d : Nat}  {post : St → Prop} (C : Cx X G cX8_put RX8) (hr : Rt X G none (fun v τ => v = none ∧ post τ)) (hR : Rm X l d) (hnl : X.2.2.2.2.2.2.2.2.2.2.1 = 3)  (hd : 1 ≤ d) (hN : 75 ≤ G.2.2.2.2.2)   
    : ∀ (n : Nat) (v1 : Int32) (v2 : Int32) (σ : St), wbX8_put_3   post n v1 v2 σ → Go X G 3 [(0, .ref (G.2.2.1 42)), (1, .int v1), (2, .int v2)] [] σ := by
  intro n
  induction n with
  | zero => intro v1 v2 σ hw; exact hw.elim
  | succ n ih =>
    intro v1 v2 σ hw
    have hw : ((v2 < 0 →
      post σ) ∧
    (¬ v2 < 0 →
      ((300 ≤ (gI σ 42 1) →
        post σ) ∧
      (¬ 300 ≤ (gI σ 42 1) →
        vp_in (gI σ 42 1) 300 ∧ (
        ∀ σ_1 : St, σ_1 = sI σ 43 (gI σ 42 1).toNatClampNeg ((v1.toUInt32 >>> (v2.toUInt32 &&& Int32.toUInt32 31)).toInt32 &&& 255) →
        ∀ σ_2 : St, σ_2 = sI σ_1 42 1 ((gI σ_1 42 1) + 1) →
        ∀ v2_3 : Int32, v2_3 = v2 + (-8) →
        wbX8_put_3 post n v1 v2_3 σ_2))))) := hw
    refine go_iload_n C 2 rfl rfl dX8_put_3 ?_
    refine go_if_lt C 49 rfl dX8_put_4 (fun hc => ?_) (fun hc => ?_)
    · replace hw := hw.1 hc
      exact go_vret C hr ⟨rfl, hw⟩ dX8_put_49
    · replace hw := hw.2 hc
      refine go_aload_n C 0 rfl rfl dX8_put_7 ?_
      refine go_get (v := .int (gI σ 42 1)) C (shX8 G) (ltX8 hN) lkX8_35 rfl dX8_put_8 ?_
      refine go_sipush (v := 300) C rfl dX8_put_11 ?_
      refine go_icmp_ge C 49 rfl dX8_put_14 (fun hc => ?_) (fun hc => ?_)
      · replace hw := hw.1 hc
        exact go_vret C hr ⟨rfl, hw⟩ dX8_put_49
      · replace hw := hw.2 hc
        refine go_aload_n C 0 rfl rfl dX8_put_17 ?_
        refine go_get (v := .ref (G.2.2.1 43)) C (shX8 G) (ltX8 hN) lkX8_11 rfl dX8_put_18 ?_
        refine go_aload_n C 0 rfl rfl dX8_put_21 ?_
        refine go_get (v := .int (gI σ 42 1)) C (shX8 G) (ltX8 hN) lkX8_35 rfl dX8_put_22 ?_
        refine go_iload_n C 1 rfl rfl dX8_put_25 ?_
        refine go_iload_n C 2 rfl rfl dX8_put_26 ?_
        refine go_iushr C dX8_put_27 ?_
        refine go_sipush (v := 255) C rfl dX8_put_28 ?_
        refine go_iand C dX8_put_31 ?_
        refine go_iast C (saX8_bytes G) (laX8_bytes hN) hw.1 dX8_put_32 (go_nm fun σ_1 eσ_1 => ?_)
        replace hw := hw.2 σ_1 eσ_1
        refine go_aload_n C 0 rfl rfl dX8_put_33 ?_
        refine go_dup C rfl dX8_put_34 ?_
        refine go_get (v := .int (gI σ_1 42 1)) C (shX8 G) (ltX8 hN) lkX8_35 rfl dX8_put_35 ?_
        refine go_iconst (v := 1) C rfl dX8_put_38 ?_
        refine go_iadd C dX8_put_39 ?_
        refine go_puti C (shX8 G) (ltX8 hN) lpX8_35 (show 1 < 11 by decide) (pxX8_1 G _ _) dX8_put_40 (go_nm fun σ_2 eσ_2 => ?_)
        replace hw := hw σ_2 eσ_2
        obtain ⟨v2_3, ev2_3⟩ : ∃ z : Int32, z = v2 + (-8) := ⟨_, rfl⟩
        replace hw := hw v2_3 ev2_3
        refine go_iinc (v := v2_3) (lv2 := [(2, .int v2_3), (0, .ref (G.2.2.1 42)), (1, .int v1)]) C 2 rfl (by rw [ev2_3]; rfl) (by rw [hnl]; decide) rfl dX8_put_43 ?_
        refine go_goto C 3 rfl dX8_put_46 ?_
        refine go_sub [1, 2, 0] rfl ?_
        exact ih _ _ _ hw
set_option maxRecDepth 20000 in
set_option maxHeartbeats 4000000 in
theorem spX8_put {l : Launch} {G : GT} {d : Nat}  (hd : 1 ≤ d)  (hN : 75 ≤ G.2.2.2.2.2)  {a1 : Int32} {σ : St} {post : St → Prop} (hw : wpX8_put  a1 σ post) : Sp l G d yX8_put cX8_put 3 none [.ref (G.2.2.1 42), .int a1] σ (fun v τ => v = none ∧ post τ) := by
  refine Sp.of (by decide) (Nat.le_of_ble_eq_true rfl) fun X C hr hR hnl => ?_
  show Go X G 0 [(0, .ref (G.2.2.1 42)), (1, .int a1)] [] σ
  have hw : ∃ m_3, wbX8_put_3 post m_3 a1 24 σ := hw
  refine go_bipush (v := 24) C rfl dX8_put_0 ?_
  refine go_istore_n (lv2 := [(2, .int 24), (0, .ref (G.2.2.1 42)), (1, .int a1)]) C rfl (by rw [hnl]; decide) rfl dX8_put_2 ?_
  refine go_sub [1, 2, 0] rfl ?_
  obtain ⟨n_0, hw⟩ := hw
  exact (gbX8_put_3 C hr hR hnl hd hN) n_0 _ _ _ hw
-- CradleNames$Reader.fail(I)V
set_option maxRecDepth 20000 in
set_option maxHeartbeats 4000000 in
theorem spX8_fail {l : Launch} {G : GT} {d : Nat}  (hd : 1 ≤ d)  (hN : 75 ≤ G.2.2.2.2.2)  {a1 : Int32} {σ : St} {post : St → Prop} (hw : wpX8_fail  a1 σ post) : Sp l G d yX8_fail cX8_fail 2 none [.ref (G.2.2.1 42), .int a1] σ (fun v τ => v = none ∧ post τ) := by
  refine Sp.of (by decide) (Nat.le_of_ble_eq_true rfl) fun X C hr hR hnl => ?_
  show Go X G 0 [(0, .ref (G.2.2.1 42)), (1, .int a1)] [] σ
  have hw : (((gI σ 42 8) = 39 →
    post σ) ∧
  (¬ (gI σ 42 8) = 39 →
    ∀ σ_1 : St, σ_1 = sI σ 42 2 a1 →
    vp_in (gI σ_1 42 7) 301 ∧ (
    ∀ σ_2 : St, σ_2 = sI σ_1 42 3 (gI σ_1 45 (gI σ_1 42 7).toNatClampNeg) →
    ∀ σ_3 : St, σ_3 = sI σ_2 42 8 39 →
    post σ_3))) := hw
  refine go_aload_n C 0 rfl rfl dX8_fail_0 ?_
  refine go_get (v := .int (gI σ 42 8)) C (shX8 G) (ltX8 hN) lkX8_52 rfl dX8_fail_1 ?_
  refine go_bipush (v := 39) C rfl dX8_fail_4 ?_
  refine go_icmp_eq C 33 rfl dX8_fail_6 (fun hc => ?_) (fun hc => ?_)
  · replace hw := hw.1 hc
    exact go_vret C hr ⟨rfl, hw⟩ dX8_fail_33
  · replace hw := hw.2 hc
    refine go_aload_n C 0 rfl rfl dX8_fail_9 ?_
    refine go_iload_n C 1 rfl rfl dX8_fail_10 ?_
    refine go_puti C (shX8 G) (ltX8 hN) lpX8_15 (show 2 < 11 by decide) (pxX8_2 G _ _) dX8_fail_11 (go_nm fun σ_1 eσ_1 => ?_)
    replace hw := hw σ_1 eσ_1
    refine go_aload_n C 0 rfl rfl dX8_fail_14 ?_
    refine go_aload_n C 0 rfl rfl dX8_fail_15 ?_
    refine go_get (v := .ref (G.2.2.1 45)) C (shX8 G) (ltX8 hN) lkX8_25 rfl dX8_fail_16 ?_
    refine go_aload_n C 0 rfl rfl dX8_fail_19 ?_
    refine go_get (v := .int (gI σ_1 42 7)) C (shX8 G) (ltX8 hN) lkX8_49 rfl dX8_fail_20 ?_
    refine go_iald C (saX8_starts G) (laX8_starts hN) hw.1 dX8_fail_23 ?_
    replace hw := hw.2
    refine go_puti C (shX8 G) (ltX8 hN) lpX8_19 (show 3 < 11 by decide) (pxX8_3 G _ _) dX8_fail_24 (go_nm fun σ_2 eσ_2 => ?_)
    replace hw := hw σ_2 eσ_2
    refine go_aload_n C 0 rfl rfl dX8_fail_27 ?_
    refine go_bipush (v := 39) C rfl dX8_fail_28 ?_
    refine go_puti C (shX8 G) (ltX8 hN) lpX8_52 (show 8 < 11 by decide) (pxX8_8 G _ _) dX8_fail_30 (go_nm fun σ_3 eσ_3 => ?_)
    replace hw := hw σ_3 eσ_3
    exact go_vret C hr ⟨rfl, hw⟩ dX8_fail_33
-- CradleNames$Reader.advance()V
set_option maxRecDepth 20000 in
set_option maxHeartbeats 4000000 in
theorem spX8_advance {l : Launch} {G : GT} {d : Nat}  (hd : 1 ≤ d)  (hN : 75 ≤ G.2.2.2.2.2)   {σ : St} {post : St → Prop} (hw : wpX8_advance   σ post) : Sp l G d yX8_advance cX8_advance 1 none [.ref (G.2.2.1 42)] σ (fun v τ => v = none ∧ post τ) := by
  refine Sp.of (by decide) (Nat.le_of_ble_eq_true rfl) fun X C hr hR hnl => ?_
  show Go X G 0 [(0, .ref (G.2.2.1 42))] [] σ
  have hw : (((gI σ 42 8) = 39 →
    post σ) ∧
  (¬ (gI σ 42 8) = 39 →
    (((gI σ 42 8) = 37 →
      post σ) ∧
    (¬ (gI σ 42 8) = 37 →
      ∀ σ_1 : St, σ_1 = sI σ 42 7 ((gI σ 42 7) + 1) →
      vp_in (gI σ_1 42 7) 301 ∧ (
      ∀ σ_2 : St, σ_2 = sI σ_1 42 8 (gI σ_1 44 (gI σ_1 42 7).toNatClampNeg) →
      post σ_2))))) := hw
  refine go_aload_n C 0 rfl rfl dX8_advance_0 ?_
  refine go_get (v := .int (gI σ 42 8)) C (shX8 G) (ltX8 hN) lkX8_52 rfl dX8_advance_1 ?_
  refine go_bipush (v := 39) C rfl dX8_advance_4 ?_
  refine go_icmp_eq C 41 rfl dX8_advance_6 (fun hc => ?_) (fun hc => ?_)
  · replace hw := hw.1 hc
    exact go_vret C hr ⟨rfl, hw⟩ dX8_advance_41
  · replace hw := hw.2 hc
    refine go_aload_n C 0 rfl rfl dX8_advance_9 ?_
    refine go_get (v := .int (gI σ 42 8)) C (shX8 G) (ltX8 hN) lkX8_52 rfl dX8_advance_10 ?_
    refine go_bipush (v := 37) C rfl dX8_advance_13 ?_
    refine go_icmp_eq C 41 rfl dX8_advance_15 (fun hc => ?_) (fun hc => ?_)
    · replace hw := hw.1 hc
      exact go_vret C hr ⟨rfl, hw⟩ dX8_advance_41
    · replace hw := hw.2 hc
      refine go_aload_n C 0 rfl rfl dX8_advance_18 ?_
      refine go_dup C rfl dX8_advance_19 ?_
      refine go_get (v := .int (gI σ 42 7)) C (shX8 G) (ltX8 hN) lkX8_49 rfl dX8_advance_20 ?_
      refine go_iconst (v := 1) C rfl dX8_advance_23 ?_
      refine go_iadd C dX8_advance_24 ?_
      refine go_puti C (shX8 G) (ltX8 hN) lpX8_49 (show 7 < 11 by decide) (pxX8_7 G _ _) dX8_advance_25 (go_nm fun σ_1 eσ_1 => ?_)
      replace hw := hw σ_1 eσ_1
      refine go_aload_n C 0 rfl rfl dX8_advance_28 ?_
      refine go_aload_n C 0 rfl rfl dX8_advance_29 ?_
      refine go_get (v := .ref (G.2.2.1 44)) C (shX8 G) (ltX8 hN) lkX8_22 rfl dX8_advance_30 ?_
      refine go_aload_n C 0 rfl rfl dX8_advance_33 ?_
      refine go_get (v := .int (gI σ_1 42 7)) C (shX8 G) (ltX8 hN) lkX8_49 rfl dX8_advance_34 ?_
      refine go_iald C (saX8_kinds G) (laX8_kinds hN) hw.1 dX8_advance_37 ?_
      replace hw := hw.2
      refine go_puti C (shX8 G) (ltX8 hN) lpX8_52 (show 8 < 11 by decide) (pxX8_8 G _ _) dX8_advance_38 (go_nm fun σ_2 eσ_2 => ?_)
      replace hw := hw σ_2 eσ_2
      exact go_vret C hr ⟨rfl, hw⟩ dX8_advance_41
-- CradleNames$Reader.expect(I)V
set_option maxRecDepth 20000 in
set_option maxHeartbeats 4000000 in
theorem spX8_expect {l : Launch} {G : GT} {d : Nat}  (hd : 2 ≤ d)  (hN : 75 ≤ G.2.2.2.2.2)  {a1 : Int32} {σ : St} {post : St → Prop} (hw : wpX8_expect  a1 σ post) : Sp l G d yX8_expect cX8_expect 2 none [.ref (G.2.2.1 42), .int a1] σ (fun v τ => v = none ∧ post τ) := by
  refine Sp.of (by decide) (Nat.le_of_ble_eq_true rfl) fun X C hr hR hnl => ?_
  show Go X G 0 [(0, .ref (G.2.2.1 42)), (1, .int a1)] [] σ
  have hw : ((¬ (gI σ 42 8) = a1 →
    wpX8_fail 1 σ (fun σ_2 =>
    post σ_2)) ∧
  ((gI σ 42 8) = a1 →
    wpX8_advance  σ (fun σ_4 =>
    post σ_4))) := hw
  refine go_aload_n C 0 rfl rfl dX8_expect_0 ?_
  refine go_get (v := .int (gI σ 42 8)) C (shX8 G) (ltX8 hN) lkX8_52 rfl dX8_expect_1 ?_
  refine go_iload_n C 1 rfl rfl dX8_expect_4 ?_
  refine go_icmp_ne C 15 rfl dX8_expect_5 (fun hc => ?_) (fun hc => ?_)
  · replace hw := hw.1 hc
    refine go_aload_n C 0 rfl rfl dX8_expect_15 ?_
    refine go_iconst (v := 1) C rfl dX8_expect_16 ?_
    refine go_callV (as := [.int 1]) C hR (shX8 G) (ltX8 hN) cwX8_95 (Nat.le_trans (by decide) hd) (by decide) rfl rfl (Nat.le_of_ble_eq_true rfl) dX8_expect_17 (spX8_fail (Nat.le_refl _) hN hw) (fun v_ τ_ hw => ?_)
    obtain ⟨rfl, hw⟩ := hw
    obtain ⟨σ_2, rfl⟩ : ∃ z, z = τ_ := ⟨_, rfl⟩
    exact go_vret C hr ⟨rfl, hw⟩ dX8_expect_20
  · replace hw := hw.2 hc
    refine go_aload_n C 0 rfl rfl dX8_expect_8 ?_
    refine go_callV (as := []) C hR (shX8 G) (ltX8 hN) cwX8_92 (Nat.le_trans (by decide) hd) (by decide) rfl rfl (Nat.le_of_ble_eq_true rfl) dX8_expect_9 (spX8_advance (Nat.le_refl _) hN hw) (fun v_ τ_ hw => ?_)
    obtain ⟨rfl, hw⟩ := hw
    obtain ⟨σ_4, rfl⟩ : ∃ z, z = τ_ := ⟨_, rfl⟩
    refine go_goto C 20 rfl dX8_expect_12 ?_
    exact go_vret C hr ⟨rfl, hw⟩ dX8_expect_20
-- CradleNames$Reader.window(I)V
set_option maxRecDepth 20000 in
set_option maxHeartbeats 4000000 in
theorem gbX8_window_44 {X : XT} {G : GT} {l : Launch} {d : Nat}  {post : St → Prop} (C : Cx X G cX8_window RX8) (hr : Rt X G none (fun v τ => v = none ∧ post τ)) (hR : Rm X l d) (hnl : X.2.2.2.2.2.2.2.2.2.2.1 = 3)  (hd : 2 ≤ d) (hN : 75 ≤ G.2.2.2.2.2)  {K47 : St → Prop} {K78 : St → Prop} (hK47 : ∀ (σ : St), K47 σ → Go X G 47 [(0, .ref (G.2.2.1 42))] [] σ) (hK78 : ∀ (σ : St), K78 σ → Go X G 78 [(0, .ref (G.2.2.1 42))] [] σ)
    : ∀ (v1 : Int32) (v2 : Int32) (s0 : Int32) (s1 : Int32) (σ : St), wbX8_window_44  K47 K78 post v1 v2 s0 s1 σ → Go X G 44 [(0, .ref (G.2.2.1 42)), (1, .int v1), (2, .int v2)] [.int s0, .int s1] σ := by
  intro v1 v2 s0 s1 σ hw
  have hw : ((s1 ≤ s0 →
    ((¬ v1 = 0 →
      ∃ k_1, gR σ 42 9 = some (30 + 2 * k_1) ∧ k_1 < 6 ∧ (
      ∀ σ_2 : St, σ_2 = sI σ (30 + 2 * k_1) 3 v2 →
      K78 σ_2)) ∧
    (v1 = 0 →
      ∃ k_3, gR σ 42 9 = some (30 + 2 * k_3) ∧ k_3 < 6 ∧ (
      ∀ σ_4 : St, σ_4 = sI σ (30 + 2 * k_3) 2 v2 →
      K78 σ_4)))) ∧
  (¬ s1 ≤ s0 →
    K47 σ)) := hw
  refine go_icmp_le C 55 rfl dX8_window_44 (fun hc => ?_) (fun hc => ?_)
  · replace hw := hw.1 hc
    refine go_iload_n C 1 rfl rfl dX8_window_55 ?_
    refine go_if_ne C 70 rfl dX8_window_56 (fun hc => ?_) (fun hc => ?_)
    · replace hw := hw.1 hc
      refine go_aload_n C 0 rfl rfl dX8_window_70 ?_
      obtain ⟨k_1, gk_1, hk_1, hw⟩ := hw
      refine go_get (v := .ref (G.2.2.1 (30 + 2 * k_1))) C (shX8 G) (ltX8 hN) lkX8_31 (by show some (va_rf ((gR σ 42 9).map G.2.2.1)) = _; rw [gk_1]; rfl) dX8_window_71 ?_
      refine go_iload_n C 2 rfl rfl dX8_window_74 ?_
      refine go_puti C (shX9 G hk_1) (ltX9 hN hk_1) lpX8_116 (show 3 < 4 by decide) (pxX9_3 G _ _ _) dX8_window_75 (go_nm fun σ_2 eσ_2 => ?_)
      replace hw := hw σ_2 eσ_2
      refine go_sub [0] rfl ?_
      exact hK78 _ hw
    · replace hw := hw.2 hc
      refine go_aload_n C 0 rfl rfl dX8_window_59 ?_
      obtain ⟨k_3, gk_3, hk_3, hw⟩ := hw
      refine go_get (v := .ref (G.2.2.1 (30 + 2 * k_3))) C (shX8 G) (ltX8 hN) lkX8_31 (by show some (va_rf ((gR σ 42 9).map G.2.2.1)) = _; rw [gk_3]; rfl) dX8_window_60 ?_
      refine go_iload_n C 2 rfl rfl dX8_window_63 ?_
      refine go_puti C (shX9 G hk_3) (ltX9 hN hk_3) lpX8_113 (show 2 < 4 by decide) (pxX9_2 G _ _ _) dX8_window_64 (go_nm fun σ_4 eσ_4 => ?_)
      replace hw := hw σ_4 eσ_4
      refine go_goto C 78 rfl dX8_window_67 ?_
      refine go_sub [0] rfl ?_
      exact hK78 _ hw
  · replace hw := hw.2 hc
    refine go_sub [0] rfl ?_
    exact hK47 _ hw
set_option maxRecDepth 20000 in
set_option maxHeartbeats 4000000 in
theorem gbX8_window_47 {X : XT} {G : GT} {l : Launch} {d : Nat}  {post : St → Prop} (C : Cx X G cX8_window RX8) (hr : Rt X G none (fun v τ => v = none ∧ post τ)) (hR : Rm X l d) (hnl : X.2.2.2.2.2.2.2.2.2.2.1 = 3)  (hd : 2 ≤ d) (hN : 75 ≤ G.2.2.2.2.2)  {K78 : St → Prop} (hK78 : ∀ (σ : St), K78 σ → Go X G 78 [(0, .ref (G.2.2.1 42))] [] σ)
    : ∀ (σ : St), wbX8_window_47  K78 post σ → Go X G 47 [(0, .ref (G.2.2.1 42))] [] σ := by
  intro σ hw
  have hw : wpX8_fail 2 σ (fun σ_2 =>
  K78 σ_2) := hw
  refine go_aload_n C 0 rfl rfl dX8_window_47 ?_
  refine go_iconst (v := 2) C rfl dX8_window_48 ?_
  refine go_callV (as := [.int 2]) C hR (shX8 G) (ltX8 hN) cwX8_95 (Nat.le_trans (by decide) hd) (by decide) rfl rfl (Nat.le_of_ble_eq_true rfl) dX8_window_49 (spX8_fail (Nat.le_refl _) hN hw) (fun v_ τ_ hw => ?_)
  obtain ⟨rfl, hw⟩ := hw
  obtain ⟨σ_2, rfl⟩ : ∃ z, z = τ_ := ⟨_, rfl⟩
  refine go_goto C 78 rfl dX8_window_52 ?_
  exact hK78 _ hw
set_option maxRecDepth 20000 in
set_option maxHeartbeats 4000000 in
theorem gbX8_window_78 {X : XT} {G : GT} {l : Launch} {d : Nat}  {post : St → Prop} (C : Cx X G cX8_window RX8) (hr : Rt X G none (fun v τ => v = none ∧ post τ)) (hR : Rm X l d) (hnl : X.2.2.2.2.2.2.2.2.2.2.1 = 3)  (hd : 2 ≤ d) (hN : 75 ≤ G.2.2.2.2.2)   
    : ∀ (σ : St), wbX8_window_78   post σ → Go X G 78 [(0, .ref (G.2.2.1 42))] [] σ := by
  intro σ hw
  have hw : wpX8_advance  σ (fun σ_2 =>
  post σ_2) := hw
  refine go_aload_n C 0 rfl rfl dX8_window_78 ?_
  refine go_callV (as := []) C hR (shX8 G) (ltX8 hN) cwX8_92 (Nat.le_trans (by decide) hd) (by decide) rfl rfl (Nat.le_of_ble_eq_true rfl) dX8_window_79 (spX8_advance (Nat.le_refl _) hN hw) (fun v_ τ_ hw => ?_)
  obtain ⟨rfl, hw⟩ := hw
  obtain ⟨σ_2, rfl⟩ : ∃ z, z = τ_ := ⟨_, rfl⟩
  exact go_vret C hr ⟨rfl, hw⟩ dX8_window_82
set_option maxRecDepth 20000 in
set_option maxHeartbeats 4000000 in
theorem spX8_window {l : Launch} {G : GT} {d : Nat}  (hd : 2 ≤ d)  (hN : 75 ≤ G.2.2.2.2.2)  {a1 : Int32} {σ : St} {post : St → Prop} (hw : wpX8_window  a1 σ post) : Sp l G d yX8_window cX8_window 3 none [.ref (G.2.2.1 42), .int a1] σ (fun v τ => v = none ∧ post τ) := by
  refine Sp.of (by decide) (Nat.le_of_ble_eq_true rfl) fun X C hr hR hnl => ?_
  show Go X G 0 [(0, .ref (G.2.2.1 42)), (1, .int a1)] [] σ
  have hw : vp_in (gI σ 42 7) 301 ∧ (
  ∀ v2_1 : Int32, v2_1 = (gI σ 46 (gI σ 42 7).toNatClampNeg) →
  (((gI σ 42 8) = 36 →
    ((v2_1 < 1 →
      wbX8_window_47 (wbX8_window_78 post) post σ) ∧
    (¬ v2_1 < 1 →
      ((¬ a1 = 0 →
        wbX8_window_44 (wbX8_window_47 (wbX8_window_78 post) post) (wbX8_window_78 post) post a1 v2_1 60 v2_1 σ) ∧
      (a1 = 0 →
        wbX8_window_44 (wbX8_window_47 (wbX8_window_78 post) post) (wbX8_window_78 post) post a1 v2_1 20 v2_1 σ))))) ∧
  (¬ (gI σ 42 8) = 36 →
    wpX8_fail 1 σ (fun σ_3 =>
    wbX8_window_78 post σ_3)))) := hw
  refine go_aload_n C 0 rfl rfl dX8_window_0 ?_
  refine go_get (v := .ref (G.2.2.1 46)) C (shX8 G) (ltX8 hN) lkX8_28 rfl dX8_window_1 ?_
  refine go_aload_n C 0 rfl rfl dX8_window_4 ?_
  refine go_get (v := .int (gI σ 42 7)) C (shX8 G) (ltX8 hN) lkX8_49 rfl dX8_window_5 ?_
  refine go_iald C (saX8_numbers G) (laX8_numbers hN) hw.1 dX8_window_8 ?_
  replace hw := hw.2
  refine go_topi (fun v2_1 ev2_1 => ?_)
  replace hw := hw v2_1 ev2_1
  refine go_istore_n (lv2 := [(2, .int v2_1), (0, .ref (G.2.2.1 42)), (1, .int a1)]) C rfl (by rw [hnl]; decide) rfl dX8_window_9 ?_
  refine go_aload_n C 1 rfl rfl dX8_window_10 ?_
  refine go_get (v := .int (gI σ 42 8)) C (shX8 G) (ltX8 hN) lkX8_52 rfl dX8_window_11 ?_
  refine go_bipush (v := 36) C rfl dX8_window_14 ?_
  refine go_icmp_eq C 27 rfl dX8_window_16 (fun hc => ?_) (fun hc => ?_)
  · replace hw := hw.1 hc
    refine go_iload_n C 0 rfl rfl dX8_window_27 ?_
    refine go_iconst (v := 1) C rfl dX8_window_28 ?_
    refine go_icmp_lt C 47 rfl dX8_window_29 (fun hc => ?_) (fun hc => ?_)
    · replace hw := hw.1 hc
      refine go_sub [1] rfl ?_
      exact (gbX8_window_47 C hr hR hnl hd hN (gbX8_window_78 C hr hR hnl hd hN)) _ hw
    · replace hw := hw.2 hc
      refine go_iload_n C 0 rfl rfl dX8_window_32 ?_
      refine go_iload_n C 2 rfl rfl dX8_window_33 ?_
      refine go_if_ne C 42 rfl dX8_window_34 (fun hc => ?_) (fun hc => ?_)
      · replace hw := hw.1 hc
        refine go_bipush (v := 60) C rfl dX8_window_42 ?_
        refine go_sub [1, 2, 0] rfl ?_
        exact (gbX8_window_44 C hr hR hnl hd hN (gbX8_window_47 C hr hR hnl hd hN (gbX8_window_78 C hr hR hnl hd hN)) (gbX8_window_78 C hr hR hnl hd hN)) _ _ _ _ _ hw
      · replace hw := hw.2 hc
        refine go_bipush (v := 20) C rfl dX8_window_37 ?_
        refine go_goto C 44 rfl dX8_window_39 ?_
        refine go_sub [1, 2, 0] rfl ?_
        exact (gbX8_window_44 C hr hR hnl hd hN (gbX8_window_47 C hr hR hnl hd hN (gbX8_window_78 C hr hR hnl hd hN)) (gbX8_window_78 C hr hR hnl hd hN)) _ _ _ _ _ hw
  · replace hw := hw.2 hc
    refine go_aload_n C 1 rfl rfl dX8_window_19 ?_
    refine go_iconst (v := 1) C rfl dX8_window_20 ?_
    refine go_callV (as := [.int 1]) C hR (shX8 G) (ltX8 hN) cwX8_95 (Nat.le_trans (by decide) hd) (by decide) rfl rfl (Nat.le_of_ble_eq_true rfl) dX8_window_21 (spX8_fail (Nat.le_refl _) hN hw) (fun v_ τ_ hw => ?_)
    obtain ⟨rfl, hw⟩ := hw
    obtain ⟨σ_3, rfl⟩ : ∃ z, z = τ_ := ⟨_, rfl⟩
    refine go_goto C 78 rfl dX8_window_24 ?_
    refine go_sub [1] rfl ?_
    exact (gbX8_window_78 C hr hR hnl hd hN) _ hw
-- CradleNames$Taste.put(I)V
set_option maxRecDepth 20000 in
set_option maxHeartbeats 4000000 in
theorem spX9_put {l : Launch} {G : GT} {d : Nat}  (hd : 1 ≤ d) {k0 : Nat} (hN : 75 ≤ G.2.2.2.2.2) (hk0 : k0 < 6) {a1 : Int32} {σ : St} {post : St → Prop} (hw : wpX9_put k0 a1 σ post) : Sp l G d yX9_put cX9_put 2 none [.ref (G.2.2.1 (30 + 2 * k0)), .int a1] σ (fun v τ => v = none ∧ post τ) := by
  refine Sp.of (by decide) (Nat.le_of_ble_eq_true rfl) fun X C hr hR hnl => ?_
  show Go X G 0 [(0, .ref (G.2.2.1 (30 + 2 * k0))), (1, .int a1)] [] σ
  have hw : ((300 ≤ (gI σ (30 + 2 * k0) 1) →
    post σ) ∧
  (¬ 300 ≤ (gI σ (30 + 2 * k0) 1) →
    vp_in (gI σ (30 + 2 * k0) 1) 300 ∧ (
    ∀ σ_1 : St, σ_1 = sI σ (30 + 2 * k0 + 1) (gI σ (30 + 2 * k0) 1).toNatClampNeg a1 →
    ∀ σ_2 : St, σ_2 = sI σ_1 (30 + 2 * k0) 1 ((gI σ_1 (30 + 2 * k0) 1) + 1) →
    post σ_2))) := hw
  refine go_aload_n C 0 rfl rfl dX9_put_0 ?_
  refine go_get (v := .int (gI σ (30 + 2 * k0) 1)) C (shX9 G hk0) (ltX9 hN hk0) lkX9_15 rfl dX9_put_1 ?_
  refine go_aload_n C 0 rfl rfl dX9_put_4 ?_
  refine go_get (v := .ref (G.2.2.1 (30 + 2 * k0 + 1))) C (shX9 G hk0) (ltX9 hN hk0) lkX9_9 rfl dX9_put_5 ?_
  refine go_alen (t0 := 0) (v := 300) C (saX9_code G hk0) (laX9_code hN hk0) rfl rfl dX9_put_8 ?_
  refine go_icmp_ge C 32 rfl dX9_put_9 (fun hc => ?_) (fun hc => ?_)
  · replace hw := hw.1 hc
    exact go_vret C hr ⟨rfl, hw⟩ dX9_put_32
  · replace hw := hw.2 hc
    refine go_aload_n C 0 rfl rfl dX9_put_12 ?_
    refine go_get (v := .ref (G.2.2.1 (30 + 2 * k0 + 1))) C (shX9 G hk0) (ltX9 hN hk0) lkX9_9 rfl dX9_put_13 ?_
    refine go_aload_n C 0 rfl rfl dX9_put_16 ?_
    refine go_get (v := .int (gI σ (30 + 2 * k0) 1)) C (shX9 G hk0) (ltX9 hN hk0) lkX9_15 rfl dX9_put_17 ?_
    refine go_iload_n C 1 rfl rfl dX9_put_20 ?_
    refine go_iast C (saX9_code G hk0) (laX9_code hN hk0) hw.1 dX9_put_21 (go_nm fun σ_1 eσ_1 => ?_)
    replace hw := hw.2 σ_1 eσ_1
    refine go_aload_n C 0 rfl rfl dX9_put_22 ?_
    refine go_dup C rfl dX9_put_23 ?_
    refine go_get (v := .int (gI σ_1 (30 + 2 * k0) 1)) C (shX9 G hk0) (ltX9 hN hk0) lkX9_15 rfl dX9_put_24 ?_
    refine go_iconst (v := 1) C rfl dX9_put_27 ?_
    refine go_iadd C dX9_put_28 ?_
    refine go_puti C (shX9 G hk0) (ltX9 hN hk0) lpX9_15 (show 1 < 4 by decide) (pxX9_1 G _ _ _) dX9_put_29 (go_nm fun σ_2 eσ_2 => ?_)
    replace hw := hw σ_2 eσ_2
    exact go_vret C hr ⟨rfl, hw⟩ dX9_put_32
-- CradleNames$Reader.one(I)V
set_option maxRecDepth 20000 in
set_option maxHeartbeats 4000000 in
theorem gbX8_one_106 {X : XT} {G : GT} {l : Launch} {d : Nat}  {post : St → Prop} (C : Cx X G cX8_one RX8) (hr : Rt X G none (fun v τ => v = none ∧ post τ)) (hR : Rm X l d) (hnl : X.2.2.2.2.2.2.2.2.2.2.1 = 3) {FX8_around : Int32 → Int32 → St → (St → Prop) → Prop} {dF : Nat} (h5 : 5 ≤ dF) (hFX8_around : ∀ (a1 : Int32) (a2 : Int32) (σ : St) (post : St → Prop), FX8_around a1 a2 σ post → Sp l G dF yX8_around cX8_around 3 none [.ref (G.2.2.1 42), .int a1, .int a2] σ (fun v τ => v = none ∧ post τ)) (hd : dF + 1 ≤ d) (hN : 75 ≤ G.2.2.2.2.2)   
    : ∀ (v1 : Int32) (v2 : Int32) (σ : St), wbX8_one_106 FX8_around  post v1 v2 σ → Go X G 106 [(0, .ref (G.2.2.1 42)), (1, .int v1), (2, .int v2)] [] σ := by
  intro v1 v2 σ hw
  have hw : FX8_around v2 v1 σ (fun σ_2 =>
  post σ_2) := hw
  refine go_aload_n C 0 rfl rfl dX8_one_106 ?_
  refine go_iload_n C 2 rfl rfl dX8_one_107 ?_
  refine go_iload_n C 1 rfl rfl dX8_one_108 ?_
  refine go_callV (as := [.int v2, .int v1]) C hR (shX8 G) (ltX8 hN) cwX8_128 (by omega) (by decide) rfl rfl (Nat.le_of_ble_eq_true rfl) dX8_one_109 (hFX8_around _ _ _ _ hw) (fun v_ τ_ hw => ?_)
  obtain ⟨rfl, hw⟩ := hw
  obtain ⟨σ_2, rfl⟩ : ∃ z, z = τ_ := ⟨_, rfl⟩
  refine go_goto C 120 rfl dX8_one_112 ?_
  exact go_vret C hr ⟨rfl, hw⟩ dX8_one_120
set_option maxRecDepth 20000 in
set_option maxHeartbeats 4000000 in
theorem gbX8_one_31 {X : XT} {G : GT} {l : Launch} {d : Nat}  {post : St → Prop} (C : Cx X G cX8_one RX8) (hr : Rt X G none (fun v τ => v = none ∧ post τ)) (hR : Rm X l d) (hnl : X.2.2.2.2.2.2.2.2.2.2.1 = 3) {FX8_around : Int32 → Int32 → St → (St → Prop) → Prop} {dF : Nat} (h5 : 5 ≤ dF) (hFX8_around : ∀ (a1 : Int32) (a2 : Int32) (σ : St) (post : St → Prop), FX8_around a1 a2 σ post → Sp l G dF yX8_around cX8_around 3 none [.ref (G.2.2.1 42), .int a1, .int a2] σ (fun v τ => v = none ∧ post τ)) (hd : dF + 1 ≤ d) (hN : 75 ≤ G.2.2.2.2.2)   
    : ∀ (σ : St), wbX8_one_31 FX8_around  post σ → Go X G 31 [(0, .ref (G.2.2.1 42))] [] σ := by
  intro σ hw
  have hw : ∃ k_1, gR σ 42 9 = some (30 + 2 * k_1) ∧ k_1 < 6 ∧ (
  vp_in (gI σ 42 7) 301 ∧ (
  wpX9_put k_1 (100 + (gI σ 46 (gI σ 42 7).toNatClampNeg)) σ (fun σ_3 =>
  wpX8_advance  σ_3 (fun σ_5 =>
  post σ_5)))) := hw
  refine go_aload_n C 0 rfl rfl dX8_one_31 ?_
  obtain ⟨k_1, gk_1, hk_1, hw⟩ := hw
  refine go_get (v := .ref (G.2.2.1 (30 + 2 * k_1))) C (shX8 G) (ltX8 hN) lkX8_31 (by show some (va_rf ((gR σ 42 9).map G.2.2.1)) = _; rw [gk_1]; rfl) dX8_one_32 ?_
  refine go_bipush (v := 100) C rfl dX8_one_35 ?_
  refine go_aload_n C 0 rfl rfl dX8_one_37 ?_
  refine go_get (v := .ref (G.2.2.1 46)) C (shX8 G) (ltX8 hN) lkX8_28 rfl dX8_one_38 ?_
  refine go_aload_n C 0 rfl rfl dX8_one_41 ?_
  refine go_get (v := .int (gI σ 42 7)) C (shX8 G) (ltX8 hN) lkX8_49 rfl dX8_one_42 ?_
  refine go_iald C (saX8_numbers G) (laX8_numbers hN) hw.1 dX8_one_45 ?_
  replace hw := hw.2
  refine go_iadd C dX8_one_46 ?_
  refine go_callV (as := [.int (100 + (gI σ 46 (gI σ 42 7).toNatClampNeg))]) C hR (shX9 G hk_1) (ltX9 hN hk_1) cwX8_101 (by omega) (by decide) rfl rfl (Nat.le_of_ble_eq_true rfl) dX8_one_47 (spX9_put (Nat.le_refl _) hN hk_1 hw) (fun v_ τ_ hw => ?_)
  obtain ⟨rfl, hw⟩ := hw
  obtain ⟨σ_3, rfl⟩ : ∃ z, z = τ_ := ⟨_, rfl⟩
  refine go_aload_n C 0 rfl rfl dX8_one_50 ?_
  refine go_callV (as := []) C hR (shX8 G) (ltX8 hN) cwX8_92 (by omega) (by decide) rfl rfl (Nat.le_of_ble_eq_true rfl) dX8_one_51 (spX8_advance (Nat.le_refl _) hN hw) (fun v_ τ_ hw => ?_)
  obtain ⟨rfl, hw⟩ := hw
  obtain ⟨σ_5, rfl⟩ : ∃ z, z = τ_ := ⟨_, rfl⟩
  refine go_goto C 120 rfl dX8_one_54 ?_
  exact go_vret C hr ⟨rfl, hw⟩ dX8_one_120
set_option maxRecDepth 20000 in
set_option maxHeartbeats 4000000 in
theorem gbX8_one_82 {X : XT} {G : GT} {l : Launch} {d : Nat}  {post : St → Prop} (C : Cx X G cX8_one RX8) (hr : Rt X G none (fun v τ => v = none ∧ post τ)) (hR : Rm X l d) (hnl : X.2.2.2.2.2.2.2.2.2.2.1 = 3) {FX8_around : Int32 → Int32 → St → (St → Prop) → Prop} {dF : Nat} (h5 : 5 ≤ dF) (hFX8_around : ∀ (a1 : Int32) (a2 : Int32) (σ : St) (post : St → Prop), FX8_around a1 a2 σ post → Sp l G dF yX8_around cX8_around 3 none [.ref (G.2.2.1 42), .int a1, .int a2] σ (fun v τ => v = none ∧ post τ)) (hd : dF + 1 ≤ d) (hN : 75 ≤ G.2.2.2.2.2)   
    : ∀ (v1 : Int32) (v2 : Int32) (σ : St), wbX8_one_82 FX8_around  post v1 v2 σ → Go X G 82 [(0, .ref (G.2.2.1 42)), (1, .int v1), (2, .int v2)] [] σ := by
  intro v1 v2 σ hw
  have hw : ((v2 = 29 →
    wbX8_one_106 FX8_around post v1 v2 σ) ∧
  (¬ v2 = 29 →
    ((v2 = 32 →
      wbX8_one_106 FX8_around post v1 v2 σ) ∧
    (¬ v2 = 32 →
      ((v2 = 20 →
        wbX8_one_106 FX8_around post v1 v2 σ) ∧
      (¬ v2 = 20 →
        ((¬ v2 = 21 →
          wpX8_fail 1 σ (fun σ_2 =>
          post σ_2)) ∧
        (v2 = 21 →
          wbX8_one_106 FX8_around post v1 v2 σ)))))))) := hw
  refine go_iload_n C 2 rfl rfl dX8_one_82 ?_
  refine go_bipush (v := 29) C rfl dX8_one_83 ?_
  refine go_icmp_eq C 106 rfl dX8_one_85 (fun hc => ?_) (fun hc => ?_)
  · replace hw := hw.1 hc
    exact (gbX8_one_106 C hr hR hnl h5 hFX8_around hd hN) _ _ _ hw
  · replace hw := hw.2 hc
    refine go_iload_n C 2 rfl rfl dX8_one_88 ?_
    refine go_bipush (v := 32) C rfl dX8_one_89 ?_
    refine go_icmp_eq C 106 rfl dX8_one_91 (fun hc => ?_) (fun hc => ?_)
    · replace hw := hw.1 hc
      exact (gbX8_one_106 C hr hR hnl h5 hFX8_around hd hN) _ _ _ hw
    · replace hw := hw.2 hc
      refine go_iload_n C 2 rfl rfl dX8_one_94 ?_
      refine go_bipush (v := 20) C rfl dX8_one_95 ?_
      refine go_icmp_eq C 106 rfl dX8_one_97 (fun hc => ?_) (fun hc => ?_)
      · replace hw := hw.1 hc
        exact (gbX8_one_106 C hr hR hnl h5 hFX8_around hd hN) _ _ _ hw
      · replace hw := hw.2 hc
        refine go_iload_n C 2 rfl rfl dX8_one_100 ?_
        refine go_bipush (v := 21) C rfl dX8_one_101 ?_
        refine go_icmp_ne C 115 rfl dX8_one_103 (fun hc => ?_) (fun hc => ?_)
        · replace hw := hw.1 hc
          refine go_aload_n C 0 rfl rfl dX8_one_115 ?_
          refine go_iconst (v := 1) C rfl dX8_one_116 ?_
          refine go_callV (as := [.int 1]) C hR (shX8 G) (ltX8 hN) cwX8_95 (by omega) (by decide) rfl rfl (Nat.le_of_ble_eq_true rfl) dX8_one_117 (spX8_fail (Nat.le_refl _) hN hw) (fun v_ τ_ hw => ?_)
          obtain ⟨rfl, hw⟩ := hw
          obtain ⟨σ_2, rfl⟩ : ∃ z, z = τ_ := ⟨_, rfl⟩
          exact go_vret C hr ⟨rfl, hw⟩ dX8_one_120
        · replace hw := hw.2 hc
          exact (gbX8_one_106 C hr hR hnl h5 hFX8_around hd hN) _ _ _ hw
set_option maxRecDepth 20000 in
set_option maxHeartbeats 4000000 in
theorem spX8_one {l : Launch} {G : GT} {d : Nat} {FX8_around : Int32 → Int32 → St → (St → Prop) → Prop} {dF : Nat} (h5 : 5 ≤ dF) (hFX8_around : ∀ (a1 : Int32) (a2 : Int32) (σ : St) (post : St → Prop), FX8_around a1 a2 σ post → Sp l G dF yX8_around cX8_around 3 none [.ref (G.2.2.1 42), .int a1, .int a2] σ (fun v τ => v = none ∧ post τ)) (hd : dF + 1 ≤ d)  (hN : 75 ≤ G.2.2.2.2.2)  {a1 : Int32} {σ : St} {post : St → Prop} (hw : wpX8_one FX8_around a1 σ post) : Sp l G d yX8_one cX8_one 3 none [.ref (G.2.2.1 42), .int a1] σ (fun v τ => v = none ∧ post τ) := by
  refine Sp.of (by decide) (Nat.le_of_ble_eq_true rfl) fun X C hr hR hnl => ?_
  show Go X G 0 [(0, .ref (G.2.2.1 42)), (1, .int a1)] [] σ
  have hw : ∀ v2_1 : Int32, v2_1 = (gI σ 42 8) →
  ((¬ v2_1 = 36 →
    ((v2_1 < 0 →
      wbX8_one_82 FX8_around post a1 v2_1 σ) ∧
    (¬ v2_1 < 0 →
      ((14 ≤ v2_1 →
        wbX8_one_82 FX8_around post a1 v2_1 σ) ∧
      (¬ 14 ≤ v2_1 →
        ∃ k_2, gR σ 42 9 = some (30 + 2 * k_2) ∧ k_2 < 6 ∧ (
        wpX9_put k_2 v2_1 σ (fun σ_4 =>
        wpX8_advance  σ_4 (fun σ_6 =>
        post σ_6)))))))) ∧
  (v2_1 = 36 →
    vp_in (gI σ 42 7) 301 ∧ (
    (((gI σ 46 (gI σ 42 7).toNatClampNeg) ≤ 9999 →
      wbX8_one_31 FX8_around post σ) ∧
    (¬ (gI σ 46 (gI σ 42 7).toNatClampNeg) ≤ 9999 →
      wpX8_fail 2 σ (fun σ_8 =>
      wbX8_one_31 FX8_around post σ_8)))))) := hw
  refine go_aload_n C 0 rfl rfl dX8_one_0 ?_
  refine go_get (v := .int (gI σ 42 8)) C (shX8 G) (ltX8 hN) lkX8_52 rfl dX8_one_1 ?_
  refine go_topi (fun v2_1 ev2_1 => ?_)
  replace hw := hw v2_1 ev2_1
  refine go_istore_n (lv2 := [(2, .int v2_1), (0, .ref (G.2.2.1 42)), (1, .int a1)]) C rfl (by rw [hnl]; decide) rfl dX8_one_4 ?_
  refine go_iload_n C 0 rfl rfl dX8_one_5 ?_
  refine go_bipush (v := 36) C rfl dX8_one_6 ?_
  refine go_icmp_ne C 57 rfl dX8_one_8 (fun hc => ?_) (fun hc => ?_)
  · replace hw := hw.1 hc
    refine go_iload_n C 0 rfl rfl dX8_one_57 ?_
    refine go_if_lt C 82 rfl dX8_one_58 (fun hc => ?_) (fun hc => ?_)
    · replace hw := hw.1 hc
      refine go_sub [1, 2, 0] rfl ?_
      exact (gbX8_one_82 C hr hR hnl h5 hFX8_around hd hN) _ _ _ hw
    · replace hw := hw.2 hc
      refine go_iload_n C 0 rfl rfl dX8_one_61 ?_
      refine go_bipush (v := 14) C rfl dX8_one_62 ?_
      refine go_icmp_ge C 82 rfl dX8_one_64 (fun hc => ?_) (fun hc => ?_)
      · replace hw := hw.1 hc
        refine go_sub [1, 2, 0] rfl ?_
        exact (gbX8_one_82 C hr hR hnl h5 hFX8_around hd hN) _ _ _ hw
      · replace hw := hw.2 hc
        refine go_aload_n C 1 rfl rfl dX8_one_67 ?_
        obtain ⟨k_2, gk_2, hk_2, hw⟩ := hw
        refine go_get (v := .ref (G.2.2.1 (30 + 2 * k_2))) C (shX8 G) (ltX8 hN) lkX8_31 (by show some (va_rf ((gR σ 42 9).map G.2.2.1)) = _; rw [gk_2]; rfl) dX8_one_68 ?_
        refine go_iload_n C 0 rfl rfl dX8_one_71 ?_
        refine go_callV (as := [.int v2_1]) C hR (shX9 G hk_2) (ltX9 hN hk_2) cwX8_101 (by omega) (by decide) rfl rfl (Nat.le_of_ble_eq_true rfl) dX8_one_72 (spX9_put (Nat.le_refl _) hN hk_2 hw) (fun v_ τ_ hw => ?_)
        obtain ⟨rfl, hw⟩ := hw
        obtain ⟨σ_4, rfl⟩ : ∃ z, z = τ_ := ⟨_, rfl⟩
        refine go_aload_n C 1 rfl rfl dX8_one_75 ?_
        refine go_callV (as := []) C hR (shX8 G) (ltX8 hN) cwX8_92 (by omega) (by decide) rfl rfl (Nat.le_of_ble_eq_true rfl) dX8_one_76 (spX8_advance (Nat.le_refl _) hN hw) (fun v_ τ_ hw => ?_)
        obtain ⟨rfl, hw⟩ := hw
        obtain ⟨σ_6, rfl⟩ : ∃ z, z = τ_ := ⟨_, rfl⟩
        refine go_goto C 120 rfl dX8_one_79 ?_
        exact go_vret C hr ⟨rfl, hw⟩ dX8_one_120
  · replace hw := hw.2 hc
    refine go_aload_n C 1 rfl rfl dX8_one_11 ?_
    refine go_get (v := .ref (G.2.2.1 46)) C (shX8 G) (ltX8 hN) lkX8_28 rfl dX8_one_12 ?_
    refine go_aload_n C 1 rfl rfl dX8_one_15 ?_
    refine go_get (v := .int (gI σ 42 7)) C (shX8 G) (ltX8 hN) lkX8_49 rfl dX8_one_16 ?_
    refine go_iald C (saX8_numbers G) (laX8_numbers hN) hw.1 dX8_one_19 ?_
    replace hw := hw.2
    refine go_sipush (v := 9999) C rfl dX8_one_20 ?_
    refine go_icmp_le C 31 rfl dX8_one_23 (fun hc => ?_) (fun hc => ?_)
    · replace hw := hw.1 hc
      refine go_sub [1] rfl ?_
      exact (gbX8_one_31 C hr hR hnl h5 hFX8_around hd hN) _ hw
    · replace hw := hw.2 hc
      refine go_aload_n C 1 rfl rfl dX8_one_26 ?_
      refine go_iconst (v := 2) C rfl dX8_one_27 ?_
      refine go_callV (as := [.int 2]) C hR (shX8 G) (ltX8 hN) cwX8_95 (by omega) (by decide) rfl rfl (Nat.le_of_ble_eq_true rfl) dX8_one_28 (spX8_fail (Nat.le_refl _) hN hw) (fun v_ τ_ hw => ?_)
      obtain ⟨rfl, hw⟩ := hw
      obtain ⟨σ_8, rfl⟩ : ∃ z, z = τ_ := ⟨_, rfl⟩
      refine go_sub [1] rfl ?_
      exact (gbX8_one_31 C hr hR hnl h5 hFX8_around hd hN) _ hw
-- CradleNames$Reader.product(I)V
set_option maxRecDepth 20000 in
set_option maxHeartbeats 4000000 in
theorem gbX8_product_32 {X : XT} {G : GT} {l : Launch} {d : Nat}  {post : St → Prop} (C : Cx X G cX8_product RX8) (hr : Rt X G none (fun v τ => v = none ∧ post τ)) (hR : Rm X l d) (hnl : X.2.2.2.2.2.2.2.2.2.2.1 = 4) {FX8_around : Int32 → Int32 → St → (St → Prop) → Prop} {dF : Nat} (h5 : 5 ≤ dF) (hFX8_around : ∀ (a1 : Int32) (a2 : Int32) (σ : St) (post : St → Prop), FX8_around a1 a2 σ post → Sp l G dF yX8_around cX8_around 3 none [.ref (G.2.2.1 42), .int a1, .int a2] σ (fun v τ => v = none ∧ post τ)) (hd : dF + 2 ≤ d) (hN : 75 ≤ G.2.2.2.2.2)  {K7 : Int32 → Int32 → St → Prop} (hK7 : ∀ (v1 : Int32) (v2 : Int32) (σ : St), K7 v1 v2 σ → Go X G 7 [(0, .ref (G.2.2.1 42)), (1, .int v1), (2, .int v2)] [] σ)
    : ∀ (v1 : Int32) (v2 : Int32) (σ : St), wbX8_product_32 FX8_around K7 post v1 v2 σ → Go X G 32 [(0, .ref (G.2.2.1 42)), (1, .int v1), (2, .int v2)] [] σ := by
  intro v1 v2 σ hw
  have hw : ∀ v3_1 : Int32, v3_1 = (gI σ 42 8) →
  wpX8_advance  σ (fun σ_3 =>
  wpX8_one FX8_around v1 σ_3 (fun σ_5 =>
  ∃ k_6, gR σ_5 42 9 = some (30 + 2 * k_6) ∧ k_6 < 6 ∧ (
  wpX9_put k_6 v3_1 σ_5 (fun σ_8 =>
  ∀ v2_9 : Int32, v2_9 = v2 + 1 →
  K7 v1 v2_9 σ_8)))) := hw
  refine go_aload_n C 0 rfl rfl dX8_product_32 ?_
  refine go_get (v := .int (gI σ 42 8)) C (shX8 G) (ltX8 hN) lkX8_52 rfl dX8_product_33 ?_
  refine go_topi (fun v3_1 ev3_1 => ?_)
  replace hw := hw v3_1 ev3_1
  refine go_istore_n (lv2 := [(3, .int v3_1), (0, .ref (G.2.2.1 42)), (1, .int v1), (2, .int v2)]) C rfl (by rw [hnl]; decide) rfl dX8_product_36 ?_
  refine go_aload_n C 1 rfl rfl dX8_product_37 ?_
  refine go_callV (as := []) C hR (shX8 G) (ltX8 hN) cwX8_92 (by omega) (by decide) rfl rfl (Nat.le_of_ble_eq_true rfl) dX8_product_38 (spX8_advance (Nat.le_refl _) hN hw) (fun v_ τ_ hw => ?_)
  obtain ⟨rfl, hw⟩ := hw
  obtain ⟨σ_3, rfl⟩ : ∃ z, z = τ_ := ⟨_, rfl⟩
  refine go_aload_n C 1 rfl rfl dX8_product_41 ?_
  refine go_iload_n C 2 rfl rfl dX8_product_42 ?_
  refine go_callV (as := [.int v1]) C hR (shX8 G) (ltX8 hN) cwX8_125 (by omega) (by decide) rfl rfl (Nat.le_of_ble_eq_true rfl) dX8_product_43 (spX8_one h5 hFX8_around (Nat.le_refl _) hN hw) (fun v_ τ_ hw => ?_)
  obtain ⟨rfl, hw⟩ := hw
  obtain ⟨σ_5, rfl⟩ : ∃ z, z = τ_ := ⟨_, rfl⟩
  refine go_aload_n C 1 rfl rfl dX8_product_46 ?_
  obtain ⟨k_6, gk_6, hk_6, hw⟩ := hw
  refine go_get (v := .ref (G.2.2.1 (30 + 2 * k_6))) C (shX8 G) (ltX8 hN) lkX8_31 (by show some (va_rf ((gR σ_5 42 9).map G.2.2.1)) = _; rw [gk_6]; rfl) dX8_product_47 ?_
  refine go_iload_n C 0 rfl rfl dX8_product_50 ?_
  refine go_callV (as := [.int v3_1]) C hR (shX9 G hk_6) (ltX9 hN hk_6) cwX8_101 (by omega) (by decide) rfl rfl (Nat.le_of_ble_eq_true rfl) dX8_product_51 (spX9_put (Nat.le_refl _) hN hk_6 hw) (fun v_ τ_ hw => ?_)
  obtain ⟨rfl, hw⟩ := hw
  obtain ⟨σ_8, rfl⟩ : ∃ z, z = τ_ := ⟨_, rfl⟩
  obtain ⟨v2_9, ev2_9⟩ : ∃ z : Int32, z = v2 + 1 := ⟨_, rfl⟩
  replace hw := hw v2_9 ev2_9
  refine go_iinc (v := v2_9) (lv2 := [(2, .int v2_9), (3, .int v3_1), (0, .ref (G.2.2.1 42)), (1, .int v1)]) C 3 rfl (by rw [ev2_9]; rfl) (by rw [hnl]; decide) rfl dX8_product_54 ?_
  refine go_goto C 7 rfl dX8_product_57 ?_
  refine go_sub [2, 3, 0] rfl ?_
  exact hK7 _ _ _ hw
set_option maxRecDepth 20000 in
set_option maxHeartbeats 4000000 in
theorem gbX8_product_7 {X : XT} {G : GT} {l : Launch} {d : Nat}  {post : St → Prop} (C : Cx X G cX8_product RX8) (hr : Rt X G none (fun v τ => v = none ∧ post τ)) (hR : Rm X l d) (hnl : X.2.2.2.2.2.2.2.2.2.2.1 = 4) {FX8_around : Int32 → Int32 → St → (St → Prop) → Prop} {dF : Nat} (h5 : 5 ≤ dF) (hFX8_around : ∀ (a1 : Int32) (a2 : Int32) (σ : St) (post : St → Prop), FX8_around a1 a2 σ post → Sp l G dF yX8_around cX8_around 3 none [.ref (G.2.2.1 42), .int a1, .int a2] σ (fun v τ => v = none ∧ post τ)) (hd : dF + 2 ≤ d) (hN : 75 ≤ G.2.2.2.2.2)   
    : ∀ (n : Nat) (v1 : Int32) (v2 : Int32) (σ : St), wbX8_product_7 FX8_around  post n v1 v2 σ → Go X G 7 [(0, .ref (G.2.2.1 42)), (1, .int v1), (2, .int v2)] [] σ := by
  intro n
  induction n with
  | zero => intro v1 v2 σ hw; exact hw.elim
  | succ n ih =>
    intro v1 v2 σ hw
    have hw : ((300 ≤ v2 →
      post σ) ∧
    (¬ 300 ≤ v2 →
      (((gI σ 42 8) = 30 →
        wbX8_product_32 FX8_around (wbX8_product_7 FX8_around post n) post v1 v2 σ) ∧
      (¬ (gI σ 42 8) = 30 →
        ((¬ (gI σ 42 8) = 31 →
          post σ) ∧
        ((gI σ 42 8) = 31 →
          wbX8_product_32 FX8_around (wbX8_product_7 FX8_around post n) post v1 v2 σ)))))) := hw
    refine go_iload_n C 2 rfl rfl dX8_product_7 ?_
    refine go_sipush (v := 300) C rfl dX8_product_8 ?_
    refine go_icmp_ge C 60 rfl dX8_product_11 (fun hc => ?_) (fun hc => ?_)
    · replace hw := hw.1 hc
      exact go_vret C hr ⟨rfl, hw⟩ dX8_product_60
    · replace hw := hw.2 hc
      refine go_aload_n C 0 rfl rfl dX8_product_14 ?_
      refine go_get (v := .int (gI σ 42 8)) C (shX8 G) (ltX8 hN) lkX8_52 rfl dX8_product_15 ?_
      refine go_bipush (v := 30) C rfl dX8_product_18 ?_
      refine go_icmp_eq C 32 rfl dX8_product_20 (fun hc => ?_) (fun hc => ?_)
      · replace hw := hw.1 hc
        exact (gbX8_product_32 C hr hR hnl h5 hFX8_around hd hN ih) _ _ _ hw
      · replace hw := hw.2 hc
        refine go_aload_n C 0 rfl rfl dX8_product_23 ?_
        refine go_get (v := .int (gI σ 42 8)) C (shX8 G) (ltX8 hN) lkX8_52 rfl dX8_product_24 ?_
        refine go_bipush (v := 31) C rfl dX8_product_27 ?_
        refine go_icmp_ne C 60 rfl dX8_product_29 (fun hc => ?_) (fun hc => ?_)
        · replace hw := hw.1 hc
          exact go_vret C hr ⟨rfl, hw⟩ dX8_product_60
        · replace hw := hw.2 hc
          exact (gbX8_product_32 C hr hR hnl h5 hFX8_around hd hN ih) _ _ _ hw
set_option maxRecDepth 20000 in
set_option maxHeartbeats 4000000 in
theorem spX8_product {l : Launch} {G : GT} {d : Nat} {FX8_around : Int32 → Int32 → St → (St → Prop) → Prop} {dF : Nat} (h5 : 5 ≤ dF) (hFX8_around : ∀ (a1 : Int32) (a2 : Int32) (σ : St) (post : St → Prop), FX8_around a1 a2 σ post → Sp l G dF yX8_around cX8_around 3 none [.ref (G.2.2.1 42), .int a1, .int a2] σ (fun v τ => v = none ∧ post τ)) (hd : dF + 2 ≤ d)  (hN : 75 ≤ G.2.2.2.2.2)  {a1 : Int32} {σ : St} {post : St → Prop} (hw : wpX8_product FX8_around a1 σ post) : Sp l G d yX8_product cX8_product 4 none [.ref (G.2.2.1 42), .int a1] σ (fun v τ => v = none ∧ post τ) := by
  refine Sp.of (by decide) (Nat.le_of_ble_eq_true rfl) fun X C hr hR hnl => ?_
  show Go X G 0 [(0, .ref (G.2.2.1 42)), (1, .int a1)] [] σ
  have hw : wpX8_one FX8_around a1 σ (fun σ_2 =>
  ∃ m_7, wbX8_product_7 FX8_around post m_7 a1 0 σ_2) := hw
  refine go_aload_n C 0 rfl rfl dX8_product_0 ?_
  refine go_iload_n C 1 rfl rfl dX8_product_1 ?_
  refine go_callV (as := [.int a1]) C hR (shX8 G) (ltX8 hN) cwX8_125 (by omega) (by decide) rfl rfl (Nat.le_of_ble_eq_true rfl) dX8_product_2 (spX8_one h5 hFX8_around (Nat.le_refl _) hN hw) (fun v_ τ_ hw => ?_)
  obtain ⟨rfl, hw⟩ := hw
  obtain ⟨σ_2, rfl⟩ : ∃ z, z = τ_ := ⟨_, rfl⟩
  refine go_iconst (v := 0) C rfl dX8_product_5 ?_
  refine go_istore_n (lv2 := [(2, .int 0), (0, .ref (G.2.2.1 42)), (1, .int a1)]) C rfl (by rw [hnl]; decide) rfl dX8_product_6 ?_
  refine go_sub [1, 2, 0] rfl ?_
  obtain ⟨n_0, hw⟩ := hw
  exact (gbX8_product_7 C hr hR hnl h5 hFX8_around hd hN) n_0 _ _ _ hw
-- CradleNames$Reader.sum(I)V
set_option maxRecDepth 20000 in
set_option maxHeartbeats 4000000 in
theorem gbX8_sum_32 {X : XT} {G : GT} {l : Launch} {d : Nat}  {post : St → Prop} (C : Cx X G cX8_sum RX8) (hr : Rt X G none (fun v τ => v = none ∧ post τ)) (hR : Rm X l d) (hnl : X.2.2.2.2.2.2.2.2.2.2.1 = 4) {FX8_around : Int32 → Int32 → St → (St → Prop) → Prop} {dF : Nat} (h5 : 5 ≤ dF) (hFX8_around : ∀ (a1 : Int32) (a2 : Int32) (σ : St) (post : St → Prop), FX8_around a1 a2 σ post → Sp l G dF yX8_around cX8_around 3 none [.ref (G.2.2.1 42), .int a1, .int a2] σ (fun v τ => v = none ∧ post τ)) (hd : dF + 3 ≤ d) (hN : 75 ≤ G.2.2.2.2.2)  {K7 : Int32 → Int32 → St → Prop} (hK7 : ∀ (v1 : Int32) (v2 : Int32) (σ : St), K7 v1 v2 σ → Go X G 7 [(0, .ref (G.2.2.1 42)), (1, .int v1), (2, .int v2)] [] σ)
    : ∀ (v1 : Int32) (v2 : Int32) (σ : St), wbX8_sum_32 FX8_around K7 post v1 v2 σ → Go X G 32 [(0, .ref (G.2.2.1 42)), (1, .int v1), (2, .int v2)] [] σ := by
  intro v1 v2 σ hw
  have hw : ∀ v3_1 : Int32, v3_1 = (gI σ 42 8) →
  wpX8_advance  σ (fun σ_3 =>
  wpX8_product FX8_around v1 σ_3 (fun σ_5 =>
  ∃ k_6, gR σ_5 42 9 = some (30 + 2 * k_6) ∧ k_6 < 6 ∧ (
  wpX9_put k_6 v3_1 σ_5 (fun σ_8 =>
  ∀ v2_9 : Int32, v2_9 = v2 + 1 →
  K7 v1 v2_9 σ_8)))) := hw
  refine go_aload_n C 0 rfl rfl dX8_sum_32 ?_
  refine go_get (v := .int (gI σ 42 8)) C (shX8 G) (ltX8 hN) lkX8_52 rfl dX8_sum_33 ?_
  refine go_topi (fun v3_1 ev3_1 => ?_)
  replace hw := hw v3_1 ev3_1
  refine go_istore_n (lv2 := [(3, .int v3_1), (0, .ref (G.2.2.1 42)), (1, .int v1), (2, .int v2)]) C rfl (by rw [hnl]; decide) rfl dX8_sum_36 ?_
  refine go_aload_n C 1 rfl rfl dX8_sum_37 ?_
  refine go_callV (as := []) C hR (shX8 G) (ltX8 hN) cwX8_92 (by omega) (by decide) rfl rfl (Nat.le_of_ble_eq_true rfl) dX8_sum_38 (spX8_advance (Nat.le_refl _) hN hw) (fun v_ τ_ hw => ?_)
  obtain ⟨rfl, hw⟩ := hw
  obtain ⟨σ_3, rfl⟩ : ∃ z, z = τ_ := ⟨_, rfl⟩
  refine go_aload_n C 1 rfl rfl dX8_sum_41 ?_
  refine go_iload_n C 2 rfl rfl dX8_sum_42 ?_
  refine go_callV (as := [.int v1]) C hR (shX8 G) (ltX8 hN) cwX8_122 (by omega) (by decide) rfl rfl (Nat.le_of_ble_eq_true rfl) dX8_sum_43 (spX8_product h5 hFX8_around (Nat.le_refl _) hN hw) (fun v_ τ_ hw => ?_)
  obtain ⟨rfl, hw⟩ := hw
  obtain ⟨σ_5, rfl⟩ : ∃ z, z = τ_ := ⟨_, rfl⟩
  refine go_aload_n C 1 rfl rfl dX8_sum_46 ?_
  obtain ⟨k_6, gk_6, hk_6, hw⟩ := hw
  refine go_get (v := .ref (G.2.2.1 (30 + 2 * k_6))) C (shX8 G) (ltX8 hN) lkX8_31 (by show some (va_rf ((gR σ_5 42 9).map G.2.2.1)) = _; rw [gk_6]; rfl) dX8_sum_47 ?_
  refine go_iload_n C 0 rfl rfl dX8_sum_50 ?_
  refine go_callV (as := [.int v3_1]) C hR (shX9 G hk_6) (ltX9 hN hk_6) cwX8_101 (by omega) (by decide) rfl rfl (Nat.le_of_ble_eq_true rfl) dX8_sum_51 (spX9_put (Nat.le_refl _) hN hk_6 hw) (fun v_ τ_ hw => ?_)
  obtain ⟨rfl, hw⟩ := hw
  obtain ⟨σ_8, rfl⟩ : ∃ z, z = τ_ := ⟨_, rfl⟩
  obtain ⟨v2_9, ev2_9⟩ : ∃ z : Int32, z = v2 + 1 := ⟨_, rfl⟩
  replace hw := hw v2_9 ev2_9
  refine go_iinc (v := v2_9) (lv2 := [(2, .int v2_9), (3, .int v3_1), (0, .ref (G.2.2.1 42)), (1, .int v1)]) C 3 rfl (by rw [ev2_9]; rfl) (by rw [hnl]; decide) rfl dX8_sum_54 ?_
  refine go_goto C 7 rfl dX8_sum_57 ?_
  refine go_sub [2, 3, 0] rfl ?_
  exact hK7 _ _ _ hw
set_option maxRecDepth 20000 in
set_option maxHeartbeats 4000000 in
theorem gbX8_sum_7 {X : XT} {G : GT} {l : Launch} {d : Nat}  {post : St → Prop} (C : Cx X G cX8_sum RX8) (hr : Rt X G none (fun v τ => v = none ∧ post τ)) (hR : Rm X l d) (hnl : X.2.2.2.2.2.2.2.2.2.2.1 = 4) {FX8_around : Int32 → Int32 → St → (St → Prop) → Prop} {dF : Nat} (h5 : 5 ≤ dF) (hFX8_around : ∀ (a1 : Int32) (a2 : Int32) (σ : St) (post : St → Prop), FX8_around a1 a2 σ post → Sp l G dF yX8_around cX8_around 3 none [.ref (G.2.2.1 42), .int a1, .int a2] σ (fun v τ => v = none ∧ post τ)) (hd : dF + 3 ≤ d) (hN : 75 ≤ G.2.2.2.2.2)   
    : ∀ (n : Nat) (v1 : Int32) (v2 : Int32) (σ : St), wbX8_sum_7 FX8_around  post n v1 v2 σ → Go X G 7 [(0, .ref (G.2.2.1 42)), (1, .int v1), (2, .int v2)] [] σ := by
  intro n
  induction n with
  | zero => intro v1 v2 σ hw; exact hw.elim
  | succ n ih =>
    intro v1 v2 σ hw
    have hw : ((300 ≤ v2 →
      post σ) ∧
    (¬ 300 ≤ v2 →
      (((gI σ 42 8) = 28 →
        wbX8_sum_32 FX8_around (wbX8_sum_7 FX8_around post n) post v1 v2 σ) ∧
      (¬ (gI σ 42 8) = 28 →
        ((¬ (gI σ 42 8) = 29 →
          post σ) ∧
        ((gI σ 42 8) = 29 →
          wbX8_sum_32 FX8_around (wbX8_sum_7 FX8_around post n) post v1 v2 σ)))))) := hw
    refine go_iload_n C 2 rfl rfl dX8_sum_7 ?_
    refine go_sipush (v := 300) C rfl dX8_sum_8 ?_
    refine go_icmp_ge C 60 rfl dX8_sum_11 (fun hc => ?_) (fun hc => ?_)
    · replace hw := hw.1 hc
      exact go_vret C hr ⟨rfl, hw⟩ dX8_sum_60
    · replace hw := hw.2 hc
      refine go_aload_n C 0 rfl rfl dX8_sum_14 ?_
      refine go_get (v := .int (gI σ 42 8)) C (shX8 G) (ltX8 hN) lkX8_52 rfl dX8_sum_15 ?_
      refine go_bipush (v := 28) C rfl dX8_sum_18 ?_
      refine go_icmp_eq C 32 rfl dX8_sum_20 (fun hc => ?_) (fun hc => ?_)
      · replace hw := hw.1 hc
        exact (gbX8_sum_32 C hr hR hnl h5 hFX8_around hd hN ih) _ _ _ hw
      · replace hw := hw.2 hc
        refine go_aload_n C 0 rfl rfl dX8_sum_23 ?_
        refine go_get (v := .int (gI σ 42 8)) C (shX8 G) (ltX8 hN) lkX8_52 rfl dX8_sum_24 ?_
        refine go_bipush (v := 29) C rfl dX8_sum_27 ?_
        refine go_icmp_ne C 60 rfl dX8_sum_29 (fun hc => ?_) (fun hc => ?_)
        · replace hw := hw.1 hc
          exact go_vret C hr ⟨rfl, hw⟩ dX8_sum_60
        · replace hw := hw.2 hc
          exact (gbX8_sum_32 C hr hR hnl h5 hFX8_around hd hN ih) _ _ _ hw
set_option maxRecDepth 20000 in
set_option maxHeartbeats 4000000 in
theorem spX8_sum {l : Launch} {G : GT} {d : Nat} {FX8_around : Int32 → Int32 → St → (St → Prop) → Prop} {dF : Nat} (h5 : 5 ≤ dF) (hFX8_around : ∀ (a1 : Int32) (a2 : Int32) (σ : St) (post : St → Prop), FX8_around a1 a2 σ post → Sp l G dF yX8_around cX8_around 3 none [.ref (G.2.2.1 42), .int a1, .int a2] σ (fun v τ => v = none ∧ post τ)) (hd : dF + 3 ≤ d)  (hN : 75 ≤ G.2.2.2.2.2)  {a1 : Int32} {σ : St} {post : St → Prop} (hw : wpX8_sum FX8_around a1 σ post) : Sp l G d yX8_sum cX8_sum 4 none [.ref (G.2.2.1 42), .int a1] σ (fun v τ => v = none ∧ post τ) := by
  refine Sp.of (by decide) (Nat.le_of_ble_eq_true rfl) fun X C hr hR hnl => ?_
  show Go X G 0 [(0, .ref (G.2.2.1 42)), (1, .int a1)] [] σ
  have hw : wpX8_product FX8_around a1 σ (fun σ_2 =>
  ∃ m_7, wbX8_sum_7 FX8_around post m_7 a1 0 σ_2) := hw
  refine go_aload_n C 0 rfl rfl dX8_sum_0 ?_
  refine go_iload_n C 1 rfl rfl dX8_sum_1 ?_
  refine go_callV (as := [.int a1]) C hR (shX8 G) (ltX8 hN) cwX8_122 (by omega) (by decide) rfl rfl (Nat.le_of_ble_eq_true rfl) dX8_sum_2 (spX8_product h5 hFX8_around (Nat.le_refl _) hN hw) (fun v_ τ_ hw => ?_)
  obtain ⟨rfl, hw⟩ := hw
  obtain ⟨σ_2, rfl⟩ : ∃ z, z = τ_ := ⟨_, rfl⟩
  refine go_iconst (v := 0) C rfl dX8_sum_5 ?_
  refine go_istore_n (lv2 := [(2, .int 0), (0, .ref (G.2.2.1 42)), (1, .int a1)]) C rfl (by rw [hnl]; decide) rfl dX8_sum_6 ?_
  refine go_sub [1, 2, 0] rfl ?_
  obtain ⟨n_0, hw⟩ := hw
  exact (gbX8_sum_7 C hr hR hnl h5 hFX8_around hd hN) n_0 _ _ _ hw
-- CradleNames$Reader.around(II)V
set_option maxRecDepth 20000 in
set_option maxHeartbeats 4000000 in
theorem gbX8_around_112 {X : XT} {G : GT} {l : Launch} {d : Nat}  {post : St → Prop} (C : Cx X G cX8_around RX8) (hr : Rt X G none (fun v τ => v = none ∧ post τ)) (hR : Rm X l d) (hnl : X.2.2.2.2.2.2.2.2.2.2.1 = 3) {FX8_around : Int32 → Int32 → St → (St → Prop) → Prop} {dF : Nat} (h5 : 5 ≤ dF) (hFX8_around : ∀ (a1 : Int32) (a2 : Int32) (σ : St) (post : St → Prop), FX8_around a1 a2 σ post → Sp l G dF yX8_around cX8_around 3 none [.ref (G.2.2.1 42), .int a1, .int a2] σ (fun v τ => v = none ∧ post τ)) (hd : dF + 4 ≤ d) (hN : 75 ≤ G.2.2.2.2.2)   
    : ∀ (σ : St), wbX8_around_112 FX8_around  post σ → Go X G 112 [(0, .ref (G.2.2.1 42))] [] σ := by
  intro σ hw
  have hw : wpX8_expect 33 σ (fun σ_2 =>
  post σ_2) := hw
  refine go_aload_n C 0 rfl rfl dX8_around_112 ?_
  refine go_bipush (v := 33) C rfl dX8_around_113 ?_
  refine go_callV (as := [.int 33]) C hR (shX8 G) (ltX8 hN) cwX8_110 (by omega) (by decide) rfl rfl (Nat.le_of_ble_eq_true rfl) dX8_around_115 (spX8_expect (Nat.le_refl _) hN hw) (fun v_ τ_ hw => ?_)
  obtain ⟨rfl, hw⟩ := hw
  obtain ⟨σ_2, rfl⟩ : ∃ z, z = τ_ := ⟨_, rfl⟩
  exact go_vret C hr ⟨rfl, hw⟩ dX8_around_118
set_option maxRecDepth 20000 in
set_option maxHeartbeats 4000000 in
theorem gbX8_around_41 {X : XT} {G : GT} {l : Launch} {d : Nat}  {post : St → Prop} (C : Cx X G cX8_around RX8) (hr : Rt X G none (fun v τ => v = none ∧ post τ)) (hR : Rm X l d) (hnl : X.2.2.2.2.2.2.2.2.2.2.1 = 3) {FX8_around : Int32 → Int32 → St → (St → Prop) → Prop} {dF : Nat} (h5 : 5 ≤ dF) (hFX8_around : ∀ (a1 : Int32) (a2 : Int32) (σ : St) (post : St → Prop), FX8_around a1 a2 σ post → Sp l G dF yX8_around cX8_around 3 none [.ref (G.2.2.1 42), .int a1, .int a2] σ (fun v τ => v = none ∧ post τ)) (hd : dF + 4 ≤ d) (hN : 75 ≤ G.2.2.2.2.2)   
    : ∀ (v1 : Int32) (v2 : Int32) (σ : St), wbX8_around_41 FX8_around  post v1 v2 σ → Go X G 41 [(0, .ref (G.2.2.1 42)), (1, .int v1), (2, .int v2)] [] σ := by
  intro v1 v2 σ hw
  have hw : ((¬ (gI σ 42 8) = 39 →
    wpX8_advance  σ (fun σ_2 =>
    ((¬ v1 = 29 →
      wpX8_sum FX8_around (v2 + 1) σ_2 (fun σ_4 =>
      ((v1 = 32 →
        wbX8_around_112 FX8_around post σ_4) ∧
      (¬ v1 = 32 →
        wpX8_expect 34 σ_4 (fun σ_6 =>
        wpX8_sum FX8_around (v2 + 1) σ_6 (fun σ_8 =>
        ∃ k_9, gR σ_8 42 9 = some (30 + 2 * k_9) ∧ k_9 < 6 ∧ (
        wpX9_put k_9 v1 σ_8 (fun σ_11 =>
        wbX8_around_112 FX8_around post σ_11)))))))) ∧
    (v1 = 29 →
      wpX8_one FX8_around (v2 + 1) σ_2 (fun σ_13 =>
      ∃ k_14, gR σ_13 42 9 = some (30 + 2 * k_14) ∧ k_14 < 6 ∧ (
      wpX9_put k_14 40 σ_13 (fun σ_16 =>
      post σ_16))))))) ∧
  ((gI σ 42 8) = 39 →
    post σ)) := hw
  refine go_aload_n C 0 rfl rfl dX8_around_41 ?_
  refine go_get (v := .int (gI σ 42 8)) C (shX8 G) (ltX8 hN) lkX8_52 rfl dX8_around_42 ?_
  refine go_bipush (v := 39) C rfl dX8_around_45 ?_
  refine go_icmp_ne C 51 rfl dX8_around_47 (fun hc => ?_) (fun hc => ?_)
  · replace hw := hw.1 hc
    refine go_aload_n C 0 rfl rfl dX8_around_51 ?_
    refine go_callV (as := []) C hR (shX8 G) (ltX8 hN) cwX8_92 (by omega) (by decide) rfl rfl (Nat.le_of_ble_eq_true rfl) dX8_around_52 (spX8_advance (Nat.le_refl _) hN hw) (fun v_ τ_ hw => ?_)
    obtain ⟨rfl, hw⟩ := hw
    obtain ⟨σ_2, rfl⟩ : ∃ z, z = τ_ := ⟨_, rfl⟩
    refine go_iload_n C 1 rfl rfl dX8_around_55 ?_
    refine go_bipush (v := 29) C rfl dX8_around_56 ?_
    refine go_icmp_ne C 78 rfl dX8_around_58 (fun hc => ?_) (fun hc => ?_)
    · replace hw := hw.1 hc
      refine go_aload_n C 0 rfl rfl dX8_around_78 ?_
      refine go_iload_n C 2 rfl rfl dX8_around_79 ?_
      refine go_iconst (v := 1) C rfl dX8_around_80 ?_
      refine go_iadd C dX8_around_81 ?_
      refine go_callV (as := [.int (v2 + 1)]) C hR (shX8 G) (ltX8 hN) cwX8_98 (by omega) (by decide) rfl rfl (Nat.le_of_ble_eq_true rfl) dX8_around_82 (spX8_sum h5 hFX8_around (Nat.le_refl _) hN hw) (fun v_ τ_ hw => ?_)
      obtain ⟨rfl, hw⟩ := hw
      obtain ⟨σ_4, rfl⟩ : ∃ z, z = τ_ := ⟨_, rfl⟩
      refine go_iload_n C 1 rfl rfl dX8_around_85 ?_
      refine go_bipush (v := 32) C rfl dX8_around_86 ?_
      refine go_icmp_eq C 112 rfl dX8_around_88 (fun hc => ?_) (fun hc => ?_)
      · replace hw := hw.1 hc
        refine go_sub [0] rfl ?_
        exact (gbX8_around_112 C hr hR hnl h5 hFX8_around hd hN) _ hw
      · replace hw := hw.2 hc
        refine go_aload_n C 0 rfl rfl dX8_around_91 ?_
        refine go_bipush (v := 34) C rfl dX8_around_92 ?_
        refine go_callV (as := [.int 34]) C hR (shX8 G) (ltX8 hN) cwX8_110 (by omega) (by decide) rfl rfl (Nat.le_of_ble_eq_true rfl) dX8_around_94 (spX8_expect (Nat.le_refl _) hN hw) (fun v_ τ_ hw => ?_)
        obtain ⟨rfl, hw⟩ := hw
        obtain ⟨σ_6, rfl⟩ : ∃ z, z = τ_ := ⟨_, rfl⟩
        refine go_aload_n C 0 rfl rfl dX8_around_97 ?_
        refine go_iload_n C 2 rfl rfl dX8_around_98 ?_
        refine go_iconst (v := 1) C rfl dX8_around_99 ?_
        refine go_iadd C dX8_around_100 ?_
        refine go_callV (as := [.int (v2 + 1)]) C hR (shX8 G) (ltX8 hN) cwX8_98 (by omega) (by decide) rfl rfl (Nat.le_of_ble_eq_true rfl) dX8_around_101 (spX8_sum h5 hFX8_around (Nat.le_refl _) hN hw) (fun v_ τ_ hw => ?_)
        obtain ⟨rfl, hw⟩ := hw
        obtain ⟨σ_8, rfl⟩ : ∃ z, z = τ_ := ⟨_, rfl⟩
        refine go_aload_n C 0 rfl rfl dX8_around_104 ?_
        obtain ⟨k_9, gk_9, hk_9, hw⟩ := hw
        refine go_get (v := .ref (G.2.2.1 (30 + 2 * k_9))) C (shX8 G) (ltX8 hN) lkX8_31 (by show some (va_rf ((gR σ_8 42 9).map G.2.2.1)) = _; rw [gk_9]; rfl) dX8_around_105 ?_
        refine go_iload_n C 1 rfl rfl dX8_around_108 ?_
        refine go_callV (as := [.int v1]) C hR (shX9 G hk_9) (ltX9 hN hk_9) cwX8_101 (by omega) (by decide) rfl rfl (Nat.le_of_ble_eq_true rfl) dX8_around_109 (spX9_put (Nat.le_refl _) hN hk_9 hw) (fun v_ τ_ hw => ?_)
        obtain ⟨rfl, hw⟩ := hw
        obtain ⟨σ_11, rfl⟩ : ∃ z, z = τ_ := ⟨_, rfl⟩
        refine go_sub [0] rfl ?_
        exact (gbX8_around_112 C hr hR hnl h5 hFX8_around hd hN) _ hw
    · replace hw := hw.2 hc
      refine go_aload_n C 0 rfl rfl dX8_around_61 ?_
      refine go_iload_n C 2 rfl rfl dX8_around_62 ?_
      refine go_iconst (v := 1) C rfl dX8_around_63 ?_
      refine go_iadd C dX8_around_64 ?_
      refine go_callV (as := [.int (v2 + 1)]) C hR (shX8 G) (ltX8 hN) cwX8_125 (by omega) (by decide) rfl rfl (Nat.le_of_ble_eq_true rfl) dX8_around_65 (spX8_one h5 hFX8_around (Nat.le_refl _) hN hw) (fun v_ τ_ hw => ?_)
      obtain ⟨rfl, hw⟩ := hw
      obtain ⟨σ_13, rfl⟩ : ∃ z, z = τ_ := ⟨_, rfl⟩
      refine go_aload_n C 0 rfl rfl dX8_around_68 ?_
      obtain ⟨k_14, gk_14, hk_14, hw⟩ := hw
      refine go_get (v := .ref (G.2.2.1 (30 + 2 * k_14))) C (shX8 G) (ltX8 hN) lkX8_31 (by show some (va_rf ((gR σ_13 42 9).map G.2.2.1)) = _; rw [gk_14]; rfl) dX8_around_69 ?_
      refine go_bipush (v := 40) C rfl dX8_around_72 ?_
      refine go_callV (as := [.int 40]) C hR (shX9 G hk_14) (ltX9 hN hk_14) cwX8_101 (by omega) (by decide) rfl rfl (Nat.le_of_ble_eq_true rfl) dX8_around_74 (spX9_put (Nat.le_refl _) hN hk_14 hw) (fun v_ τ_ hw => ?_)
      obtain ⟨rfl, hw⟩ := hw
      obtain ⟨σ_16, rfl⟩ : ∃ z, z = τ_ := ⟨_, rfl⟩
      exact go_vret C hr ⟨rfl, hw⟩ dX8_around_77
  · replace hw := hw.2 hc
    exact go_vret C hr ⟨rfl, hw⟩ dX8_around_50
set_option maxRecDepth 20000 in
set_option maxHeartbeats 4000000 in
theorem gbX8_around_12 {X : XT} {G : GT} {l : Launch} {d : Nat}  {post : St → Prop} (C : Cx X G cX8_around RX8) (hr : Rt X G none (fun v τ => v = none ∧ post τ)) (hR : Rm X l d) (hnl : X.2.2.2.2.2.2.2.2.2.2.1 = 3) {FX8_around : Int32 → Int32 → St → (St → Prop) → Prop} {dF : Nat} (h5 : 5 ≤ dF) (hFX8_around : ∀ (a1 : Int32) (a2 : Int32) (σ : St) (post : St → Prop), FX8_around a1 a2 σ post → Sp l G dF yX8_around cX8_around 3 none [.ref (G.2.2.1 42), .int a1, .int a2] σ (fun v τ => v = none ∧ post τ)) (hd : dF + 4 ≤ d) (hN : 75 ≤ G.2.2.2.2.2)  {K30 : Int32 → Int32 → St → Prop} (hK30 : ∀ (v1 : Int32) (v2 : Int32) (σ : St), K30 v1 v2 σ → Go X G 30 [(0, .ref (G.2.2.1 42)), (1, .int v1), (2, .int v2)] [] σ)
    : ∀ (v1 : Int32) (v2 : Int32) (σ : St), wbX8_around_12 FX8_around K30 post v1 v2 σ → Go X G 12 [(0, .ref (G.2.2.1 42)), (1, .int v1), (2, .int v2)] [] σ := by
  intro v1 v2 σ hw
  have hw : wpX8_advance  σ (fun σ_2 =>
  (((gI σ_2 42 8) = 32 →
    K30 v1 v2 σ_2) ∧
  (¬ (gI σ_2 42 8) = 32 →
    wpX8_fail 1 σ_2 (fun σ_4 =>
    K30 v1 v2 σ_4)))) := hw
  refine go_aload_n C 0 rfl rfl dX8_around_12 ?_
  refine go_callV (as := []) C hR (shX8 G) (ltX8 hN) cwX8_92 (by omega) (by decide) rfl rfl (Nat.le_of_ble_eq_true rfl) dX8_around_13 (spX8_advance (Nat.le_refl _) hN hw) (fun v_ τ_ hw => ?_)
  obtain ⟨rfl, hw⟩ := hw
  obtain ⟨σ_2, rfl⟩ : ∃ z, z = τ_ := ⟨_, rfl⟩
  refine go_aload_n C 0 rfl rfl dX8_around_16 ?_
  refine go_get (v := .int (gI σ_2 42 8)) C (shX8 G) (ltX8 hN) lkX8_52 rfl dX8_around_17 ?_
  refine go_bipush (v := 32) C rfl dX8_around_20 ?_
  refine go_icmp_eq C 30 rfl dX8_around_22 (fun hc => ?_) (fun hc => ?_)
  · replace hw := hw.1 hc
    exact hK30 _ _ _ hw
  · replace hw := hw.2 hc
    refine go_aload_n C 0 rfl rfl dX8_around_25 ?_
    refine go_iconst (v := 1) C rfl dX8_around_26 ?_
    refine go_callV (as := [.int 1]) C hR (shX8 G) (ltX8 hN) cwX8_95 (by omega) (by decide) rfl rfl (Nat.le_of_ble_eq_true rfl) dX8_around_27 (spX8_fail (Nat.le_refl _) hN hw) (fun v_ τ_ hw => ?_)
    obtain ⟨rfl, hw⟩ := hw
    obtain ⟨σ_4, rfl⟩ : ∃ z, z = τ_ := ⟨_, rfl⟩
    exact hK30 _ _ _ hw
set_option maxRecDepth 20000 in
set_option maxHeartbeats 4000000 in
theorem gbX8_around_30 {X : XT} {G : GT} {l : Launch} {d : Nat}  {post : St → Prop} (C : Cx X G cX8_around RX8) (hr : Rt X G none (fun v τ => v = none ∧ post τ)) (hR : Rm X l d) (hnl : X.2.2.2.2.2.2.2.2.2.2.1 = 3) {FX8_around : Int32 → Int32 → St → (St → Prop) → Prop} {dF : Nat} (h5 : 5 ≤ dF) (hFX8_around : ∀ (a1 : Int32) (a2 : Int32) (σ : St) (post : St → Prop), FX8_around a1 a2 σ post → Sp l G dF yX8_around cX8_around 3 none [.ref (G.2.2.1 42), .int a1, .int a2] σ (fun v τ => v = none ∧ post τ)) (hd : dF + 4 ≤ d) (hN : 75 ≤ G.2.2.2.2.2)   
    : ∀ (v1 : Int32) (v2 : Int32) (σ : St), wbX8_around_30 FX8_around  post v1 v2 σ → Go X G 30 [(0, .ref (G.2.2.1 42)), (1, .int v1), (2, .int v2)] [] σ := by
  intro v1 v2 σ hw
  have hw : ((v2 < 8 →
    wbX8_around_41 FX8_around post v1 v2 σ) ∧
  (¬ v2 < 8 →
    wpX8_fail 3 σ (fun σ_2 =>
    wbX8_around_41 FX8_around post v1 v2 σ_2))) := hw
  refine go_iload_n C 2 rfl rfl dX8_around_30 ?_
  refine go_bipush (v := 8) C rfl dX8_around_31 ?_
  refine go_icmp_lt C 41 rfl dX8_around_33 (fun hc => ?_) (fun hc => ?_)
  · replace hw := hw.1 hc
    exact (gbX8_around_41 C hr hR hnl h5 hFX8_around hd hN) _ _ _ hw
  · replace hw := hw.2 hc
    refine go_aload_n C 0 rfl rfl dX8_around_36 ?_
    refine go_iconst (v := 3) C rfl dX8_around_37 ?_
    refine go_callV (as := [.int 3]) C hR (shX8 G) (ltX8 hN) cwX8_95 (by omega) (by decide) rfl rfl (Nat.le_of_ble_eq_true rfl) dX8_around_38 (spX8_fail (Nat.le_refl _) hN hw) (fun v_ τ_ hw => ?_)
    obtain ⟨rfl, hw⟩ := hw
    obtain ⟨σ_2, rfl⟩ : ∃ z, z = τ_ := ⟨_, rfl⟩
    exact (gbX8_around_41 C hr hR hnl h5 hFX8_around hd hN) _ _ _ hw
set_option maxRecDepth 20000 in
set_option maxHeartbeats 4000000 in
theorem spX8_around {l : Launch} {G : GT} {d : Nat} {FX8_around : Int32 → Int32 → St → (St → Prop) → Prop} {dF : Nat} (h5 : 5 ≤ dF) (hFX8_around : ∀ (a1 : Int32) (a2 : Int32) (σ : St) (post : St → Prop), FX8_around a1 a2 σ post → Sp l G dF yX8_around cX8_around 3 none [.ref (G.2.2.1 42), .int a1, .int a2] σ (fun v τ => v = none ∧ post τ)) (hd : dF + 4 ≤ d)  (hN : 75 ≤ G.2.2.2.2.2)  {a1 : Int32} {a2 : Int32} {σ : St} {post : St → Prop} (hw : wpX8_around FX8_around a1 a2 σ post) : Sp l G d yX8_around cX8_around 3 none [.ref (G.2.2.1 42), .int a1, .int a2] σ (fun v τ => v = none ∧ post τ) := by
  refine Sp.of (by decide) (Nat.le_of_ble_eq_true rfl) fun X C hr hR hnl => ?_
  show Go X G 0 [(0, .ref (G.2.2.1 42)), (1, .int a1), (2, .int a2)] [] σ
  have hw : ((a1 = 20 →
    wbX8_around_12 FX8_around (wbX8_around_30 FX8_around post) post a1 a2 σ) ∧
  (¬ a1 = 20 →
    ((¬ a1 = 21 →
      wbX8_around_30 FX8_around post a1 a2 σ) ∧
    (a1 = 21 →
      wbX8_around_12 FX8_around (wbX8_around_30 FX8_around post) post a1 a2 σ)))) := hw
  refine go_iload_n C 1 rfl rfl dX8_around_0 ?_
  refine go_bipush (v := 20) C rfl dX8_around_1 ?_
  refine go_icmp_eq C 12 rfl dX8_around_3 (fun hc => ?_) (fun hc => ?_)
  · replace hw := hw.1 hc
    exact (gbX8_around_12 C hr hR hnl h5 hFX8_around hd hN (gbX8_around_30 C hr hR hnl h5 hFX8_around hd hN)) _ _ _ hw
  · replace hw := hw.2 hc
    refine go_iload_n C 1 rfl rfl dX8_around_6 ?_
    refine go_bipush (v := 21) C rfl dX8_around_7 ?_
    refine go_icmp_ne C 30 rfl dX8_around_9 (fun hc => ?_) (fun hc => ?_)
    · replace hw := hw.1 hc
      exact (gbX8_around_30 C hr hR hnl h5 hFX8_around hd hN) _ _ _ hw
    · replace hw := hw.2 hc
      exact (gbX8_around_12 C hr hR hnl h5 hFX8_around hd hN (gbX8_around_30 C hr hR hnl h5 hFX8_around hd hN)) _ _ _ hw
theorem srX8_around {l : Launch} {G : GT} (hN : 75 ≤ G.2.2.2.2.2) : ∀ (n : Nat) (a1 : Int32) (a2 : Int32) (σ : St) (post : St → Prop), wrX8_around n a1 a2 σ post → Sp l G (5 + 4 * n) yX8_around cX8_around 3 none [.ref (G.2.2.1 42), .int a1, .int a2] σ (fun v τ => v = none ∧ post τ)
  | 0, _, _, _, _, hw => hw.elim
  | n + 1, _, _, _, _, hw => spX8_around (by omega) (srX8_around hN n) (by omega) hN  hw
-- CradleNames$Reader.ask()V
set_option maxRecDepth 20000 in
set_option maxHeartbeats 4000000 in
theorem gbX8_ask_89 {X : XT} {G : GT} {l : Launch} {d : Nat}  {post : St → Prop} (C : Cx X G cX8_ask RX8) (hr : Rt X G none (fun v τ => v = none ∧ post τ)) (hR : Rm X l d) (hnl : X.2.2.2.2.2.2.2.2.2.2.1 = 4)  (hd : 57 ≤ d) (hN : 75 ≤ G.2.2.2.2.2)   
    : ∀ (n : Nat) (v1 : Int32) (v3 : Int32) (σ : St), wbX8_ask_89   post n v1 v3 σ → Go X G 89 [(0, .ref (G.2.2.1 42)), (1, .int v1), (3, .int v3)] [] σ := by
  intro n
  induction n with
  | zero => intro v1 v3 σ hw; exact hw.elim
  | succ n ih =>
    intro v1 v3 σ hw
    have hw : ((v1 ≤ v3 →
      post σ) ∧
    (¬ v1 ≤ v3 →
      ∃ k_1, gR σ 42 9 = some (30 + 2 * k_1) ∧ k_1 < 6 ∧ (
      wpX9_put k_1 19 σ (fun σ_3 =>
      ∀ v3_4 : Int32, v3_4 = v3 + 1 →
      wbX8_ask_89 post n v1 v3_4 σ_3)))) := hw
    refine go_iload_n C 2 rfl rfl dX8_ask_89 ?_
    refine go_iload_n C 1 rfl rfl dX8_ask_90 ?_
    refine go_icmp_ge C 109 rfl dX8_ask_91 (fun hc => ?_) (fun hc => ?_)
    · replace hw := hw.1 hc
      exact go_vret C hr ⟨rfl, hw⟩ dX8_ask_109
    · replace hw := hw.2 hc
      refine go_aload_n C 0 rfl rfl dX8_ask_94 ?_
      obtain ⟨k_1, gk_1, hk_1, hw⟩ := hw
      refine go_get (v := .ref (G.2.2.1 (30 + 2 * k_1))) C (shX8 G) (ltX8 hN) lkX8_31 (by show some (va_rf ((gR σ 42 9).map G.2.2.1)) = _; rw [gk_1]; rfl) dX8_ask_95 ?_
      refine go_bipush (v := 19) C rfl dX8_ask_98 ?_
      refine go_callV (as := [.int 19]) C hR (shX9 G hk_1) (ltX9 hN hk_1) cwX8_101 (Nat.le_trans (by decide) hd) (by decide) rfl rfl (Nat.le_of_ble_eq_true rfl) dX8_ask_100 (spX9_put (Nat.le_refl _) hN hk_1 hw) (fun v_ τ_ hw => ?_)
      obtain ⟨rfl, hw⟩ := hw
      obtain ⟨σ_3, rfl⟩ : ∃ z, z = τ_ := ⟨_, rfl⟩
      obtain ⟨v3_4, ev3_4⟩ : ∃ z : Int32, z = v3 + 1 := ⟨_, rfl⟩
      replace hw := hw v3_4 ev3_4
      refine go_iinc (v := v3_4) (lv2 := [(3, .int v3_4), (0, .ref (G.2.2.1 42)), (1, .int v1)]) C 2 rfl (by rw [ev3_4]; rfl) (by rw [hnl]; decide) rfl dX8_ask_103 ?_
      refine go_goto C 89 rfl dX8_ask_106 ?_
      refine go_sub [1, 2, 0] rfl ?_
      exact ih _ _ _ hw
set_option maxRecDepth 20000 in
set_option maxHeartbeats 4000000 in
theorem gbX8_ask_65 {X : XT} {G : GT} {l : Launch} {d : Nat}  {post : St → Prop} (C : Cx X G cX8_ask RX8) (hr : Rt X G none (fun v τ => v = none ∧ post τ)) (hR : Rm X l d) (hnl : X.2.2.2.2.2.2.2.2.2.2.1 = 4)  (hd : 57 ≤ d) (hN : 75 ≤ G.2.2.2.2.2)  {K70 : Int32 → Int32 → St → Prop} (hK70 : ∀ (v1 : Int32) (v2 : Int32) (σ : St), K70 v1 v2 σ → Go X G 70 [(0, .ref (G.2.2.1 42)), (1, .int v1), (2, .int v2)] [] σ)
    : ∀ (v1 : Int32) (v2 : Int32) (σ : St), wbX8_ask_65  K70 post v1 v2 σ → Go X G 65 [(0, .ref (G.2.2.1 42)), (1, .int v1), (2, .int v2)] [] σ := by
  intro v1 v2 σ hw
  have hw : wpX8_fail 1 σ (fun σ_2 =>
  K70 v1 v2 σ_2) := hw
  refine go_aload_n C 0 rfl rfl dX8_ask_65 ?_
  refine go_iconst (v := 1) C rfl dX8_ask_66 ?_
  refine go_callV (as := [.int 1]) C hR (shX8 G) (ltX8 hN) cwX8_95 (Nat.le_trans (by decide) hd) (by decide) rfl rfl (Nat.le_of_ble_eq_true rfl) dX8_ask_67 (spX8_fail (Nat.le_refl _) hN hw) (fun v_ τ_ hw => ?_)
  obtain ⟨rfl, hw⟩ := hw
  obtain ⟨σ_2, rfl⟩ : ∃ z, z = τ_ := ⟨_, rfl⟩
  exact hK70 _ _ _ hw
set_option maxRecDepth 20000 in
set_option maxHeartbeats 4000000 in
theorem gbX8_ask_70 {X : XT} {G : GT} {l : Launch} {d : Nat}  {post : St → Prop} (C : Cx X G cX8_ask RX8) (hr : Rt X G none (fun v τ => v = none ∧ post τ)) (hR : Rm X l d) (hnl : X.2.2.2.2.2.2.2.2.2.2.1 = 4)  (hd : 57 ≤ d) (hN : 75 ≤ G.2.2.2.2.2)   
    : ∀ (v1 : Int32) (v2 : Int32) (σ : St), wbX8_ask_70   post v1 v2 σ → Go X G 70 [(0, .ref (G.2.2.1 42)), (1, .int v1), (2, .int v2)] [] σ := by
  intro v1 v2 σ hw
  have hw : wpX8_advance  σ (fun σ_2 =>
  wpX8_sum (wrX8_around 12) v1 σ_2 (fun σ_4 =>
  ∃ k_5, gR σ_4 42 9 = some (30 + 2 * k_5) ∧ k_5 < 6 ∧ (
  wpX9_put k_5 v2 σ_4 (fun σ_7 =>
  ∃ m_89, wbX8_ask_89 post m_89 v1 0 σ_7)))) := hw
  refine go_aload_n C 0 rfl rfl dX8_ask_70 ?_
  refine go_callV (as := []) C hR (shX8 G) (ltX8 hN) cwX8_92 (Nat.le_trans (by decide) hd) (by decide) rfl rfl (Nat.le_of_ble_eq_true rfl) dX8_ask_71 (spX8_advance (Nat.le_refl _) hN hw) (fun v_ τ_ hw => ?_)
  obtain ⟨rfl, hw⟩ := hw
  obtain ⟨σ_2, rfl⟩ : ∃ z, z = τ_ := ⟨_, rfl⟩
  refine go_aload_n C 0 rfl rfl dX8_ask_74 ?_
  refine go_iload_n C 1 rfl rfl dX8_ask_75 ?_
  refine go_callV (as := [.int v1]) C hR (shX8 G) (ltX8 hN) cwX8_98 (Nat.le_trans (by decide) hd) (by decide) rfl rfl (Nat.le_of_ble_eq_true rfl) dX8_ask_76 (spX8_sum (dF := 53) (by decide) (srX8_around hN 12) (Nat.le_refl _) hN hw) (fun v_ τ_ hw => ?_)
  obtain ⟨rfl, hw⟩ := hw
  obtain ⟨σ_4, rfl⟩ : ∃ z, z = τ_ := ⟨_, rfl⟩
  refine go_aload_n C 0 rfl rfl dX8_ask_79 ?_
  obtain ⟨k_5, gk_5, hk_5, hw⟩ := hw
  refine go_get (v := .ref (G.2.2.1 (30 + 2 * k_5))) C (shX8 G) (ltX8 hN) lkX8_31 (by show some (va_rf ((gR σ_4 42 9).map G.2.2.1)) = _; rw [gk_5]; rfl) dX8_ask_80 ?_
  refine go_iload_n C 2 rfl rfl dX8_ask_83 ?_
  refine go_callV (as := [.int v2]) C hR (shX9 G hk_5) (ltX9 hN hk_5) cwX8_101 (Nat.le_trans (by decide) hd) (by decide) rfl rfl (Nat.le_of_ble_eq_true rfl) dX8_ask_84 (spX9_put (Nat.le_refl _) hN hk_5 hw) (fun v_ τ_ hw => ?_)
  obtain ⟨rfl, hw⟩ := hw
  obtain ⟨σ_7, rfl⟩ : ∃ z, z = τ_ := ⟨_, rfl⟩
  refine go_iconst (v := 0) C rfl dX8_ask_87 ?_
  refine go_istore_n (lv2 := [(3, .int 0), (0, .ref (G.2.2.1 42)), (1, .int v1), (2, .int v2)]) C rfl (by rw [hnl]; decide) rfl dX8_ask_88 ?_
  refine go_sub [1, 2, 0] rfl ?_
  obtain ⟨n_0, hw⟩ := hw
  exact (gbX8_ask_89 C hr hR hnl hd hN) n_0 _ _ _ hw
set_option maxRecDepth 20000 in
set_option maxHeartbeats 4000000 in
theorem gbX8_ask_30 {X : XT} {G : GT} {l : Launch} {d : Nat}  {post : St → Prop} (C : Cx X G cX8_ask RX8) (hr : Rt X G none (fun v τ => v = none ∧ post τ)) (hR : Rm X l d) (hnl : X.2.2.2.2.2.2.2.2.2.2.1 = 4)  (hd : 57 ≤ d) (hN : 75 ≤ G.2.2.2.2.2)  {K4 : Int32 → Int32 → St → Prop} (hK4 : ∀ (v1 : Int32) (v2 : Int32) (σ : St), K4 v1 v2 σ → Go X G 4 [(0, .ref (G.2.2.1 42)), (1, .int v1), (2, .int v2)] [] σ)
    : ∀ (v1 : Int32) (v2 : Int32) (σ : St), wbX8_ask_30  K4 post v1 v2 σ → Go X G 30 [(0, .ref (G.2.2.1 42)), (1, .int v1), (2, .int v2)] [] σ := by
  intro v1 v2 σ hw
  have hw : wpX8_advance  σ (fun σ_2 =>
  ∀ v1_3 : Int32, v1_3 = v1 + 1 →
  ∀ v2_4 : Int32, v2_4 = v2 + 1 →
  K4 v1_3 v2_4 σ_2) := hw
  refine go_aload_n C 0 rfl rfl dX8_ask_30 ?_
  refine go_callV (as := []) C hR (shX8 G) (ltX8 hN) cwX8_92 (Nat.le_trans (by decide) hd) (by decide) rfl rfl (Nat.le_of_ble_eq_true rfl) dX8_ask_31 (spX8_advance (Nat.le_refl _) hN hw) (fun v_ τ_ hw => ?_)
  obtain ⟨rfl, hw⟩ := hw
  obtain ⟨σ_2, rfl⟩ : ∃ z, z = τ_ := ⟨_, rfl⟩
  obtain ⟨v1_3, ev1_3⟩ : ∃ z : Int32, z = v1 + 1 := ⟨_, rfl⟩
  replace hw := hw v1_3 ev1_3
  refine go_iinc (v := v1_3) (lv2 := [(1, .int v1_3), (0, .ref (G.2.2.1 42)), (2, .int v2)]) C 1 rfl (by rw [ev1_3]; rfl) (by rw [hnl]; decide) rfl dX8_ask_34 ?_
  obtain ⟨v2_4, ev2_4⟩ : ∃ z : Int32, z = v2 + 1 := ⟨_, rfl⟩
  replace hw := hw v2_4 ev2_4
  refine go_iinc (v := v2_4) (lv2 := [(2, .int v2_4), (1, .int v1_3), (0, .ref (G.2.2.1 42))]) C 2 rfl (by rw [ev2_4]; rfl) (by rw [hnl]; decide) rfl dX8_ask_37 ?_
  refine go_goto C 4 rfl dX8_ask_40 ?_
  refine go_sub [2, 1, 0] rfl ?_
  exact hK4 _ _ _ hw
set_option maxRecDepth 20000 in
set_option maxHeartbeats 4000000 in
theorem gbX8_ask_43 {X : XT} {G : GT} {l : Launch} {d : Nat}  {post : St → Prop} (C : Cx X G cX8_ask RX8) (hr : Rt X G none (fun v τ => v = none ∧ post τ)) (hR : Rm X l d) (hnl : X.2.2.2.2.2.2.2.2.2.2.1 = 4)  (hd : 57 ≤ d) (hN : 75 ≤ G.2.2.2.2.2)   
    : ∀ (v1 : Int32) (σ : St), wbX8_ask_43   post v1 σ → Go X G 43 [(0, .ref (G.2.2.1 42)), (1, .int v1)] [] σ := by
  intro v1 σ hw
  have hw : wpX8_sum (wrX8_around 12) v1 σ (fun σ_2 =>
  ∀ v2_3 : Int32, v2_3 = (gI σ_2 42 8) →
  ((v2_3 < 22 →
    wbX8_ask_65 (wbX8_ask_70 post) post v1 v2_3 σ_2) ∧
  (¬ v2_3 < 22 →
    ((v2_3 ≤ 27 →
      wbX8_ask_70 post v1 v2_3 σ_2) ∧
    (¬ v2_3 ≤ 27 →
      wbX8_ask_65 (wbX8_ask_70 post) post v1 v2_3 σ_2))))) := hw
  refine go_aload_n C 0 rfl rfl dX8_ask_43 ?_
  refine go_iload_n C 1 rfl rfl dX8_ask_44 ?_
  refine go_callV (as := [.int v1]) C hR (shX8 G) (ltX8 hN) cwX8_98 (Nat.le_trans (by decide) hd) (by decide) rfl rfl (Nat.le_of_ble_eq_true rfl) dX8_ask_45 (spX8_sum (dF := 53) (by decide) (srX8_around hN 12) (Nat.le_refl _) hN hw) (fun v_ τ_ hw => ?_)
  obtain ⟨rfl, hw⟩ := hw
  obtain ⟨σ_2, rfl⟩ : ∃ z, z = τ_ := ⟨_, rfl⟩
  refine go_aload_n C 0 rfl rfl dX8_ask_48 ?_
  refine go_get (v := .int (gI σ_2 42 8)) C (shX8 G) (ltX8 hN) lkX8_52 rfl dX8_ask_49 ?_
  refine go_topi (fun v2_3 ev2_3 => ?_)
  replace hw := hw v2_3 ev2_3
  refine go_istore_n (lv2 := [(2, .int v2_3), (0, .ref (G.2.2.1 42)), (1, .int v1)]) C rfl (by rw [hnl]; decide) rfl dX8_ask_52 ?_
  refine go_iload_n C 0 rfl rfl dX8_ask_53 ?_
  refine go_bipush (v := 22) C rfl dX8_ask_54 ?_
  refine go_icmp_lt C 65 rfl dX8_ask_56 (fun hc => ?_) (fun hc => ?_)
  · replace hw := hw.1 hc
    refine go_sub [1, 2, 0] rfl ?_
    exact (gbX8_ask_65 C hr hR hnl hd hN (gbX8_ask_70 C hr hR hnl hd hN)) _ _ _ hw
  · replace hw := hw.2 hc
    refine go_iload_n C 0 rfl rfl dX8_ask_59 ?_
    refine go_bipush (v := 27) C rfl dX8_ask_60 ?_
    refine go_icmp_le C 70 rfl dX8_ask_62 (fun hc => ?_) (fun hc => ?_)
    · replace hw := hw.1 hc
      refine go_sub [1, 2, 0] rfl ?_
      exact (gbX8_ask_70 C hr hR hnl hd hN) _ _ _ hw
    · replace hw := hw.2 hc
      refine go_sub [1, 2, 0] rfl ?_
      exact (gbX8_ask_65 C hr hR hnl hd hN (gbX8_ask_70 C hr hR hnl hd hN)) _ _ _ hw
set_option maxRecDepth 20000 in
set_option maxHeartbeats 4000000 in
theorem gbX8_ask_4 {X : XT} {G : GT} {l : Launch} {d : Nat}  {post : St → Prop} (C : Cx X G cX8_ask RX8) (hr : Rt X G none (fun v τ => v = none ∧ post τ)) (hR : Rm X l d) (hnl : X.2.2.2.2.2.2.2.2.2.2.1 = 4)  (hd : 57 ≤ d) (hN : 75 ≤ G.2.2.2.2.2)   
    : ∀ (n : Nat) (v1 : Int32) (v2 : Int32) (σ : St), wbX8_ask_4   post n v1 v2 σ → Go X G 4 [(0, .ref (G.2.2.1 42)), (1, .int v1), (2, .int v2)] [] σ := by
  intro n
  induction n with
  | zero => intro v1 v2 σ hw; exact hw.elim
  | succ n ih =>
    intro v1 v2 σ hw
    have hw : ((8 < v2 →
      wbX8_ask_43 post v1 σ) ∧
    (¬ 8 < v2 →
      ((¬ (gI σ 42 8) = 19 →
        wbX8_ask_43 post v1 σ) ∧
      ((gI σ 42 8) = 19 →
        ((v1 < 8 →
          wbX8_ask_30 (wbX8_ask_4 post n) post v1 v2 σ) ∧
        (¬ v1 < 8 →
          wpX8_fail 3 σ (fun σ_2 =>
          wbX8_ask_30 (wbX8_ask_4 post n) post v1 v2 σ_2))))))) := hw
    refine go_iload_n C 2 rfl rfl dX8_ask_4 ?_
    refine go_bipush (v := 8) C rfl dX8_ask_5 ?_
    refine go_icmp_gt C 43 rfl dX8_ask_7 (fun hc => ?_) (fun hc => ?_)
    · replace hw := hw.1 hc
      refine go_sub [0, 1] rfl ?_
      exact (gbX8_ask_43 C hr hR hnl hd hN) _ _ hw
    · replace hw := hw.2 hc
      refine go_aload_n C 0 rfl rfl dX8_ask_10 ?_
      refine go_get (v := .int (gI σ 42 8)) C (shX8 G) (ltX8 hN) lkX8_52 rfl dX8_ask_11 ?_
      refine go_bipush (v := 19) C rfl dX8_ask_14 ?_
      refine go_icmp_ne C 43 rfl dX8_ask_16 (fun hc => ?_) (fun hc => ?_)
      · replace hw := hw.1 hc
        refine go_sub [0, 1] rfl ?_
        exact (gbX8_ask_43 C hr hR hnl hd hN) _ _ hw
      · replace hw := hw.2 hc
        refine go_iload_n C 1 rfl rfl dX8_ask_19 ?_
        refine go_bipush (v := 8) C rfl dX8_ask_20 ?_
        refine go_icmp_lt C 30 rfl dX8_ask_22 (fun hc => ?_) (fun hc => ?_)
        · replace hw := hw.1 hc
          exact (gbX8_ask_30 C hr hR hnl hd hN ih) _ _ _ hw
        · replace hw := hw.2 hc
          refine go_aload_n C 0 rfl rfl dX8_ask_25 ?_
          refine go_iconst (v := 3) C rfl dX8_ask_26 ?_
          refine go_callV (as := [.int 3]) C hR (shX8 G) (ltX8 hN) cwX8_95 (Nat.le_trans (by decide) hd) (by decide) rfl rfl (Nat.le_of_ble_eq_true rfl) dX8_ask_27 (spX8_fail (Nat.le_refl _) hN hw) (fun v_ τ_ hw => ?_)
          obtain ⟨rfl, hw⟩ := hw
          obtain ⟨σ_2, rfl⟩ : ∃ z, z = τ_ := ⟨_, rfl⟩
          exact (gbX8_ask_30 C hr hR hnl hd hN ih) _ _ _ hw
set_option maxRecDepth 20000 in
set_option maxHeartbeats 4000000 in
theorem spX8_ask {l : Launch} {G : GT} {d : Nat}  (hd : 57 ≤ d)  (hN : 75 ≤ G.2.2.2.2.2)   {σ : St} {post : St → Prop} (hw : wpX8_ask   σ post) : Sp l G d yX8_ask cX8_ask 4 none [.ref (G.2.2.1 42)] σ (fun v τ => v = none ∧ post τ) := by
  refine Sp.of (by decide) (Nat.le_of_ble_eq_true rfl) fun X C hr hR hnl => ?_
  show Go X G 0 [(0, .ref (G.2.2.1 42))] [] σ
  have hw : ∃ m_4, wbX8_ask_4 post m_4 0 0 σ := hw
  refine go_iconst (v := 0) C rfl dX8_ask_0 ?_
  refine go_istore_n (lv2 := [(1, .int 0), (0, .ref (G.2.2.1 42))]) C rfl (by rw [hnl]; decide) rfl dX8_ask_1 ?_
  refine go_iconst (v := 0) C rfl dX8_ask_2 ?_
  refine go_istore_n (lv2 := [(2, .int 0), (1, .int 0), (0, .ref (G.2.2.1 42))]) C rfl (by rw [hnl]; decide) rfl dX8_ask_3 ?_
  refine go_sub [2, 1, 0] rfl ?_
  obtain ⟨n_0, hw⟩ := hw
  exact (gbX8_ask_4 C hr hR hnl hd hN) n_0 _ _ _ hw
