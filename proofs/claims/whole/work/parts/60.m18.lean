-- CradleNamesModel.let(II)I
set_option maxRecDepth 20000 in
set_option maxHeartbeats 4000000 in
theorem gbX12_let_53 {X : XT} {G : GT} {l : Launch} {d : Nat}  {post : Int32 → St → Prop} (C : Cx X G cX12_let RX12) (hr : Rt X G (some .int) (fun v τ => ∃ r : Int32, v = some (.int r) ∧ post r τ)) (hR : Rm X l d) (hnl : X.2.2.2.2.2.2.2.2.2.2.1 = 5)  (hd : 10 ≤ d) (hN : 119 ≤ G.2.2.2.2.2)  {K30 : Int32 → Int32 → Int32 → Int32 → St → Prop} (hK30 : ∀ (v1 : Int32) (v2 : Int32) (v3 : Int32) (v4 : Int32) (σ : St), K30 v1 v2 v3 v4 σ → Go X G 30 [(0, .ref (G.2.2.1 75)), (1, .int v1), (2, .int v2), (3, .int v3), (4, .int v4)] [] σ)
    : ∀ (v1 : Int32) (v2 : Int32) (v4 : Int32) (s0 : Int32) (σ : St), wbX12_let_53  K30 post v1 v2 v4 s0 σ → Go X G 53 [(0, .ref (G.2.2.1 75)), (1, .int v1), (2, .int v2), (4, .int v4)] [.int s0] σ := by
  intro v1 v2 v4 s0 σ hw
  have hw : wpX12_isLet v4 v2 σ (fun r_1 σ_2 =>
  ((r_1 = 0 →
    ∀ v3_3 : Int32, v3_3 = (s0 + 0) →
    ∀ v4_4 : Int32, v4_4 = v4 + 1 →
    K30 v1 v2 v3_3 v4_4 σ_2) ∧
  (¬ r_1 = 0 →
    ∀ v3_5 : Int32, v3_5 = (s0 + 1) →
    ∀ v4_6 : Int32, v4_6 = v4 + 1 →
    K30 v1 v2 v3_5 v4_6 σ_2))) := hw
  refine go_aload_n C 0 rfl rfl dX12_let_53 ?_
  refine go_iload C 3 rfl dX12_let_54 ?_
  refine go_iload_n C 2 rfl rfl dX12_let_56 ?_
  refine go_callV (as := [.int v4, .int v2]) C hR (shX12 G) (ltX12 hN) cwX12_532 (Nat.le_trans (by decide) hd) (by decide) rfl rfl (Nat.le_of_ble_eq_true rfl) dX12_let_57 (spX12_isLet (Nat.le_refl _) hN hw) (fun v_ τ_ hw => ?_)
  obtain ⟨r_1, rfl, hw⟩ := hw
  obtain ⟨σ_2, rfl⟩ : ∃ z, z = τ_ := ⟨_, rfl⟩
  refine go_if_eq C 67 rfl dX12_let_60 (fun hc => ?_) (fun hc => ?_)
  · replace hw := hw.1 hc
    refine go_iconst (v := 0) C rfl dX12_let_67 ?_
    refine go_iadd C dX12_let_68 ?_
    refine go_topi (fun v3_3 ev3_3 => ?_)
    replace hw := hw v3_3 ev3_3
    refine go_istore_n (lv2 := [(3, .int v3_3), (0, .ref (G.2.2.1 75)), (1, .int v1), (2, .int v2), (4, .int v4)]) C rfl (by rw [hnl]; decide) rfl dX12_let_69 ?_
    obtain ⟨v4_4, ev4_4⟩ : ∃ z : Int32, z = v4 + 1 := ⟨_, rfl⟩
    replace hw := hw v4_4 ev4_4
    refine go_iinc (v := v4_4) (lv2 := [(4, .int v4_4), (3, .int v3_3), (0, .ref (G.2.2.1 75)), (1, .int v1), (2, .int v2)]) C 4 rfl (by rw [ev4_4]; rfl) (by rw [hnl]; decide) rfl dX12_let_70 ?_
    refine go_goto C 30 rfl dX12_let_73 ?_
    refine go_sub [2, 3, 4, 1, 0] rfl ?_
    exact hK30 _ _ _ _ _ hw
  · replace hw := hw.2 hc
    refine go_iconst (v := 1) C rfl dX12_let_63 ?_
    refine go_goto C 68 rfl dX12_let_64 ?_
    refine go_iadd C dX12_let_68 ?_
    refine go_topi (fun v3_5 ev3_5 => ?_)
    replace hw := hw v3_5 ev3_5
    refine go_istore_n (lv2 := [(3, .int v3_5), (0, .ref (G.2.2.1 75)), (1, .int v1), (2, .int v2), (4, .int v4)]) C rfl (by rw [hnl]; decide) rfl dX12_let_69 ?_
    obtain ⟨v4_6, ev4_6⟩ : ∃ z : Int32, z = v4 + 1 := ⟨_, rfl⟩
    replace hw := hw v4_6 ev4_6
    refine go_iinc (v := v4_6) (lv2 := [(4, .int v4_6), (3, .int v3_5), (0, .ref (G.2.2.1 75)), (1, .int v1), (2, .int v2)]) C 4 rfl (by rw [ev4_6]; rfl) (by rw [hnl]; decide) rfl dX12_let_70 ?_
    refine go_goto C 30 rfl dX12_let_73 ?_
    refine go_sub [2, 3, 4, 1, 0] rfl ?_
    exact hK30 _ _ _ _ _ hw
set_option maxRecDepth 20000 in
set_option maxHeartbeats 4000000 in
theorem gbX12_let_30 {X : XT} {G : GT} {l : Launch} {d : Nat}  {post : Int32 → St → Prop} (C : Cx X G cX12_let RX12) (hr : Rt X G (some .int) (fun v τ => ∃ r : Int32, v = some (.int r) ∧ post r τ)) (hR : Rm X l d) (hnl : X.2.2.2.2.2.2.2.2.2.2.1 = 5)  (hd : 10 ≤ d) (hN : 119 ≤ G.2.2.2.2.2)   
    : ∀ (n : Nat) (v1 : Int32) (v2 : Int32) (v3 : Int32) (v4 : Int32) (σ : St), wbX12_let_30   post n v1 v2 v3 v4 σ → Go X G 30 [(0, .ref (G.2.2.1 75)), (1, .int v1), (2, .int v2), (3, .int v3), (4, .int v4)] [] σ := by
  intro n
  induction n with
  | zero => intro v1 v2 v3 v4 σ hw; exact hw.elim
  | succ n ih =>
    intro v1 v2 v3 v4 σ hw
    have hw : vp_in 4 9680 ∧ (
    (((gI σ 76 (4 : Int32).toNatClampNeg) ≤ v4 →
      post v3 σ) ∧
    (¬ (gI σ 76 (4 : Int32).toNatClampNeg) ≤ v4 →
      ((v1 = (-1) →
        wbX12_let_53 (wbX12_let_30 post n) post v1 v2 v4 v3 σ) ∧
      (¬ v1 = (-1) →
        ((¬ v1 = v4 →
          ∀ v3_1 : Int32, v3_1 = (v3 + 0) →
          ∀ v4_2 : Int32, v4_2 = v4 + 1 →
          wbX12_let_30 post n v1 v2 v3_1 v4_2 σ) ∧
        (v1 = v4 →
          wbX12_let_53 (wbX12_let_30 post n) post v1 v2 v4 v3 σ))))))) := hw
    refine go_iload C 4 rfl dX12_let_30 ?_
    refine go_aload_n C 0 rfl rfl dX12_let_32 ?_
    refine go_get (v := .ref (G.2.2.1 76)) C (shX12 G) (ltX12 hN) lkX12_7 rfl dX12_let_33 ?_
    refine go_iconst (v := 4) C rfl dX12_let_36 ?_
    refine go_iald C (saX12_a G) (laX12_a hN) hw.1 dX12_let_37 ?_
    replace hw := hw.2
    refine go_icmp_ge C 76 rfl dX12_let_38 (fun hc => ?_) (fun hc => ?_)
    · replace hw := hw.1 hc
      refine go_iload_n C 3 rfl rfl dX12_let_76 ?_
      exact go_iret C hr ⟨_, rfl, hw⟩ dX12_let_77
    · replace hw := hw.2 hc
      refine go_iload_n C 3 rfl rfl dX12_let_41 ?_
      refine go_iload_n C 1 rfl rfl dX12_let_42 ?_
      refine go_iconst (v := (-1)) C rfl dX12_let_43 ?_
      refine go_icmp_eq C 53 rfl dX12_let_44 (fun hc => ?_) (fun hc => ?_)
      · replace hw := hw.1 hc
        refine go_sub [0, 1, 2, 4] rfl ?_
        exact (gbX12_let_53 C hr hR hnl hd hN ih) _ _ _ _ _ hw
      · replace hw := hw.2 hc
        refine go_iload_n C 1 rfl rfl dX12_let_47 ?_
        refine go_iload C 4 rfl dX12_let_48 ?_
        refine go_icmp_ne C 67 rfl dX12_let_50 (fun hc => ?_) (fun hc => ?_)
        · replace hw := hw.1 hc
          refine go_iconst (v := 0) C rfl dX12_let_67 ?_
          refine go_iadd C dX12_let_68 ?_
          refine go_topi (fun v3_1 ev3_1 => ?_)
          replace hw := hw v3_1 ev3_1
          refine go_istore_n (lv2 := [(3, .int v3_1), (0, .ref (G.2.2.1 75)), (1, .int v1), (2, .int v2), (4, .int v4)]) C rfl (by rw [hnl]; decide) rfl dX12_let_69 ?_
          obtain ⟨v4_2, ev4_2⟩ : ∃ z : Int32, z = v4 + 1 := ⟨_, rfl⟩
          replace hw := hw v4_2 ev4_2
          refine go_iinc (v := v4_2) (lv2 := [(4, .int v4_2), (3, .int v3_1), (0, .ref (G.2.2.1 75)), (1, .int v1), (2, .int v2)]) C 4 rfl (by rw [ev4_2]; rfl) (by rw [hnl]; decide) rfl dX12_let_70 ?_
          refine go_goto C 30 rfl dX12_let_73 ?_
          refine go_sub [2, 3, 4, 1, 0] rfl ?_
          exact ih _ _ _ _ _ hw
        · replace hw := hw.2 hc
          refine go_sub [0, 1, 2, 4] rfl ?_
          exact (gbX12_let_53 C hr hR hnl hd hN ih) _ _ _ _ _ hw
set_option maxRecDepth 20000 in
set_option maxHeartbeats 4000000 in
theorem gbX12_let_13 {X : XT} {G : GT} {l : Launch} {d : Nat}  {post : Int32 → St → Prop} (C : Cx X G cX12_let RX12) (hr : Rt X G (some .int) (fun v τ => ∃ r : Int32, v = some (.int r) ∧ post r τ)) (hR : Rm X l d) (hnl : X.2.2.2.2.2.2.2.2.2.2.1 = 5)  (hd : 10 ≤ d) (hN : 119 ≤ G.2.2.2.2.2)   
    : ∀ (v1 : Int32) (v2 : Int32) (σ : St), wbX12_let_13   post v1 v2 σ → Go X G 13 [(0, .ref (G.2.2.1 75)), (1, .int v1), (2, .int v2)] [] σ := by
  intro v1 v2 σ hw
  have hw : wpX12_in v2 0 61 σ (fun r_1 σ_2 =>
  ((¬ r_1 = 0 →
    ∃ m_30, wbX12_let_30 post m_30 v1 v2 0 0 σ_2) ∧
  (r_1 = 0 →
    post (-1) σ_2))) := hw
  refine go_iload_n C 2 rfl rfl dX12_let_13 ?_
  refine go_iconst (v := 0) C rfl dX12_let_14 ?_
  refine go_bipush (v := 61) C rfl dX12_let_15 ?_
  refine go_callS (as := [.int v2, .int 0, .int 61]) C hR cwX12_152 (Nat.le_trans (by decide) hd) (by decide) rfl rfl (Nat.le_of_ble_eq_true rfl) dX12_let_17 (spX12_in (Nat.le_refl _) hN hw) (fun v_ τ_ hw => ?_)
  obtain ⟨r_1, rfl, hw⟩ := hw
  obtain ⟨σ_2, rfl⟩ : ∃ z, z = τ_ := ⟨_, rfl⟩
  refine go_if_ne C 25 rfl dX12_let_20 (fun hc => ?_) (fun hc => ?_)
  · replace hw := hw.1 hc
    refine go_iconst (v := 0) C rfl dX12_let_25 ?_
    refine go_istore_n (lv2 := [(3, .int 0), (0, .ref (G.2.2.1 75)), (1, .int v1), (2, .int v2)]) C rfl (by rw [hnl]; decide) rfl dX12_let_26 ?_
    refine go_iconst (v := 0) C rfl dX12_let_27 ?_
    refine go_istore (lv2 := [(4, .int 0), (3, .int 0), (0, .ref (G.2.2.1 75)), (1, .int v1), (2, .int v2)]) C (by rw [hnl]; decide) rfl dX12_let_28 ?_
    refine go_sub [2, 3, 4, 1, 0] rfl ?_
    obtain ⟨n_0, hw⟩ := hw
    exact (gbX12_let_30 C hr hR hnl hd hN) n_0 _ _ _ _ _ hw
  · replace hw := hw.2 hc
    refine go_iconst (v := (-1)) C rfl dX12_let_23 ?_
    exact go_iret C hr ⟨_, rfl, hw⟩ dX12_let_24
set_option maxRecDepth 20000 in
set_option maxHeartbeats 4000000 in
theorem spX12_let {l : Launch} {G : GT} {d : Nat}  (hd : 10 ≤ d)  (hN : 119 ≤ G.2.2.2.2.2)  {a1 : Int32} {a2 : Int32} {σ : St} {post : Int32 → St → Prop} (hw : wpX12_let  a1 a2 σ post) : Sp l G d yX12_let cX12_let 5 (some .int) [.ref (G.2.2.1 75), .int a1, .int a2] σ (fun v τ => ∃ r : Int32, v = some (.int r) ∧ post r τ) := by
  refine Sp.of (by decide) (Nat.le_of_ble_eq_true rfl) fun X C hr hR hnl => ?_
  show Go X G 0 [(0, .ref (G.2.2.1 75)), (1, .int a1), (2, .int a2)] [] σ
  have hw : ((a1 = (-1) →
    wbX12_let_13 post a1 a2 σ) ∧
  (¬ a1 = (-1) →
    wpX12_isTaste a1 σ (fun r_1 σ_2 =>
    ((r_1 = 0 →
      post (-1) σ_2) ∧
    (¬ r_1 = 0 →
      wbX12_let_13 post a1 a2 σ_2))))) := hw
  refine go_iload_n C 1 rfl rfl dX12_let_0 ?_
  refine go_iconst (v := (-1)) C rfl dX12_let_1 ?_
  refine go_icmp_eq C 13 rfl dX12_let_2 (fun hc => ?_) (fun hc => ?_)
  · replace hw := hw.1 hc
    exact (gbX12_let_13 C hr hR hnl hd hN) _ _ _ hw
  · replace hw := hw.2 hc
    refine go_aload_n C 0 rfl rfl dX12_let_5 ?_
    refine go_iload_n C 1 rfl rfl dX12_let_6 ?_
    refine go_callV (as := [.int a1]) C hR (shX12 G) (ltX12 hN) cwX12_404 (Nat.le_trans (by decide) hd) (by decide) rfl rfl (Nat.le_of_ble_eq_true rfl) dX12_let_7 (spX12_isTaste (Nat.le_refl _) hN hw) (fun v_ τ_ hw => ?_)
    obtain ⟨r_1, rfl, hw⟩ := hw
    obtain ⟨σ_2, rfl⟩ : ∃ z, z = τ_ := ⟨_, rfl⟩
    refine go_if_eq C 23 rfl dX12_let_10 (fun hc => ?_) (fun hc => ?_)
    · replace hw := hw.1 hc
      refine go_iconst (v := (-1)) C rfl dX12_let_23 ?_
      exact go_iret C hr ⟨_, rfl, hw⟩ dX12_let_24
    · replace hw := hw.2 hc
      exact (gbX12_let_13 C hr hR hnl hd hN) _ _ _ hw
-- CradleNamesModel.span(IIIIZ)I
set_option maxRecDepth 20000 in
set_option maxHeartbeats 4000000 in
theorem gbX12_span_115 {X : XT} {G : GT} {l : Launch} {d : Nat}  {post : Int32 → St → Prop} (C : Cx X G cX12_span RX12) (hr : Rt X G (some .int) (fun v τ => ∃ r : Int32, v = some (.int r) ∧ post r τ)) (hR : Rm X l d) (hnl : X.2.2.2.2.2.2.2.2.2.2.1 = 10)  (hd : 10 ≤ d) (hN : 119 ≤ G.2.2.2.2.2)  {K48 : Int32 → Int32 → Int32 → Int32 → Int32 → Int32 → Int32 → Int32 → St → Prop} (hK48 : ∀ (v1 : Int32) (v2 : Int32) (v3 : Int32) (v4 : Int32) (v5 : Int32) (v6 : Int32) (v7 : Int32) (v8 : Int32) (σ : St), K48 v1 v2 v3 v4 v5 v6 v7 v8 σ → Go X G 48 [(0, .ref (G.2.2.1 75)), (1, .int v1), (2, .int v2), (3, .int v3), (4, .int v4), (5, .int v5), (6, .int v6), (7, .int v7), (8, .int v8)] [] σ)
    : ∀ (v1 : Int32) (v2 : Int32) (v3 : Int32) (v4 : Int32) (v5 : Int32) (v7 : Int32) (v8 : Int32) (v9 : Int32) (s0 : Int32) (σ : St), wbX12_span_115  K48 post v1 v2 v3 v4 v5 v7 v8 v9 s0 σ → Go X G 115 [(0, .ref (G.2.2.1 75)), (1, .int v1), (2, .int v2), (3, .int v3), (4, .int v4), (5, .int v5), (7, .int v7), (8, .int v8), (9, .int v9)] [.int s0] σ := by
  intro v1 v2 v3 v4 v5 v7 v8 v9 s0 σ hw
  have hw : wpX12_greater v7 v9 σ (fun r_1 σ_2 =>
  ∀ v8_3 : Int32, v8_3 = v8 + 1 →
  K48 v1 v2 v3 v4 v5 s0 r_1 v8_3 σ_2) := hw
  refine go_istore (lv2 := [(6, .int s0), (0, .ref (G.2.2.1 75)), (1, .int v1), (2, .int v2), (3, .int v3), (4, .int v4), (5, .int v5), (7, .int v7), (8, .int v8), (9, .int v9)]) C (by rw [hnl]; decide) rfl dX12_span_115 ?_
  refine go_iload C 7 rfl dX12_span_117 ?_
  refine go_iload C 9 rfl dX12_span_119 ?_
  refine go_callS (as := [.int v7, .int v9]) C hR cwX12_410 (Nat.le_trans (by decide) hd) (by decide) rfl rfl (Nat.le_of_ble_eq_true rfl) dX12_span_121 (spX12_greater (Nat.le_refl _) hN hw) (fun v_ τ_ hw => ?_)
  obtain ⟨r_1, rfl, hw⟩ := hw
  obtain ⟨σ_2, rfl⟩ : ∃ z, z = τ_ := ⟨_, rfl⟩
  refine go_istore (lv2 := [(7, .int r_1), (6, .int s0), (0, .ref (G.2.2.1 75)), (1, .int v1), (2, .int v2), (3, .int v3), (4, .int v4), (5, .int v5), (8, .int v8), (9, .int v9)]) C (by rw [hnl]; decide) rfl dX12_span_124 ?_
  obtain ⟨v8_3, ev8_3⟩ : ∃ z : Int32, z = v8 + 1 := ⟨_, rfl⟩
  replace hw := hw v8_3 ev8_3
  refine go_iinc (v := v8_3) (lv2 := [(8, .int v8_3), (7, .int r_1), (6, .int s0), (0, .ref (G.2.2.1 75)), (1, .int v1), (2, .int v2), (3, .int v3), (4, .int v4), (5, .int v5), (9, .int v9)]) C 8 rfl (by rw [ev8_3]; rfl) (by rw [hnl]; decide) rfl dX12_span_126 ?_
  refine go_goto C 48 rfl dX12_span_129 ?_
  refine go_sub [3, 4, 5, 6, 7, 8, 2, 1, 0] rfl ?_
  exact hK48 _ _ _ _ _ _ _ _ _ hw
set_option maxRecDepth 20000 in
set_option maxHeartbeats 4000000 in
theorem gbX12_span_48 {X : XT} {G : GT} {l : Launch} {d : Nat}  {post : Int32 → St → Prop} (C : Cx X G cX12_span RX12) (hr : Rt X G (some .int) (fun v τ => ∃ r : Int32, v = some (.int r) ∧ post r τ)) (hR : Rm X l d) (hnl : X.2.2.2.2.2.2.2.2.2.2.1 = 10)  (hd : 10 ≤ d) (hN : 119 ≤ G.2.2.2.2.2)   
    : ∀ (n : Nat) (v1 : Int32) (v2 : Int32) (v3 : Int32) (v4 : Int32) (v5 : Int32) (v6 : Int32) (v7 : Int32) (v8 : Int32) (σ : St), wbX12_span_48   post n v1 v2 v3 v4 v5 v6 v7 v8 σ → Go X G 48 [(0, .ref (G.2.2.1 75)), (1, .int v1), (2, .int v2), (3, .int v3), (4, .int v4), (5, .int v5), (6, .int v6), (7, .int v7), (8, .int v8)] [] σ := by
  intro n
  induction n with
  | zero => intro v1 v2 v3 v4 v5 v6 v7 v8 σ hw; exact hw.elim
  | succ n ih =>
    intro v1 v2 v3 v4 v5 v6 v7 v8 σ hw
    have hw : vp_in 4 9680 ∧ (
    (((gI σ 76 (4 : Int32).toNatClampNeg) ≤ v8 →
      ((v5 = 0 →
        post v6 σ) ∧
      (¬ v5 = 0 →
        post v7 σ))) ∧
    (¬ (gI σ 76 (4 : Int32).toNatClampNeg) ≤ v8 →
      vp_in 0 9680 ∧ (
      wpX12_isLet v8 (gI σ 76 (0 : Int32).toNatClampNeg) σ (fun r_1 σ_2 =>
      ((r_1 = 0 →
        ∀ v8_3 : Int32, v8_3 = v8 + 1 →
        wbX12_span_48 post n v1 v2 v3 v4 v5 v6 v7 v8_3 σ_2) ∧
      (¬ r_1 = 0 →
        wpX12_runs (v1 + 1) (-1) 0 v8 σ_2 (fun σ_5 =>
        wpX12_sumOf v1 v2 (-1) v3 v4 σ_5 (fun r_6 σ_7 =>
        ((¬ v6 = (-1) →
          wpX12_lesser v6 r_6 σ_7 (fun r_8 σ_9 =>
          wbX12_span_115 (wbX12_span_48 post n) post v1 v2 v3 v4 v5 v7 v8 r_6 r_8 σ_9)) ∧
        (v6 = (-1) →
          wbX12_span_115 (wbX12_span_48 post n) post v1 v2 v3 v4 v5 v7 v8 r_6 r_6 σ_7))))))))))) := hw
    refine go_iload C 8 rfl dX12_span_48 ?_
    refine go_aload_n C 0 rfl rfl dX12_span_50 ?_
    refine go_get (v := .ref (G.2.2.1 76)) C (shX12 G) (ltX12 hN) lkX12_7 rfl dX12_span_51 ?_
    refine go_iconst (v := 4) C rfl dX12_span_54 ?_
    refine go_iald C (saX12_a G) (laX12_a hN) hw.1 dX12_span_55 ?_
    replace hw := hw.2
    refine go_icmp_ge C 132 rfl dX12_span_56 (fun hc => ?_) (fun hc => ?_)
    · replace hw := hw.1 hc
      refine go_iload C 5 rfl dX12_span_132 ?_
      refine go_if_eq C 142 rfl dX12_span_134 (fun hc => ?_) (fun hc => ?_)
      · replace hw := hw.1 hc
        refine go_iload C 6 rfl dX12_span_142 ?_
        exact go_iret C hr ⟨_, rfl, hw⟩ dX12_span_144
      · replace hw := hw.2 hc
        refine go_iload C 7 rfl dX12_span_137 ?_
        refine go_goto C 144 rfl dX12_span_139 ?_
        exact go_iret C hr ⟨_, rfl, hw⟩ dX12_span_144
    · replace hw := hw.2 hc
      refine go_aload_n C 0 rfl rfl dX12_span_59 ?_
      refine go_iload C 8 rfl dX12_span_60 ?_
      refine go_aload_n C 0 rfl rfl dX12_span_62 ?_
      refine go_get (v := .ref (G.2.2.1 76)) C (shX12 G) (ltX12 hN) lkX12_7 rfl dX12_span_63 ?_
      refine go_iconst (v := 0) C rfl dX12_span_66 ?_
      refine go_iald C (saX12_a G) (laX12_a hN) hw.1 dX12_span_67 ?_
      replace hw := hw.2
      refine go_callV (as := [.int v8, .int (gI σ 76 (0 : Int32).toNatClampNeg)]) C hR (shX12 G) (ltX12 hN) cwX12_532 (Nat.le_trans (by decide) hd) (by decide) rfl rfl (Nat.le_of_ble_eq_true rfl) dX12_span_68 (spX12_isLet (Nat.le_refl _) hN hw) (fun v_ τ_ hw => ?_)
      obtain ⟨r_1, rfl, hw⟩ := hw
      obtain ⟨σ_2, rfl⟩ : ∃ z, z = τ_ := ⟨_, rfl⟩
      refine go_if_eq C 126 rfl dX12_span_71 (fun hc => ?_) (fun hc => ?_)
      · replace hw := hw.1 hc
        obtain ⟨v8_3, ev8_3⟩ : ∃ z : Int32, z = v8 + 1 := ⟨_, rfl⟩
        replace hw := hw v8_3 ev8_3
        refine go_iinc (v := v8_3) (lv2 := [(8, .int v8_3), (0, .ref (G.2.2.1 75)), (1, .int v1), (2, .int v2), (3, .int v3), (4, .int v4), (5, .int v5), (6, .int v6), (7, .int v7)]) C 8 rfl (by rw [ev8_3]; rfl) (by rw [hnl]; decide) rfl dX12_span_126 ?_
        refine go_goto C 48 rfl dX12_span_129 ?_
        refine go_sub [1, 2, 3, 4, 5, 6, 7, 8, 0] rfl ?_
        exact ih _ _ _ _ _ _ _ _ _ hw
      · replace hw := hw.2 hc
        refine go_aload_n C 0 rfl rfl dX12_span_74 ?_
        refine go_iload_n C 1 rfl rfl dX12_span_75 ?_
        refine go_iconst (v := 1) C rfl dX12_span_76 ?_
        refine go_iadd C dX12_span_77 ?_
        refine go_iconst (v := (-1)) C rfl dX12_span_78 ?_
        refine go_iconst (v := 0) C rfl dX12_span_79 ?_
        refine go_iload C 8 rfl dX12_span_80 ?_
        refine go_callV (as := [.int (v1 + 1), .int (-1), .int 0, .int v8]) C hR (shX12 G) (ltX12 hN) cwX12_188 (Nat.le_trans (by decide) hd) (by decide) rfl rfl (Nat.le_of_ble_eq_true rfl) dX12_span_82 (spX12_runs (Nat.le_refl _) hN hw) (fun v_ τ_ hw => ?_)
        obtain ⟨rfl, hw⟩ := hw
        obtain ⟨σ_5, rfl⟩ : ∃ z, z = τ_ := ⟨_, rfl⟩
        refine go_aload_n C 0 rfl rfl dX12_span_85 ?_
        refine go_iload_n C 1 rfl rfl dX12_span_86 ?_
        refine go_iload_n C 2 rfl rfl dX12_span_87 ?_
        refine go_iconst (v := (-1)) C rfl dX12_span_88 ?_
        refine go_iload_n C 3 rfl rfl dX12_span_89 ?_
        refine go_iload C 4 rfl dX12_span_90 ?_
        refine go_callV (as := [.int v1, .int v2, .int (-1), .int v3, .int v4]) C hR (shX12 G) (ltX12 hN) cwX12_471 (Nat.le_trans (by decide) hd) (by decide) rfl rfl (Nat.le_of_ble_eq_true rfl) dX12_span_92 (spX12_sumOf (Nat.le_refl _) hN hw) (fun v_ τ_ hw => ?_)
        obtain ⟨r_6, rfl, hw⟩ := hw
        obtain ⟨σ_7, rfl⟩ : ∃ z, z = τ_ := ⟨_, rfl⟩
        refine go_istore (lv2 := [(9, .int r_6), (0, .ref (G.2.2.1 75)), (1, .int v1), (2, .int v2), (3, .int v3), (4, .int v4), (5, .int v5), (6, .int v6), (7, .int v7), (8, .int v8)]) C (by rw [hnl]; decide) rfl dX12_span_95 ?_
        refine go_iload C 7 rfl dX12_span_97 ?_
        refine go_iconst (v := (-1)) C rfl dX12_span_99 ?_
        refine go_icmp_ne C 108 rfl dX12_span_100 (fun hc => ?_) (fun hc => ?_)
        · replace hw := hw.1 hc
          refine go_iload C 7 rfl dX12_span_108 ?_
          refine go_iload C 0 rfl dX12_span_110 ?_
          refine go_callS (as := [.int v6, .int r_6]) C hR cwX12_428 (Nat.le_trans (by decide) hd) (by decide) rfl rfl (Nat.le_of_ble_eq_true rfl) dX12_span_112 (spX12_lesser (Nat.le_refl _) hN hw) (fun v_ τ_ hw => ?_)
          obtain ⟨r_8, rfl, hw⟩ := hw
          obtain ⟨σ_9, rfl⟩ : ∃ z, z = τ_ := ⟨_, rfl⟩
          refine go_sub [1, 2, 3, 4, 5, 6, 8, 9, 0] rfl ?_
          exact (gbX12_span_115 C hr hR hnl hd hN ih) _ _ _ _ _ _ _ _ _ _ hw
        · replace hw := hw.2 hc
          refine go_iload C 0 rfl dX12_span_103 ?_
          refine go_goto C 115 rfl dX12_span_105 ?_
          refine go_sub [1, 2, 3, 4, 5, 6, 8, 9, 0] rfl ?_
          exact (gbX12_span_115 C hr hR hnl hd hN ih) _ _ _ _ _ _ _ _ _ _ hw
set_option maxRecDepth 20000 in
set_option maxHeartbeats 4000000 in
theorem spX12_span {l : Launch} {G : GT} {d : Nat}  (hd : 10 ≤ d)  (hN : 119 ≤ G.2.2.2.2.2)  {a1 : Int32} {a2 : Int32} {a3 : Int32} {a4 : Int32} {a5 : Int32} {σ : St} {post : Int32 → St → Prop} (hw : wpX12_span  a1 a2 a3 a4 a5 σ post) : Sp l G d yX12_span cX12_span 10 (some .int) [.ref (G.2.2.1 75), .int a1, .int a2, .int a3, .int a4, .int a5] σ (fun v τ => ∃ r : Int32, v = some (.int r) ∧ post r τ) := by
  refine Sp.of (by decide) (Nat.le_of_ble_eq_true rfl) fun X C hr hR hnl => ?_
  show Go X G 0 [(0, .ref (G.2.2.1 75)), (1, .int a1), (2, .int a2), (3, .int a3), (4, .int a4), (5, .int a5)] [] σ
  have hw : wpX12_in a1 0 60 σ (fun r_1 σ_2 =>
  ((r_1 = 0 →
    post (-1) σ_2) ∧
  (¬ r_1 = 0 →
    wpX12_in a2 0 2 σ_2 (fun r_3 σ_4 =>
    ((r_3 = 0 →
      post (-1) σ_4) ∧
    (¬ r_3 = 0 →
      wpX12_in a3 0 1 σ_4 (fun r_5 σ_6 =>
      ((r_5 = 0 →
        post (-1) σ_6) ∧
      (¬ r_5 = 0 →
        wpX12_isName a4 σ_6 (fun r_7 σ_8 =>
        ((¬ r_7 = 0 →
          ∃ m_48, wbX12_span_48 post m_48 a1 a2 a3 a4 a5 (-1) (-1) 0 σ_8) ∧
        (r_7 = 0 →
          post (-1) σ_8)))))))))))) := hw
  refine go_iload_n C 1 rfl rfl dX12_span_0 ?_
  refine go_iconst (v := 0) C rfl dX12_span_1 ?_
  refine go_bipush (v := 60) C rfl dX12_span_2 ?_
  refine go_callS (as := [.int a1, .int 0, .int 60]) C hR cwX12_152 (Nat.le_trans (by decide) hd) (by decide) rfl rfl (Nat.le_of_ble_eq_true rfl) dX12_span_4 (spX12_in (Nat.le_refl _) hN hw) (fun v_ τ_ hw => ?_)
  obtain ⟨r_1, rfl, hw⟩ := hw
  obtain ⟨σ_2, rfl⟩ : ∃ z, z = τ_ := ⟨_, rfl⟩
  refine go_if_eq C 37 rfl dX12_span_7 (fun hc => ?_) (fun hc => ?_)
  · replace hw := hw.1 hc
    refine go_iconst (v := (-1)) C rfl dX12_span_37 ?_
    exact go_iret C hr ⟨_, rfl, hw⟩ dX12_span_38
  · replace hw := hw.2 hc
    refine go_iload_n C 2 rfl rfl dX12_span_10 ?_
    refine go_iconst (v := 0) C rfl dX12_span_11 ?_
    refine go_iconst (v := 2) C rfl dX12_span_12 ?_
    refine go_callS (as := [.int a2, .int 0, .int 2]) C hR cwX12_152 (Nat.le_trans (by decide) hd) (by decide) rfl rfl (Nat.le_of_ble_eq_true rfl) dX12_span_13 (spX12_in (Nat.le_refl _) hN hw) (fun v_ τ_ hw => ?_)
    obtain ⟨r_3, rfl, hw⟩ := hw
    obtain ⟨σ_4, rfl⟩ : ∃ z, z = τ_ := ⟨_, rfl⟩
    refine go_if_eq C 37 rfl dX12_span_16 (fun hc => ?_) (fun hc => ?_)
    · replace hw := hw.1 hc
      refine go_iconst (v := (-1)) C rfl dX12_span_37 ?_
      exact go_iret C hr ⟨_, rfl, hw⟩ dX12_span_38
    · replace hw := hw.2 hc
      refine go_iload_n C 3 rfl rfl dX12_span_19 ?_
      refine go_iconst (v := 0) C rfl dX12_span_20 ?_
      refine go_iconst (v := 1) C rfl dX12_span_21 ?_
      refine go_callS (as := [.int a3, .int 0, .int 1]) C hR cwX12_152 (Nat.le_trans (by decide) hd) (by decide) rfl rfl (Nat.le_of_ble_eq_true rfl) dX12_span_22 (spX12_in (Nat.le_refl _) hN hw) (fun v_ τ_ hw => ?_)
      obtain ⟨r_5, rfl, hw⟩ := hw
      obtain ⟨σ_6, rfl⟩ : ∃ z, z = τ_ := ⟨_, rfl⟩
      refine go_if_eq C 37 rfl dX12_span_25 (fun hc => ?_) (fun hc => ?_)
      · replace hw := hw.1 hc
        refine go_iconst (v := (-1)) C rfl dX12_span_37 ?_
        exact go_iret C hr ⟨_, rfl, hw⟩ dX12_span_38
      · replace hw := hw.2 hc
        refine go_aload_n C 0 rfl rfl dX12_span_28 ?_
        refine go_iload C 4 rfl dX12_span_29 ?_
        refine go_callV (as := [.int a4]) C hR (shX12 G) (ltX12 hN) cwX12_182 (Nat.le_trans (by decide) hd) (by decide) rfl rfl (Nat.le_of_ble_eq_true rfl) dX12_span_31 (spX12_isName (Nat.le_refl _) hN hw) (fun v_ τ_ hw => ?_)
        obtain ⟨r_7, rfl, hw⟩ := hw
        obtain ⟨σ_8, rfl⟩ : ∃ z, z = τ_ := ⟨_, rfl⟩
        refine go_if_ne C 39 rfl dX12_span_34 (fun hc => ?_) (fun hc => ?_)
        · replace hw := hw.1 hc
          refine go_iconst (v := (-1)) C rfl dX12_span_39 ?_
          refine go_istore (lv2 := [(6, .int (-1)), (0, .ref (G.2.2.1 75)), (1, .int a1), (2, .int a2), (3, .int a3), (4, .int a4), (5, .int a5)]) C (by rw [hnl]; decide) rfl dX12_span_40 ?_
          refine go_iconst (v := (-1)) C rfl dX12_span_42 ?_
          refine go_istore (lv2 := [(7, .int (-1)), (6, .int (-1)), (0, .ref (G.2.2.1 75)), (1, .int a1), (2, .int a2), (3, .int a3), (4, .int a4), (5, .int a5)]) C (by rw [hnl]; decide) rfl dX12_span_43 ?_
          refine go_iconst (v := 0) C rfl dX12_span_45 ?_
          refine go_istore (lv2 := [(8, .int 0), (7, .int (-1)), (6, .int (-1)), (0, .ref (G.2.2.1 75)), (1, .int a1), (2, .int a2), (3, .int a3), (4, .int a4), (5, .int a5)]) C (by rw [hnl]; decide) rfl dX12_span_46 ?_
          refine go_sub [3, 4, 5, 6, 7, 8, 2, 1, 0] rfl ?_
          obtain ⟨n_0, hw⟩ := hw
          exact (gbX12_span_48 C hr hR hnl hd hN) n_0 _ _ _ _ _ _ _ _ _ hw
        · replace hw := hw.2 hc
          refine go_iconst (v := (-1)) C rfl dX12_span_37 ?_
          exact go_iret C hr ⟨_, rfl, hw⟩ dX12_span_38
-- CradleNamesModel.parts(II)I
set_option maxRecDepth 20000 in
set_option maxHeartbeats 4000000 in
theorem gbX12_parts_143 {X : XT} {G : GT} {l : Launch} {d : Nat}  {post : Int32 → St → Prop} (C : Cx X G cX12_parts RX12) (hr : Rt X G (some .int) (fun v τ => ∃ r : Int32, v = some (.int r) ∧ post r τ)) (hR : Rm X l d) (hnl : X.2.2.2.2.2.2.2.2.2.2.1 = 7)  (hd : 10 ≤ d) (hN : 119 ≤ G.2.2.2.2.2)  {K66 : Int32 → Int32 → Int32 → Int32 → Int32 → St → Prop} (hK66 : ∀ (v1 : Int32) (v2 : Int32) (v3 : Int32) (v4 : Int32) (v5 : Int32) (σ : St), K66 v1 v2 v3 v4 v5 σ → Go X G 66 [(0, .ref (G.2.2.1 75)), (1, .int v1), (2, .int v2), (3, .int v3), (4, .int v4), (5, .int v5)] [] σ)
    : ∀ (v1 : Int32) (v2 : Int32) (v3 : Int32) (v4 : Int32) (v5 : Int32) (v6 : Int32) (s0 : Int32) (s1 : Int32) (σ : St), wbX12_parts_143  K66 post v1 v2 v3 v4 v5 v6 s0 s1 σ → Go X G 143 [(0, .ref (G.2.2.1 75)), (1, .int v1), (2, .int v2), (3, .int v3), (4, .int v4), (5, .int v5), (6, .int v6)] [.int s0, .int s1, .ref (G.2.2.1 117)] σ := by
  intro v1 v2 v3 v4 v5 v6 s0 s1 σ hw
  have hw : vp_in s1 96 ∧ (
  ∀ σ_1 : St, σ_1 = sI σ 117 s1.toNatClampNeg s0 →
  ((v3 = 0 →
    vp_in v5 96 ∧ (
    ∀ σ_2 : St, σ_2 = sI σ_1 118 v5.toNatClampNeg v6 →
    ∀ v5_3 : Int32, v5_3 = v5 + 1 →
    K66 v1 v2 v3 v4 v5_3 σ_2)) ∧
  (¬ v3 = 0 →
    vp_in v5 96 ∧ (
    wpX12_greater (gI σ_1 118 v5.toNatClampNeg) v6 σ_1 (fun r_4 σ_5 =>
    vp_in v5 96 ∧ (
    ∀ σ_6 : St, σ_6 = sI σ_5 118 v5.toNatClampNeg r_4 →
    ∀ v5_7 : Int32, v5_7 = v5 + 1 →
    K66 v1 v2 v3 v4 v5_7 σ_6)))))) := hw
  refine go_iast C (saX12_lowest G) (laX12_lowest hN) hw.1 dX12_parts_143 (go_nm fun σ_1 eσ_1 => ?_)
  replace hw := hw.2 σ_1 eσ_1
  refine go_aload_n C 0 rfl rfl dX12_parts_144 ?_
  refine go_get (v := .ref (G.2.2.1 118)) C (shX12 G) (ltX12 hN) lkX12_145 rfl dX12_parts_145 ?_
  refine go_iload C 5 rfl dX12_parts_148 ?_
  refine go_iload_n C 3 rfl rfl dX12_parts_150 ?_
  refine go_if_eq C 169 rfl dX12_parts_151 (fun hc => ?_) (fun hc => ?_)
  · replace hw := hw.1 hc
    refine go_iload C 6 rfl dX12_parts_169 ?_
    refine go_iast C (saX12_highest G) (laX12_highest hN) hw.1 dX12_parts_171 (go_nm fun σ_2 eσ_2 => ?_)
    replace hw := hw.2 σ_2 eσ_2
    obtain ⟨v5_3, ev5_3⟩ : ∃ z : Int32, z = v5 + 1 := ⟨_, rfl⟩
    replace hw := hw v5_3 ev5_3
    refine go_iinc (v := v5_3) (lv2 := [(5, .int v5_3), (0, .ref (G.2.2.1 75)), (1, .int v1), (2, .int v2), (3, .int v3), (4, .int v4), (6, .int v6)]) C 5 rfl (by rw [ev5_3]; rfl) (by rw [hnl]; decide) rfl dX12_parts_172 ?_
    refine go_goto C 66 rfl dX12_parts_175 ?_
    refine go_sub [1, 2, 3, 4, 5, 0] rfl ?_
    exact hK66 _ _ _ _ _ _ hw
  · replace hw := hw.2 hc
    refine go_aload_n C 0 rfl rfl dX12_parts_154 ?_
    refine go_get (v := .ref (G.2.2.1 118)) C (shX12 G) (ltX12 hN) lkX12_145 rfl dX12_parts_155 ?_
    refine go_iload C 5 rfl dX12_parts_158 ?_
    refine go_iald C (saX12_highest G) (laX12_highest hN) hw.1 dX12_parts_160 ?_
    replace hw := hw.2
    refine go_iload C 6 rfl dX12_parts_161 ?_
    refine go_callS (as := [.int (gI σ_1 118 v5.toNatClampNeg), .int v6]) C hR cwX12_410 (Nat.le_trans (by decide) hd) (by decide) rfl rfl (Nat.le_of_ble_eq_true rfl) dX12_parts_163 (spX12_greater (Nat.le_refl _) hN hw) (fun v_ τ_ hw => ?_)
    obtain ⟨r_4, rfl, hw⟩ := hw
    obtain ⟨σ_5, rfl⟩ : ∃ z, z = τ_ := ⟨_, rfl⟩
    refine go_goto C 171 rfl dX12_parts_166 ?_
    refine go_iast C (saX12_highest G) (laX12_highest hN) hw.1 dX12_parts_171 (go_nm fun σ_6 eσ_6 => ?_)
    replace hw := hw.2 σ_6 eσ_6
    obtain ⟨v5_7, ev5_7⟩ : ∃ z : Int32, z = v5 + 1 := ⟨_, rfl⟩
    replace hw := hw v5_7 ev5_7
    refine go_iinc (v := v5_7) (lv2 := [(5, .int v5_7), (0, .ref (G.2.2.1 75)), (1, .int v1), (2, .int v2), (3, .int v3), (4, .int v4), (6, .int v6)]) C 5 rfl (by rw [ev5_7]; rfl) (by rw [hnl]; decide) rfl dX12_parts_172 ?_
    refine go_goto C 66 rfl dX12_parts_175 ?_
    refine go_sub [1, 2, 3, 4, 5, 0] rfl ?_
    exact hK66 _ _ _ _ _ _ hw
set_option maxRecDepth 20000 in
set_option maxHeartbeats 4000000 in
theorem gbX12_parts_114 {X : XT} {G : GT} {l : Launch} {d : Nat}  {post : Int32 → St → Prop} (C : Cx X G cX12_parts RX12) (hr : Rt X G (some .int) (fun v τ => ∃ r : Int32, v = some (.int r) ∧ post r τ)) (hR : Rm X l d) (hnl : X.2.2.2.2.2.2.2.2.2.2.1 = 7)  (hd : 10 ≤ d) (hN : 119 ≤ G.2.2.2.2.2)  {K66 : Int32 → Int32 → Int32 → Int32 → Int32 → St → Prop} (hK66 : ∀ (v1 : Int32) (v2 : Int32) (v3 : Int32) (v4 : Int32) (v5 : Int32) (σ : St), K66 v1 v2 v3 v4 v5 σ → Go X G 66 [(0, .ref (G.2.2.1 75)), (1, .int v1), (2, .int v2), (3, .int v3), (4, .int v4), (5, .int v5)] [] σ)
    : ∀ (v1 : Int32) (v2 : Int32) (v3 : Int32) (v4 : Int32) (v5 : Int32) (s0 : Int32) (σ : St), wbX12_parts_114  K66 post v1 v2 v3 v4 v5 s0 σ → Go X G 114 [(0, .ref (G.2.2.1 75)), (1, .int v1), (2, .int v2), (3, .int v3), (4, .int v4), (5, .int v5)] [.int s0] σ := by
  intro v1 v2 v3 v4 v5 s0 σ hw
  have hw : ((v3 = 0 →
    wbX12_parts_143 K66 post v1 v2 v3 v4 v5 s0 s0 v5 σ) ∧
  (¬ v3 = 0 →
    vp_in v5 96 ∧ (
    wpX12_lesser (gI σ 117 v5.toNatClampNeg) s0 σ (fun r_1 σ_2 =>
    wbX12_parts_143 K66 post v1 v2 v3 v4 v5 s0 r_1 v5 σ_2)))) := hw
  refine go_istore (lv2 := [(6, .int s0), (0, .ref (G.2.2.1 75)), (1, .int v1), (2, .int v2), (3, .int v3), (4, .int v4), (5, .int v5)]) C (by rw [hnl]; decide) rfl dX12_parts_114 ?_
  refine go_aload_n C 1 rfl rfl dX12_parts_116 ?_
  refine go_get (v := .ref (G.2.2.1 117)) C (shX12 G) (ltX12 hN) lkX12_142 rfl dX12_parts_117 ?_
  refine go_iload C 6 rfl dX12_parts_120 ?_
  refine go_iload_n C 4 rfl rfl dX12_parts_122 ?_
  refine go_if_eq C 141 rfl dX12_parts_123 (fun hc => ?_) (fun hc => ?_)
  · replace hw := hw.1 hc
    refine go_iload C 0 rfl dX12_parts_141 ?_
    refine go_sub [1, 2, 3, 4, 5, 6, 0] rfl ?_
    exact (gbX12_parts_143 C hr hR hnl hd hN hK66) _ _ _ _ _ _ _ _ _ hw
  · replace hw := hw.2 hc
    refine go_aload_n C 1 rfl rfl dX12_parts_126 ?_
    refine go_get (v := .ref (G.2.2.1 117)) C (shX12 G) (ltX12 hN) lkX12_142 rfl dX12_parts_127 ?_
    refine go_iload C 6 rfl dX12_parts_130 ?_
    refine go_iald C (saX12_lowest G) (laX12_lowest hN) hw.1 dX12_parts_132 ?_
    replace hw := hw.2
    refine go_iload C 0 rfl dX12_parts_133 ?_
    refine go_callS (as := [.int (gI σ 117 v5.toNatClampNeg), .int s0]) C hR cwX12_428 (Nat.le_trans (by decide) hd) (by decide) rfl rfl (Nat.le_of_ble_eq_true rfl) dX12_parts_135 (spX12_lesser (Nat.le_refl _) hN hw) (fun v_ τ_ hw => ?_)
    obtain ⟨r_1, rfl, hw⟩ := hw
    obtain ⟨σ_2, rfl⟩ : ∃ z, z = τ_ := ⟨_, rfl⟩
    refine go_goto C 143 rfl dX12_parts_138 ?_
    refine go_sub [1, 2, 3, 4, 5, 6, 0] rfl ?_
    exact (gbX12_parts_143 C hr hR hnl hd hN hK66) _ _ _ _ _ _ _ _ _ hw
set_option maxRecDepth 20000 in
set_option maxHeartbeats 4000000 in
theorem gbX12_parts_253 {X : XT} {G : GT} {l : Launch} {d : Nat}  {post : Int32 → St → Prop} (C : Cx X G cX12_parts RX12) (hr : Rt X G (some .int) (fun v τ => ∃ r : Int32, v = some (.int r) ∧ post r τ)) (hR : Rm X l d) (hnl : X.2.2.2.2.2.2.2.2.2.2.1 = 7)  (hd : 10 ≤ d) (hN : 119 ≤ G.2.2.2.2.2)   
    : ∀ (v2 : Int32) (v4 : Int32) (v5 : Int32) (σ : St), wbX12_parts_253   post v2 v4 v5 σ → Go X G 253 [(2, .int v2), (4, .int v4), (5, .int v5)] [] σ := by
  intro v2 v4 v5 σ hw
  have hw : ((¬ v4 = (-1) →
    ((¬ v2 = 0 →
      ((¬ v2 = 1 →
        ((¬ v2 = 2 →
          post v5 σ) ∧
        (v2 = 2 →
          post (v4 - v4 / 16 * 16) σ))) ∧
      (v2 = 1 →
        post ((v4 / 16) - (v4 / 16) / 2 * 2) σ))) ∧
    (v2 = 0 →
      post (v4 / 32) σ))) ∧
  (v4 = (-1) →
    post (-1) σ)) := hw
  refine go_iload C 1 rfl dX12_parts_253 ?_
  refine go_iconst (v := (-1)) C rfl dX12_parts_255 ?_
  refine go_icmp_ne C 263 rfl dX12_parts_256 (fun hc => ?_) (fun hc => ?_)
  · replace hw := hw.1 hc
    refine go_iload_n C 0 rfl rfl dX12_parts_263 ?_
    refine go_if_ne C 275 rfl dX12_parts_264 (fun hc => ?_) (fun hc => ?_)
    · replace hw := hw.1 hc
      refine go_iload_n C 0 rfl rfl dX12_parts_275 ?_
      refine go_iconst (v := 1) C rfl dX12_parts_276 ?_
      refine go_icmp_ne C 290 rfl dX12_parts_277 (fun hc => ?_) (fun hc => ?_)
      · replace hw := hw.1 hc
        refine go_iload_n C 0 rfl rfl dX12_parts_290 ?_
        refine go_iconst (v := 2) C rfl dX12_parts_291 ?_
        refine go_icmp_ne C 303 rfl dX12_parts_292 (fun hc => ?_) (fun hc => ?_)
        · replace hw := hw.1 hc
          refine go_iload C 2 rfl dX12_parts_303 ?_
          exact go_iret C hr ⟨_, rfl, hw⟩ dX12_parts_305
        · replace hw := hw.2 hc
          refine go_iload C 1 rfl dX12_parts_295 ?_
          refine go_bipush (v := 16) C rfl dX12_parts_297 ?_
          refine go_irem C (by decide) dX12_parts_299 ?_
          refine go_goto C 305 rfl dX12_parts_300 ?_
          exact go_iret C hr ⟨_, rfl, hw⟩ dX12_parts_305
      · replace hw := hw.2 hc
        refine go_iload C 1 rfl dX12_parts_280 ?_
        refine go_bipush (v := 16) C rfl dX12_parts_282 ?_
        refine go_idiv C (by decide) dX12_parts_284 ?_
        refine go_iconst (v := 2) C rfl dX12_parts_285 ?_
        refine go_irem C (by decide) dX12_parts_286 ?_
        refine go_goto C 305 rfl dX12_parts_287 ?_
        exact go_iret C hr ⟨_, rfl, hw⟩ dX12_parts_305
    · replace hw := hw.2 hc
      refine go_iload C 1 rfl dX12_parts_267 ?_
      refine go_bipush (v := 32) C rfl dX12_parts_269 ?_
      refine go_idiv C (by decide) dX12_parts_271 ?_
      refine go_goto C 305 rfl dX12_parts_272 ?_
      exact go_iret C hr ⟨_, rfl, hw⟩ dX12_parts_305
  · replace hw := hw.2 hc
    refine go_iconst (v := (-1)) C rfl dX12_parts_259 ?_
    refine go_goto C 305 rfl dX12_parts_260 ?_
    exact go_iret C hr ⟨_, rfl, hw⟩ dX12_parts_305
set_option maxRecDepth 20000 in
set_option maxHeartbeats 4000000 in
theorem gbX12_parts_66 {X : XT} {G : GT} {l : Launch} {d : Nat}  {post : Int32 → St → Prop} (C : Cx X G cX12_parts RX12) (hr : Rt X G (some .int) (fun v τ => ∃ r : Int32, v = some (.int r) ∧ post r τ)) (hR : Rm X l d) (hnl : X.2.2.2.2.2.2.2.2.2.2.1 = 7)  (hd : 10 ≤ d) (hN : 119 ≤ G.2.2.2.2.2)  {K26 : Int32 → Int32 → Int32 → Int32 → St → Prop} (hK26 : ∀ (v1 : Int32) (v2 : Int32) (v3 : Int32) (v4 : Int32) (σ : St), K26 v1 v2 v3 v4 σ → Go X G 26 [(0, .ref (G.2.2.1 75)), (1, .int v1), (2, .int v2), (3, .int v3), (4, .int v4)] [] σ)
    : ∀ (n : Nat) (v1 : Int32) (v2 : Int32) (v3 : Int32) (v4 : Int32) (v5 : Int32) (σ : St), wbX12_parts_66  K26 post n v1 v2 v3 v4 v5 σ → Go X G 66 [(0, .ref (G.2.2.1 75)), (1, .int v1), (2, .int v2), (3, .int v3), (4, .int v4), (5, .int v5)] [] σ := by
  intro n
  induction n with
  | zero => intro v1 v2 v3 v4 v5 σ hw; exact hw.elim
  | succ n ih =>
    intro v1 v2 v3 v4 v5 σ hw
    have hw : ((96 ≤ v5 →
      ∀ v4_1 : Int32, v4_1 = v4 + 1 →
      K26 v1 v2 1 v4_1 σ) ∧
    (¬ 96 ≤ v5 →
      vp_in 1 9680 ∧ (
      (((gI σ 76 (1 : Int32).toNatClampNeg) ≤ (v5 - v5 / 16 * 16) →
        wbX12_parts_114 (wbX12_parts_66 K26 post n) post v1 v2 v3 v4 v5 0 σ) ∧
      (¬ (gI σ 76 (1 : Int32).toNatClampNeg) ≤ (v5 - v5 / 16 * 16) →
        wpX12_sumOf v1 (v5 / 32) (-1) ((v5 / 16) - (v5 / 16) / 2 * 2) (v5 - v5 / 16 * 16) σ (fun r_2 σ_3 =>
        wbX12_parts_114 (wbX12_parts_66 K26 post n) post v1 v2 v3 v4 v5 r_2 σ_3)))))) := hw
    refine go_iload C 5 rfl dX12_parts_66 ?_
    refine go_bipush (v := 96) C rfl dX12_parts_68 ?_
    refine go_icmp_ge C 178 rfl dX12_parts_70 (fun hc => ?_) (fun hc => ?_)
    · replace hw := hw.1 hc
      refine go_iconst (v := 1) C rfl dX12_parts_178 ?_
      refine go_istore_n (lv2 := [(3, .int 1), (0, .ref (G.2.2.1 75)), (1, .int v1), (2, .int v2), (4, .int v4), (5, .int v5)]) C rfl (by rw [hnl]; decide) rfl dX12_parts_179 ?_
      obtain ⟨v4_1, ev4_1⟩ : ∃ z : Int32, z = v4 + 1 := ⟨_, rfl⟩
      replace hw := hw v4_1 ev4_1
      refine go_iinc (v := v4_1) (lv2 := [(4, .int v4_1), (3, .int 1), (0, .ref (G.2.2.1 75)), (1, .int v1), (2, .int v2), (5, .int v5)]) C 4 rfl (by rw [ev4_1]; rfl) (by rw [hnl]; decide) rfl dX12_parts_180 ?_
      refine go_goto C 26 rfl dX12_parts_183 ?_
      refine go_sub [2, 3, 4, 1, 0] rfl ?_
      exact hK26 _ _ _ _ _ hw
    · replace hw := hw.2 hc
      refine go_iload C 5 rfl dX12_parts_73 ?_
      refine go_bipush (v := 16) C rfl dX12_parts_75 ?_
      refine go_irem C (by decide) dX12_parts_77 ?_
      refine go_aload_n C 0 rfl rfl dX12_parts_78 ?_
      refine go_get (v := .ref (G.2.2.1 76)) C (shX12 G) (ltX12 hN) lkX12_7 rfl dX12_parts_79 ?_
      refine go_iconst (v := 1) C rfl dX12_parts_82 ?_
      refine go_iald C (saX12_a G) (laX12_a hN) hw.1 dX12_parts_83 ?_
      replace hw := hw.2
      refine go_icmp_ge C 113 rfl dX12_parts_84 (fun hc => ?_) (fun hc => ?_)
      · replace hw := hw.1 hc
        refine go_iconst (v := 0) C rfl dX12_parts_113 ?_
        exact (gbX12_parts_114 C hr hR hnl hd hN ih) _ _ _ _ _ _ _ hw
      · replace hw := hw.2 hc
        refine go_aload_n C 0 rfl rfl dX12_parts_87 ?_
        refine go_iload_n C 1 rfl rfl dX12_parts_88 ?_
        refine go_iload C 5 rfl dX12_parts_89 ?_
        refine go_bipush (v := 32) C rfl dX12_parts_91 ?_
        refine go_idiv C (by decide) dX12_parts_93 ?_
        refine go_iconst (v := (-1)) C rfl dX12_parts_94 ?_
        refine go_iload C 5 rfl dX12_parts_95 ?_
        refine go_bipush (v := 16) C rfl dX12_parts_97 ?_
        refine go_idiv C (by decide) dX12_parts_99 ?_
        refine go_iconst (v := 2) C rfl dX12_parts_100 ?_
        refine go_irem C (by decide) dX12_parts_101 ?_
        refine go_iload C 5 rfl dX12_parts_102 ?_
        refine go_bipush (v := 16) C rfl dX12_parts_104 ?_
        refine go_irem C (by decide) dX12_parts_106 ?_
        refine go_callV (as := [.int v1, .int (v5 / 32), .int (-1), .int ((v5 / 16) - (v5 / 16) / 2 * 2), .int (v5 - v5 / 16 * 16)]) C hR (shX12 G) (ltX12 hN) cwX12_471 (Nat.le_trans (by decide) hd) (by decide) rfl rfl (Nat.le_of_ble_eq_true rfl) dX12_parts_107 (spX12_sumOf (Nat.le_refl _) hN hw) (fun v_ τ_ hw => ?_)
        obtain ⟨r_2, rfl, hw⟩ := hw
        obtain ⟨σ_3, rfl⟩ : ∃ z, z = τ_ := ⟨_, rfl⟩
        refine go_goto C 114 rfl dX12_parts_110 ?_
        exact (gbX12_parts_114 C hr hR hnl hd hN ih) _ _ _ _ _ _ _ hw
set_option maxRecDepth 20000 in
set_option maxHeartbeats 4000000 in
theorem gbX12_parts_195 {X : XT} {G : GT} {l : Launch} {d : Nat}  {post : Int32 → St → Prop} (C : Cx X G cX12_parts RX12) (hr : Rt X G (some .int) (fun v τ => ∃ r : Int32, v = some (.int r) ∧ post r τ)) (hR : Rm X l d) (hnl : X.2.2.2.2.2.2.2.2.2.2.1 = 7)  (hd : 10 ≤ d) (hN : 119 ≤ G.2.2.2.2.2)   
    : ∀ (n : Nat) (v2 : Int32) (v3 : Int32) (v4 : Int32) (v5 : Int32) (v6 : Int32) (σ : St), wbX12_parts_195   post n v2 v3 v4 v5 v6 σ → Go X G 195 [(0, .ref (G.2.2.1 75)), (2, .int v2), (3, .int v3), (4, .int v4), (5, .int v5), (6, .int v6)] [] σ := by
  intro n
  induction n with
  | zero => intro v2 v3 v4 v5 v6 σ hw; exact hw.elim
  | succ n ih =>
    intro v2 v3 v4 v5 v6 σ hw
    have hw : ((96 ≤ v6 →
      wbX12_parts_253 post v2 v4 v5 σ) ∧
    (¬ 96 ≤ v6 →
      ((v3 = 0 →
        wbX12_parts_253 post v2 v4 v5 σ) ∧
      (¬ v3 = 0 →
        vp_in v6 96 ∧ (
        vp_in v6 96 ∧ (
        ((((gI σ 118 v6.toNatClampNeg) - (gI σ 117 v6.toNatClampNeg)) ≤ v5 →
          ∀ v6_1 : Int32, v6_1 = v6 + 1 →
          wbX12_parts_195 post n v2 v3 v4 v5 v6_1 σ) ∧
        (¬ ((gI σ 118 v6.toNatClampNeg) - (gI σ 117 v6.toNatClampNeg)) ≤ v5 →
          vp_in v6 96 ∧ (
          vp_in v6 96 ∧ (
          ∀ v5_2 : Int32, v5_2 = ((gI σ 118 v6.toNatClampNeg) - (gI σ 117 v6.toNatClampNeg)) →
          ∀ v6_3 : Int32, v6_3 = v6 + 1 →
          wbX12_parts_195 post n v2 v3 v6 v5_2 v6_3 σ)))))))))) := hw
    refine go_iload C 5 rfl dX12_parts_195 ?_
    refine go_bipush (v := 96) C rfl dX12_parts_197 ?_
    refine go_icmp_ge C 253 rfl dX12_parts_199 (fun hc => ?_) (fun hc => ?_)
    · replace hw := hw.1 hc
      refine go_sub [1, 3, 4] rfl ?_
      exact (gbX12_parts_253 C hr hR hnl hd hN) _ _ _ _ hw
    · replace hw := hw.2 hc
      refine go_iload_n C 2 rfl rfl dX12_parts_202 ?_
      refine go_if_eq C 253 rfl dX12_parts_203 (fun hc => ?_) (fun hc => ?_)
      · replace hw := hw.1 hc
        refine go_sub [1, 3, 4] rfl ?_
        exact (gbX12_parts_253 C hr hR hnl hd hN) _ _ _ _ hw
      · replace hw := hw.2 hc
        refine go_aload_n C 0 rfl rfl dX12_parts_206 ?_
        refine go_get (v := .ref (G.2.2.1 118)) C (shX12 G) (ltX12 hN) lkX12_145 rfl dX12_parts_207 ?_
        refine go_iload C 5 rfl dX12_parts_210 ?_
        refine go_iald C (saX12_highest G) (laX12_highest hN) hw.1 dX12_parts_212 ?_
        replace hw := hw.2
        refine go_aload_n C 0 rfl rfl dX12_parts_213 ?_
        refine go_get (v := .ref (G.2.2.1 117)) C (shX12 G) (ltX12 hN) lkX12_142 rfl dX12_parts_214 ?_
        refine go_iload C 5 rfl dX12_parts_217 ?_
        refine go_iald C (saX12_lowest G) (laX12_lowest hN) hw.1 dX12_parts_219 ?_
        replace hw := hw.2
        refine go_isub C dX12_parts_220 ?_
        refine go_iload C 4 rfl dX12_parts_221 ?_
        refine go_icmp_le C 247 rfl dX12_parts_223 (fun hc => ?_) (fun hc => ?_)
        · replace hw := hw.1 hc
          obtain ⟨v6_1, ev6_1⟩ : ∃ z : Int32, z = v6 + 1 := ⟨_, rfl⟩
          replace hw := hw v6_1 ev6_1
          refine go_iinc (v := v6_1) (lv2 := [(6, .int v6_1), (0, .ref (G.2.2.1 75)), (2, .int v2), (3, .int v3), (4, .int v4), (5, .int v5)]) C 5 rfl (by rw [ev6_1]; rfl) (by rw [hnl]; decide) rfl dX12_parts_247 ?_
          refine go_goto C 195 rfl dX12_parts_250 ?_
          refine go_sub [1, 2, 3, 4, 5, 0] rfl ?_
          exact ih _ _ _ _ _ _ hw
        · replace hw := hw.2 hc
          refine go_aload_n C 0 rfl rfl dX12_parts_226 ?_
          refine go_get (v := .ref (G.2.2.1 118)) C (shX12 G) (ltX12 hN) lkX12_145 rfl dX12_parts_227 ?_
          refine go_iload C 5 rfl dX12_parts_230 ?_
          refine go_iald C (saX12_highest G) (laX12_highest hN) hw.1 dX12_parts_232 ?_
          replace hw := hw.2
          refine go_aload_n C 0 rfl rfl dX12_parts_233 ?_
          refine go_get (v := .ref (G.2.2.1 117)) C (shX12 G) (ltX12 hN) lkX12_142 rfl dX12_parts_234 ?_
          refine go_iload C 5 rfl dX12_parts_237 ?_
          refine go_iald C (saX12_lowest G) (laX12_lowest hN) hw.1 dX12_parts_239 ?_
          replace hw := hw.2
          refine go_isub C dX12_parts_240 ?_
          refine go_topi (fun v5_2 ev5_2 => ?_)
          replace hw := hw v5_2 ev5_2
          refine go_istore (lv2 := [(5, .int v5_2), (0, .ref (G.2.2.1 75)), (2, .int v2), (3, .int v3), (4, .int v4), (6, .int v6)]) C (by rw [hnl]; decide) rfl dX12_parts_241 ?_
          refine go_iload C 5 rfl dX12_parts_243 ?_
          refine go_istore (lv2 := [(4, .int v6), (5, .int v5_2), (0, .ref (G.2.2.1 75)), (2, .int v2), (3, .int v3), (6, .int v6)]) C (by rw [hnl]; decide) rfl dX12_parts_245 ?_
          obtain ⟨v6_3, ev6_3⟩ : ∃ z : Int32, z = v6 + 1 := ⟨_, rfl⟩
          replace hw := hw v6_3 ev6_3
          refine go_iinc (v := v6_3) (lv2 := [(6, .int v6_3), (4, .int v6), (5, .int v5_2), (0, .ref (G.2.2.1 75)), (2, .int v2), (3, .int v3)]) C 5 rfl (by rw [ev6_3]; rfl) (by rw [hnl]; decide) rfl dX12_parts_247 ?_
          refine go_goto C 195 rfl dX12_parts_250 ?_
          refine go_sub [3, 4, 5, 1, 2, 0] rfl ?_
          exact ih _ _ _ _ _ _ hw
set_option maxRecDepth 20000 in
set_option maxHeartbeats 4000000 in
theorem gbX12_parts_26 {X : XT} {G : GT} {l : Launch} {d : Nat}  {post : Int32 → St → Prop} (C : Cx X G cX12_parts RX12) (hr : Rt X G (some .int) (fun v τ => ∃ r : Int32, v = some (.int r) ∧ post r τ)) (hR : Rm X l d) (hnl : X.2.2.2.2.2.2.2.2.2.2.1 = 7)  (hd : 10 ≤ d) (hN : 119 ≤ G.2.2.2.2.2)   
    : ∀ (n : Nat) (v1 : Int32) (v2 : Int32) (v3 : Int32) (v4 : Int32) (σ : St), wbX12_parts_26   post n v1 v2 v3 v4 σ → Go X G 26 [(0, .ref (G.2.2.1 75)), (1, .int v1), (2, .int v2), (3, .int v3), (4, .int v4)] [] σ := by
  intro n
  induction n with
  | zero => intro v1 v2 v3 v4 σ hw; exact hw.elim
  | succ n ih =>
    intro v1 v2 v3 v4 σ hw
    have hw : vp_in 4 9680 ∧ (
    (((gI σ 76 (4 : Int32).toNatClampNeg) ≤ v4 →
      ∃ m_195, wbX12_parts_195 post m_195 v2 v3 (-1) 0 0 σ) ∧
    (¬ (gI σ 76 (4 : Int32).toNatClampNeg) ≤ v4 →
      vp_in 0 9680 ∧ (
      wpX12_isLet v4 (gI σ 76 (0 : Int32).toNatClampNeg) σ (fun r_1 σ_2 =>
      ((r_1 = 0 →
        ∀ v4_3 : Int32, v4_3 = v4 + 1 →
        wbX12_parts_26 post n v1 v2 v3 v4_3 σ_2) ∧
      (¬ r_1 = 0 →
        wpX12_runs (v1 + 1) (-1) 0 v4 σ_2 (fun σ_5 =>
        ∃ m_66, wbX12_parts_66 (wbX12_parts_26 post n) post m_66 v1 v2 v3 v4 0 σ_5)))))))) := hw
    refine go_iload C 4 rfl dX12_parts_26 ?_
    refine go_aload_n C 0 rfl rfl dX12_parts_28 ?_
    refine go_get (v := .ref (G.2.2.1 76)) C (shX12 G) (ltX12 hN) lkX12_7 rfl dX12_parts_29 ?_
    refine go_iconst (v := 4) C rfl dX12_parts_32 ?_
    refine go_iald C (saX12_a G) (laX12_a hN) hw.1 dX12_parts_33 ?_
    replace hw := hw.2
    refine go_icmp_ge C 186 rfl dX12_parts_34 (fun hc => ?_) (fun hc => ?_)
    · replace hw := hw.1 hc
      refine go_iconst (v := (-1)) C rfl dX12_parts_186 ?_
      refine go_istore (lv2 := [(4, .int (-1)), (0, .ref (G.2.2.1 75)), (1, .int v1), (2, .int v2), (3, .int v3)]) C (by rw [hnl]; decide) rfl dX12_parts_187 ?_
      refine go_iconst (v := 0) C rfl dX12_parts_189 ?_
      refine go_istore (lv2 := [(5, .int 0), (4, .int (-1)), (0, .ref (G.2.2.1 75)), (1, .int v1), (2, .int v2), (3, .int v3)]) C (by rw [hnl]; decide) rfl dX12_parts_190 ?_
      refine go_iconst (v := 0) C rfl dX12_parts_192 ?_
      refine go_istore (lv2 := [(6, .int 0), (5, .int 0), (4, .int (-1)), (0, .ref (G.2.2.1 75)), (1, .int v1), (2, .int v2), (3, .int v3)]) C (by rw [hnl]; decide) rfl dX12_parts_193 ?_
      refine go_sub [3, 5, 6, 2, 1, 0] rfl ?_
      obtain ⟨n_0, hw⟩ := hw
      exact (gbX12_parts_195 C hr hR hnl hd hN) n_0 _ _ _ _ _ _ hw
    · replace hw := hw.2 hc
      refine go_aload_n C 0 rfl rfl dX12_parts_37 ?_
      refine go_iload C 4 rfl dX12_parts_38 ?_
      refine go_aload_n C 0 rfl rfl dX12_parts_40 ?_
      refine go_get (v := .ref (G.2.2.1 76)) C (shX12 G) (ltX12 hN) lkX12_7 rfl dX12_parts_41 ?_
      refine go_iconst (v := 0) C rfl dX12_parts_44 ?_
      refine go_iald C (saX12_a G) (laX12_a hN) hw.1 dX12_parts_45 ?_
      replace hw := hw.2
      refine go_callV (as := [.int v4, .int (gI σ 76 (0 : Int32).toNatClampNeg)]) C hR (shX12 G) (ltX12 hN) cwX12_532 (Nat.le_trans (by decide) hd) (by decide) rfl rfl (Nat.le_of_ble_eq_true rfl) dX12_parts_46 (spX12_isLet (Nat.le_refl _) hN hw) (fun v_ τ_ hw => ?_)
      obtain ⟨r_1, rfl, hw⟩ := hw
      obtain ⟨σ_2, rfl⟩ : ∃ z, z = τ_ := ⟨_, rfl⟩
      refine go_if_eq C 180 rfl dX12_parts_49 (fun hc => ?_) (fun hc => ?_)
      · replace hw := hw.1 hc
        obtain ⟨v4_3, ev4_3⟩ : ∃ z : Int32, z = v4 + 1 := ⟨_, rfl⟩
        replace hw := hw v4_3 ev4_3
        refine go_iinc (v := v4_3) (lv2 := [(4, .int v4_3), (0, .ref (G.2.2.1 75)), (1, .int v1), (2, .int v2), (3, .int v3)]) C 4 rfl (by rw [ev4_3]; rfl) (by rw [hnl]; decide) rfl dX12_parts_180 ?_
        refine go_goto C 26 rfl dX12_parts_183 ?_
        refine go_sub [1, 2, 3, 4, 0] rfl ?_
        exact ih _ _ _ _ _ hw
      · replace hw := hw.2 hc
        refine go_aload_n C 0 rfl rfl dX12_parts_52 ?_
        refine go_iload_n C 1 rfl rfl dX12_parts_53 ?_
        refine go_iconst (v := 1) C rfl dX12_parts_54 ?_
        refine go_iadd C dX12_parts_55 ?_
        refine go_iconst (v := (-1)) C rfl dX12_parts_56 ?_
        refine go_iconst (v := 0) C rfl dX12_parts_57 ?_
        refine go_iload C 4 rfl dX12_parts_58 ?_
        refine go_callV (as := [.int (v1 + 1), .int (-1), .int 0, .int v4]) C hR (shX12 G) (ltX12 hN) cwX12_188 (Nat.le_trans (by decide) hd) (by decide) rfl rfl (Nat.le_of_ble_eq_true rfl) dX12_parts_60 (spX12_runs (Nat.le_refl _) hN hw) (fun v_ τ_ hw => ?_)
        obtain ⟨rfl, hw⟩ := hw
        obtain ⟨σ_5, rfl⟩ : ∃ z, z = τ_ := ⟨_, rfl⟩
        refine go_iconst (v := 0) C rfl dX12_parts_63 ?_
        refine go_istore (lv2 := [(5, .int 0), (0, .ref (G.2.2.1 75)), (1, .int v1), (2, .int v2), (3, .int v3), (4, .int v4)]) C (by rw [hnl]; decide) rfl dX12_parts_64 ?_
        refine go_sub [1, 2, 3, 4, 5, 0] rfl ?_
        obtain ⟨n_0, hw⟩ := hw
        exact (gbX12_parts_66 C hr hR hnl hd hN ih) n_0 _ _ _ _ _ _ hw
set_option maxRecDepth 20000 in
set_option maxHeartbeats 4000000 in
theorem spX12_parts {l : Launch} {G : GT} {d : Nat}  (hd : 10 ≤ d)  (hN : 119 ≤ G.2.2.2.2.2)  {a1 : Int32} {a2 : Int32} {σ : St} {post : Int32 → St → Prop} (hw : wpX12_parts  a1 a2 σ post) : Sp l G d yX12_parts cX12_parts 7 (some .int) [.ref (G.2.2.1 75), .int a1, .int a2] σ (fun v τ => ∃ r : Int32, v = some (.int r) ∧ post r τ) := by
  refine Sp.of (by decide) (Nat.le_of_ble_eq_true rfl) fun X C hr hR hnl => ?_
  show Go X G 0 [(0, .ref (G.2.2.1 75)), (1, .int a1), (2, .int a2)] [] σ
  have hw : wpX12_in a1 0 60 σ (fun r_1 σ_2 =>
  ((r_1 = 0 →
    post (-1) σ_2) ∧
  (¬ r_1 = 0 →
    wpX12_in a2 0 3 σ_2 (fun r_3 σ_4 =>
    ((¬ r_3 = 0 →
      ∃ m_26, wbX12_parts_26 post m_26 a1 a2 0 0 σ_4) ∧
    (r_3 = 0 →
      post (-1) σ_4)))))) := hw
  refine go_iload_n C 1 rfl rfl dX12_parts_0 ?_
  refine go_iconst (v := 0) C rfl dX12_parts_1 ?_
  refine go_bipush (v := 60) C rfl dX12_parts_2 ?_
  refine go_callS (as := [.int a1, .int 0, .int 60]) C hR cwX12_152 (Nat.le_trans (by decide) hd) (by decide) rfl rfl (Nat.le_of_ble_eq_true rfl) dX12_parts_4 (spX12_in (Nat.le_refl _) hN hw) (fun v_ τ_ hw => ?_)
  obtain ⟨r_1, rfl, hw⟩ := hw
  obtain ⟨σ_2, rfl⟩ : ∃ z, z = τ_ := ⟨_, rfl⟩
  refine go_if_eq C 19 rfl dX12_parts_7 (fun hc => ?_) (fun hc => ?_)
  · replace hw := hw.1 hc
    refine go_iconst (v := (-1)) C rfl dX12_parts_19 ?_
    exact go_iret C hr ⟨_, rfl, hw⟩ dX12_parts_20
  · replace hw := hw.2 hc
    refine go_iload_n C 2 rfl rfl dX12_parts_10 ?_
    refine go_iconst (v := 0) C rfl dX12_parts_11 ?_
    refine go_iconst (v := 3) C rfl dX12_parts_12 ?_
    refine go_callS (as := [.int a2, .int 0, .int 3]) C hR cwX12_152 (Nat.le_trans (by decide) hd) (by decide) rfl rfl (Nat.le_of_ble_eq_true rfl) dX12_parts_13 (spX12_in (Nat.le_refl _) hN hw) (fun v_ τ_ hw => ?_)
    obtain ⟨r_3, rfl, hw⟩ := hw
    obtain ⟨σ_4, rfl⟩ : ∃ z, z = τ_ := ⟨_, rfl⟩
    refine go_if_ne C 21 rfl dX12_parts_16 (fun hc => ?_) (fun hc => ?_)
    · replace hw := hw.1 hc
      refine go_iconst (v := 0) C rfl dX12_parts_21 ?_
      refine go_istore_n (lv2 := [(3, .int 0), (0, .ref (G.2.2.1 75)), (1, .int a1), (2, .int a2)]) C rfl (by rw [hnl]; decide) rfl dX12_parts_22 ?_
      refine go_iconst (v := 0) C rfl dX12_parts_23 ?_
      refine go_istore (lv2 := [(4, .int 0), (3, .int 0), (0, .ref (G.2.2.1 75)), (1, .int a1), (2, .int a2)]) C (by rw [hnl]; decide) rfl dX12_parts_24 ?_
      refine go_sub [2, 3, 4, 1, 0] rfl ?_
      obtain ⟨n_0, hw⟩ := hw
      exact (gbX12_parts_26 C hr hR hnl hd hN) n_0 _ _ _ _ _ hw
    · replace hw := hw.2 hc
      refine go_iconst (v := (-1)) C rfl dX12_parts_19 ?_
      exact go_iret C hr ⟨_, rfl, hw⟩ dX12_parts_20
-- CradleNamesModel.image()I
set_option maxRecDepth 20000 in
set_option maxHeartbeats 4000000 in
theorem spX12_image {l : Launch} {G : GT} {d : Nat}  (hd : 2 ≤ d)  (hN : 119 ≤ G.2.2.2.2.2)   {σ : St} {post : Int32 → St → Prop} (hw : wpX12_image   σ post) : Sp l G d yX12_image cX12_image 1 (some .int) [.ref (G.2.2.1 75)] σ (fun v τ => ∃ r : Int32, v = some (.int r) ∧ post r τ) := by
  refine Sp.of (by decide) (Nat.le_of_ble_eq_true rfl) fun X C hr hR hnl => ?_
  show Go X G 0 [(0, .ref (G.2.2.1 75))] [] σ
  have hw : wpX12_copies 1 σ (fun σ_2 =>
  vp_in 0 9680 ∧ (
  post (gI σ_2 76 (0 : Int32).toNatClampNeg) σ_2)) := hw
  refine go_aload_n C 0 rfl rfl dX12_image_0 ?_
  refine go_iconst (v := 1) C rfl dX12_image_1 ?_
  refine go_callV (as := [.int 1]) C hR (shX12 G) (ltX12 hN) cwX12_148 (Nat.le_trans (by decide) hd) (by decide) rfl rfl (Nat.le_of_ble_eq_true rfl) dX12_image_2 (spX12_copies (Nat.le_refl _) hN hw) (fun v_ τ_ hw => ?_)
  obtain ⟨rfl, hw⟩ := hw
  obtain ⟨σ_2, rfl⟩ : ∃ z, z = τ_ := ⟨_, rfl⟩
  refine go_aload_n C 0 rfl rfl dX12_image_5 ?_
  refine go_get (v := .ref (G.2.2.1 76)) C (shX12 G) (ltX12 hN) lkX12_7 rfl dX12_image_6 ?_
  refine go_iconst (v := 0) C rfl dX12_image_9 ?_
  refine go_iald C (saX12_a G) (laX12_a hN) hw.1 dX12_image_10 ?_
  replace hw := hw.2
  exact go_iret C hr ⟨_, rfl, hw⟩ dX12_image_11
-- CradleNamesModel.back()I
set_option maxRecDepth 20000 in
set_option maxHeartbeats 4000000 in
theorem spX12_back {l : Launch} {G : GT} {d : Nat}  (hd : 2 ≤ d)  (hN : 119 ≤ G.2.2.2.2.2)   {σ : St} {post : Int32 → St → Prop} (hw : wpX12_back   σ post) : Sp l G d yX12_back cX12_back 1 (some .int) [.ref (G.2.2.1 75)] σ (fun v τ => ∃ r : Int32, v = some (.int r) ∧ post r τ) := by
  refine Sp.of (by decide) (Nat.le_of_ble_eq_true rfl) fun X C hr hR hnl => ?_
  show Go X G 0 [(0, .ref (G.2.2.1 75))] [] σ
  have hw : wpX12_copies 0 σ (fun σ_2 =>
  vp_in 0 9680 ∧ (
  post (gI σ_2 76 (0 : Int32).toNatClampNeg) σ_2)) := hw
  refine go_aload_n C 0 rfl rfl dX12_back_0 ?_
  refine go_iconst (v := 0) C rfl dX12_back_1 ?_
  refine go_callV (as := [.int 0]) C hR (shX12 G) (ltX12 hN) cwX12_148 (Nat.le_trans (by decide) hd) (by decide) rfl rfl (Nat.le_of_ble_eq_true rfl) dX12_back_2 (spX12_copies (Nat.le_refl _) hN hw) (fun v_ τ_ hw => ?_)
  obtain ⟨rfl, hw⟩ := hw
  obtain ⟨σ_2, rfl⟩ : ∃ z, z = τ_ := ⟨_, rfl⟩
  refine go_aload_n C 0 rfl rfl dX12_back_5 ?_
  refine go_get (v := .ref (G.2.2.1 76)) C (shX12 G) (ltX12 hN) lkX12_7 rfl dX12_back_6 ?_
  refine go_iconst (v := 0) C rfl dX12_back_9 ?_
  refine go_iald C (saX12_a G) (laX12_a hN) hw.1 dX12_back_10 ?_
  replace hw := hw.2
  exact go_iret C hr ⟨_, rfl, hw⟩ dX12_back_11
-- CradleNamesModel.about(I)I
set_option maxRecDepth 20000 in
set_option maxHeartbeats 4000000 in
theorem spX12_about {l : Launch} {G : GT} {d : Nat}  (hd : 2 ≤ d)  (hN : 119 ≤ G.2.2.2.2.2)  {a1 : Int32} {σ : St} {post : Int32 → St → Prop} (hw : wpX12_about  a1 σ post) : Sp l G d yX12_about cX12_about 2 (some .int) [.ref (G.2.2.1 75), .int a1] σ (fun v τ => ∃ r : Int32, v = some (.int r) ∧ post r τ) := by
  refine Sp.of (by decide) (Nat.le_of_ble_eq_true rfl) fun X C hr hR hnl => ?_
  show Go X G 0 [(0, .ref (G.2.2.1 75)), (1, .int a1)] [] σ
  have hw : ((a1 = 0 →
    vp_in 0 9680 ∧ (
    post (gI σ 76 (0 : Int32).toNatClampNeg) σ)) ∧
  (¬ a1 = 0 →
  ((a1 = 1 →
    vp_in 1 9680 ∧ (
    post (gI σ 76 (1 : Int32).toNatClampNeg) σ)) ∧
  (¬ a1 = 1 →
  ((a1 = 2 →
    vp_in 2 9680 ∧ (
    post (gI σ 76 (2 : Int32).toNatClampNeg) σ)) ∧
  (¬ a1 = 2 →
  ((a1 = 3 →
    vp_in 3 9680 ∧ (
    post (gI σ 76 (3 : Int32).toNatClampNeg) σ)) ∧
  (¬ a1 = 3 →
  ((a1 = 4 →
    vp_in 4 9680 ∧ (
    post (gI σ 76 (4 : Int32).toNatClampNeg) σ)) ∧
  (¬ a1 = 4 →
  ((a1 = 5 →
    vp_in 5 9680 ∧ (
    post (gI σ 76 (5 : Int32).toNatClampNeg) σ)) ∧
  (¬ a1 = 5 →
  ((a1 = 6 →
    post (gI σ 75 4) σ) ∧
  (¬ a1 = 6 →
  ((a1 = 7 →
    vp_in 6 9680 ∧ (
    post (gI σ 76 (6 : Int32).toNatClampNeg) σ)) ∧
  (¬ a1 = 7 →
  wpX12_in a1 10 11 σ (fun r_1 σ_2 =>
  ((r_1 = 0 →
    wpX12_in a1 20 31 σ_2 (fun r_3 σ_4 =>
    ((r_3 = 0 →
      post (-1) σ_4) ∧
    (¬ r_3 = 0 →
      vp_in ((10 + a1) - 20) 9680 ∧ (
      post (gI σ_4 76 ((10 + a1) - 20).toNatClampNeg) σ_4))))) ∧
  (¬ r_1 = 0 →
    vp_in ((7 + a1) - 10) 9680 ∧ (
    post (gI σ_2 76 ((7 + a1) - 10).toNatClampNeg) σ_2)))))))))))))))))))) := hw
  refine go_iload_n C 1 rfl rfl dX12_about_0 ?_
  by_cases hc0 : a1 = 0
  · replace hw := hw.1 hc0
    refine go_tableIn C 48 (by rw [hc0]; decide) (by rw [hc0]; decide) (by rw [hc0]; rfl) rfl dX12_about_1 ?_
    refine go_aload_n C 0 rfl rfl dX12_about_48 ?_
    refine go_get (v := .ref (G.2.2.1 76)) C (shX12 G) (ltX12 hN) lkX12_7 rfl dX12_about_49 ?_
    refine go_iconst (v := 0) C rfl dX12_about_52 ?_
    refine go_iald C (saX12_a G) (laX12_a hN) hw.1 dX12_about_53 ?_
    replace hw := hw.2
    exact go_iret C hr ⟨_, rfl, hw⟩ dX12_about_54
  replace hw := hw.2 hc0
  by_cases hc1 : a1 = 1
  · replace hw := hw.1 hc1
    refine go_tableIn C 55 (by rw [hc1]; decide) (by rw [hc1]; decide) (by rw [hc1]; rfl) rfl dX12_about_1 ?_
    refine go_aload_n C 0 rfl rfl dX12_about_55 ?_
    refine go_get (v := .ref (G.2.2.1 76)) C (shX12 G) (ltX12 hN) lkX12_7 rfl dX12_about_56 ?_
    refine go_iconst (v := 1) C rfl dX12_about_59 ?_
    refine go_iald C (saX12_a G) (laX12_a hN) hw.1 dX12_about_60 ?_
    replace hw := hw.2
    exact go_iret C hr ⟨_, rfl, hw⟩ dX12_about_61
  replace hw := hw.2 hc1
  by_cases hc2 : a1 = 2
  · replace hw := hw.1 hc2
    refine go_tableIn C 62 (by rw [hc2]; decide) (by rw [hc2]; decide) (by rw [hc2]; rfl) rfl dX12_about_1 ?_
    refine go_aload_n C 0 rfl rfl dX12_about_62 ?_
    refine go_get (v := .ref (G.2.2.1 76)) C (shX12 G) (ltX12 hN) lkX12_7 rfl dX12_about_63 ?_
    refine go_iconst (v := 2) C rfl dX12_about_66 ?_
    refine go_iald C (saX12_a G) (laX12_a hN) hw.1 dX12_about_67 ?_
    replace hw := hw.2
    exact go_iret C hr ⟨_, rfl, hw⟩ dX12_about_68
  replace hw := hw.2 hc2
  by_cases hc3 : a1 = 3
  · replace hw := hw.1 hc3
    refine go_tableIn C 69 (by rw [hc3]; decide) (by rw [hc3]; decide) (by rw [hc3]; rfl) rfl dX12_about_1 ?_
    refine go_aload_n C 0 rfl rfl dX12_about_69 ?_
    refine go_get (v := .ref (G.2.2.1 76)) C (shX12 G) (ltX12 hN) lkX12_7 rfl dX12_about_70 ?_
    refine go_iconst (v := 3) C rfl dX12_about_73 ?_
    refine go_iald C (saX12_a G) (laX12_a hN) hw.1 dX12_about_74 ?_
    replace hw := hw.2
    exact go_iret C hr ⟨_, rfl, hw⟩ dX12_about_75
  replace hw := hw.2 hc3
  by_cases hc4 : a1 = 4
  · replace hw := hw.1 hc4
    refine go_tableIn C 76 (by rw [hc4]; decide) (by rw [hc4]; decide) (by rw [hc4]; rfl) rfl dX12_about_1 ?_
    refine go_aload_n C 0 rfl rfl dX12_about_76 ?_
    refine go_get (v := .ref (G.2.2.1 76)) C (shX12 G) (ltX12 hN) lkX12_7 rfl dX12_about_77 ?_
    refine go_iconst (v := 4) C rfl dX12_about_80 ?_
    refine go_iald C (saX12_a G) (laX12_a hN) hw.1 dX12_about_81 ?_
    replace hw := hw.2
    exact go_iret C hr ⟨_, rfl, hw⟩ dX12_about_82
  replace hw := hw.2 hc4
  by_cases hc5 : a1 = 5
  · replace hw := hw.1 hc5
    refine go_tableIn C 83 (by rw [hc5]; decide) (by rw [hc5]; decide) (by rw [hc5]; rfl) rfl dX12_about_1 ?_
    refine go_aload_n C 0 rfl rfl dX12_about_83 ?_
    refine go_get (v := .ref (G.2.2.1 76)) C (shX12 G) (ltX12 hN) lkX12_7 rfl dX12_about_84 ?_
    refine go_iconst (v := 5) C rfl dX12_about_87 ?_
    refine go_iald C (saX12_a G) (laX12_a hN) hw.1 dX12_about_88 ?_
    replace hw := hw.2
    exact go_iret C hr ⟨_, rfl, hw⟩ dX12_about_89
  replace hw := hw.2 hc5
  by_cases hc6 : a1 = 6
  · replace hw := hw.1 hc6
    refine go_tableIn C 90 (by rw [hc6]; decide) (by rw [hc6]; decide) (by rw [hc6]; rfl) rfl dX12_about_1 ?_
    refine go_aload_n C 0 rfl rfl dX12_about_90 ?_
    refine go_get (v := .int (gI σ 75 4)) C (shX12 G) (ltX12 hN) lkX12_210 rfl dX12_about_91 ?_
    exact go_iret C hr ⟨_, rfl, hw⟩ dX12_about_94
  replace hw := hw.2 hc6
  by_cases hc7 : a1 = 7
  · replace hw := hw.1 hc7
    refine go_tableIn C 95 (by rw [hc7]; decide) (by rw [hc7]; decide) (by rw [hc7]; rfl) rfl dX12_about_1 ?_
    refine go_aload_n C 0 rfl rfl dX12_about_95 ?_
    refine go_get (v := .ref (G.2.2.1 76)) C (shX12 G) (ltX12 hN) lkX12_7 rfl dX12_about_96 ?_
    refine go_bipush (v := 6) C rfl dX12_about_99 ?_
    refine go_iald C (saX12_a G) (laX12_a hN) hw.1 dX12_about_101 ?_
    replace hw := hw.2
    exact go_iret C hr ⟨_, rfl, hw⟩ dX12_about_102
  replace hw := hw.2 hc7
  refine go_tableOut C 103 (by have g0 := lv_neT hc0 (show (0 : Int32).toInt = 0 from rfl); have g1 := lv_neT hc1 (show (1 : Int32).toInt = 1 from rfl); have g2 := lv_neT hc2 (show (2 : Int32).toInt = 2 from rfl); have g3 := lv_neT hc3 (show (3 : Int32).toInt = 3 from rfl); have g4 := lv_neT hc4 (show (4 : Int32).toInt = 4 from rfl); have g5 := lv_neT hc5 (show (5 : Int32).toInt = 5 from rfl); have g6 := lv_neT hc6 (show (6 : Int32).toInt = 6 from rfl); have g7 := lv_neT hc7 (show (7 : Int32).toInt = 7 from rfl); omega) rfl dX12_about_1 ?_
  refine go_iload_n C 1 rfl rfl dX12_about_103 ?_
  refine go_bipush (v := 10) C rfl dX12_about_104 ?_
  refine go_bipush (v := 11) C rfl dX12_about_106 ?_
  refine go_callS (as := [.int a1, .int 10, .int 11]) C hR cwX12_152 (Nat.le_trans (by decide) hd) (by decide) rfl rfl (Nat.le_of_ble_eq_true rfl) dX12_about_108 (spX12_in (Nat.le_refl _) hN hw) (fun v_ τ_ hw => ?_)
  obtain ⟨r_1, rfl, hw⟩ := hw
  obtain ⟨σ_2, rfl⟩ : ∃ z, z = τ_ := ⟨_, rfl⟩
  refine go_if_eq C 129 rfl dX12_about_111 (fun hc => ?_) (fun hc => ?_)
  · replace hw := hw.1 hc
    refine go_iload_n C 1 rfl rfl dX12_about_129 ?_
    refine go_bipush (v := 20) C rfl dX12_about_130 ?_
    refine go_bipush (v := 31) C rfl dX12_about_132 ?_
    refine go_callS (as := [.int a1, .int 20, .int 31]) C hR cwX12_152 (Nat.le_trans (by decide) hd) (by decide) rfl rfl (Nat.le_of_ble_eq_true rfl) dX12_about_134 (spX12_in (Nat.le_refl _) hN hw) (fun v_ τ_ hw => ?_)
    obtain ⟨r_3, rfl, hw⟩ := hw
    obtain ⟨σ_4, rfl⟩ : ∃ z, z = τ_ := ⟨_, rfl⟩
    refine go_if_eq C 155 rfl dX12_about_137 (fun hc => ?_) (fun hc => ?_)
    · replace hw := hw.1 hc
      refine go_iconst (v := (-1)) C rfl dX12_about_155 ?_
      exact go_iret C hr ⟨_, rfl, hw⟩ dX12_about_156
    · replace hw := hw.2 hc
      refine go_aload_n C 0 rfl rfl dX12_about_140 ?_
      refine go_get (v := .ref (G.2.2.1 76)) C (shX12 G) (ltX12 hN) lkX12_7 rfl dX12_about_141 ?_
      refine go_bipush (v := 10) C rfl dX12_about_144 ?_
      refine go_iload_n C 1 rfl rfl dX12_about_146 ?_
      refine go_iadd C dX12_about_147 ?_
      refine go_bipush (v := 20) C rfl dX12_about_148 ?_
      refine go_isub C dX12_about_150 ?_
      refine go_iald C (saX12_a G) (laX12_a hN) hw.1 dX12_about_151 ?_
      replace hw := hw.2
      refine go_goto C 156 rfl dX12_about_152 ?_
      exact go_iret C hr ⟨_, rfl, hw⟩ dX12_about_156
  · replace hw := hw.2 hc
    refine go_aload_n C 0 rfl rfl dX12_about_114 ?_
    refine go_get (v := .ref (G.2.2.1 76)) C (shX12 G) (ltX12 hN) lkX12_7 rfl dX12_about_115 ?_
    refine go_bipush (v := 7) C rfl dX12_about_118 ?_
    refine go_iload_n C 1 rfl rfl dX12_about_120 ?_
    refine go_iadd C dX12_about_121 ?_
    refine go_bipush (v := 10) C rfl dX12_about_122 ?_
    refine go_isub C dX12_about_124 ?_
    refine go_iald C (saX12_a G) (laX12_a hN) hw.1 dX12_about_125 ?_
    replace hw := hw.2
    refine go_goto C 156 rfl dX12_about_126 ?_
    exact go_iret C hr ⟨_, rfl, hw⟩ dX12_about_156
