-- CradleNamesModel.peak(I)I
set_option maxRecDepth 20000 in
set_option maxHeartbeats 4000000 in
theorem gbX12_peak_4 {X : XT} {G : GT} {l : Launch} {d : Nat}  {post : Int32 → St → Prop} (C : Cx X G cX12_peak RX12) (hr : Rt X G (some .int) (fun v τ => ∃ r : Int32, v = some (.int r) ∧ post r τ)) (hR : Rm X l d) (hnl : X.2.2.2.2.2.2.2.2.2.2.1 = 4)  (hd : 2 ≤ d) (hN : 119 ≤ G.2.2.2.2.2)   
    : ∀ (n : Nat) (v1 : Int32) (v2 : Int32) (v3 : Int32) (σ : St), wbX12_peak_4   post n v1 v2 v3 σ → Go X G 4 [(0, .ref (G.2.2.1 75)), (1, .int v1), (2, .int v2), (3, .int v3)] [] σ := by
  intro n
  induction n with
  | zero => intro v1 v2 v3 σ hw; exact hw.elim
  | succ n ih =>
    intro v1 v2 v3 σ hw
    have hw : vp_in 0 9680 ∧ (
    (((gI σ 76 (0 : Int32).toNatClampNeg) ≤ v3 →
      post v2 σ) ∧
    (¬ (gI σ 76 (0 : Int32).toNatClampNeg) ≤ v3 →
      wpX12_all v3 v1 σ (fun r_1 σ_2 =>
      ((r_1 ≤ 0 →
        ∀ v3_3 : Int32, v3_3 = v3 + 1 →
        wbX12_peak_4 post n v1 v2 v3_3 σ_2) ∧
      (¬ r_1 ≤ 0 →
        ((v2 = (-1) →
          ∀ v3_4 : Int32, v3_4 = v3 + 1 →
          wbX12_peak_4 post n v1 v3 v3_4 σ_2) ∧
        (¬ v2 = (-1) →
          wpX12_all v3 v1 σ_2 (fun r_5 σ_6 =>
          wpX12_all v2 v1 σ_6 (fun r_7 σ_8 =>
          ((r_5 ≤ r_7 →
            ∀ v3_9 : Int32, v3_9 = v3 + 1 →
            wbX12_peak_4 post n v1 v2 v3_9 σ_8) ∧
          (¬ r_5 ≤ r_7 →
            ∀ v3_10 : Int32, v3_10 = v3 + 1 →
            wbX12_peak_4 post n v1 v3 v3_10 σ_8)))))))))))) := hw
    refine go_iload_n C 3 rfl rfl dX12_peak_4 ?_
    refine go_aload_n C 0 rfl rfl dX12_peak_5 ?_
    refine go_get (v := .ref (G.2.2.1 76)) C (shX12 G) (ltX12 hN) lkX12_7 rfl dX12_peak_6 ?_
    refine go_iconst (v := 0) C rfl dX12_peak_9 ?_
    refine go_iald C (saX12_a G) (laX12_a hN) hw.1 dX12_peak_10 ?_
    replace hw := hw.2
    refine go_icmp_ge C 55 rfl dX12_peak_11 (fun hc => ?_) (fun hc => ?_)
    · replace hw := hw.1 hc
      refine go_iload_n C 2 rfl rfl dX12_peak_55 ?_
      exact go_iret C hr ⟨_, rfl, hw⟩ dX12_peak_56
    · replace hw := hw.2 hc
      refine go_aload_n C 0 rfl rfl dX12_peak_14 ?_
      refine go_iload_n C 3 rfl rfl dX12_peak_15 ?_
      refine go_iload_n C 1 rfl rfl dX12_peak_16 ?_
      refine go_callV (as := [.int v3, .int v1]) C hR (shX12 G) (ltX12 hN) cwX12_407 (Nat.le_trans (by decide) hd) (by decide) rfl rfl (Nat.le_of_ble_eq_true rfl) dX12_peak_17 (spX12_all (Nat.le_refl _) hN hw) (fun v_ τ_ hw => ?_)
      obtain ⟨r_1, rfl, hw⟩ := hw
      obtain ⟨σ_2, rfl⟩ : ∃ z, z = τ_ := ⟨_, rfl⟩
      refine go_if_le C 47 rfl dX12_peak_20 (fun hc => ?_) (fun hc => ?_)
      · replace hw := hw.1 hc
        refine go_iload_n C 2 rfl rfl dX12_peak_47 ?_
        refine go_istore_n (lv2 := [(2, .int v2), (0, .ref (G.2.2.1 75)), (1, .int v1), (3, .int v3)]) C rfl (by rw [hnl]; decide) rfl dX12_peak_48 ?_
        obtain ⟨v3_3, ev3_3⟩ : ∃ z : Int32, z = v3 + 1 := ⟨_, rfl⟩
        replace hw := hw v3_3 ev3_3
        refine go_iinc (v := v3_3) (lv2 := [(3, .int v3_3), (2, .int v2), (0, .ref (G.2.2.1 75)), (1, .int v1)]) C 3 rfl (by rw [ev3_3]; rfl) (by rw [hnl]; decide) rfl dX12_peak_49 ?_
        refine go_goto C 4 rfl dX12_peak_52 ?_
        refine go_sub [2, 3, 1, 0] rfl ?_
        exact ih _ _ _ _ hw
      · replace hw := hw.2 hc
        refine go_iload_n C 2 rfl rfl dX12_peak_23 ?_
        refine go_iconst (v := (-1)) C rfl dX12_peak_24 ?_
        refine go_icmp_eq C 43 rfl dX12_peak_25 (fun hc => ?_) (fun hc => ?_)
        · replace hw := hw.1 hc
          refine go_iload_n C 3 rfl rfl dX12_peak_43 ?_
          refine go_goto C 48 rfl dX12_peak_44 ?_
          refine go_istore_n (lv2 := [(2, .int v3), (0, .ref (G.2.2.1 75)), (1, .int v1), (3, .int v3)]) C rfl (by rw [hnl]; decide) rfl dX12_peak_48 ?_
          obtain ⟨v3_4, ev3_4⟩ : ∃ z : Int32, z = v3 + 1 := ⟨_, rfl⟩
          replace hw := hw v3_4 ev3_4
          refine go_iinc (v := v3_4) (lv2 := [(3, .int v3_4), (2, .int v3), (0, .ref (G.2.2.1 75)), (1, .int v1)]) C 3 rfl (by rw [ev3_4]; rfl) (by rw [hnl]; decide) rfl dX12_peak_49 ?_
          refine go_goto C 4 rfl dX12_peak_52 ?_
          refine go_sub [2, 3, 1, 0] rfl ?_
          exact ih _ _ _ _ hw
        · replace hw := hw.2 hc
          refine go_aload_n C 0 rfl rfl dX12_peak_28 ?_
          refine go_iload_n C 3 rfl rfl dX12_peak_29 ?_
          refine go_iload_n C 1 rfl rfl dX12_peak_30 ?_
          refine go_callV (as := [.int v3, .int v1]) C hR (shX12 G) (ltX12 hN) cwX12_407 (Nat.le_trans (by decide) hd) (by decide) rfl rfl (Nat.le_of_ble_eq_true rfl) dX12_peak_31 (spX12_all (Nat.le_refl _) hN hw) (fun v_ τ_ hw => ?_)
          obtain ⟨r_5, rfl, hw⟩ := hw
          obtain ⟨σ_6, rfl⟩ : ∃ z, z = τ_ := ⟨_, rfl⟩
          refine go_aload_n C 0 rfl rfl dX12_peak_34 ?_
          refine go_iload_n C 2 rfl rfl dX12_peak_35 ?_
          refine go_iload_n C 1 rfl rfl dX12_peak_36 ?_
          refine go_callV (as := [.int v2, .int v1]) C hR (shX12 G) (ltX12 hN) cwX12_407 (Nat.le_trans (by decide) hd) (by decide) rfl rfl (Nat.le_of_ble_eq_true rfl) dX12_peak_37 (spX12_all (Nat.le_refl _) hN hw) (fun v_ τ_ hw => ?_)
          obtain ⟨r_7, rfl, hw⟩ := hw
          obtain ⟨σ_8, rfl⟩ : ∃ z, z = τ_ := ⟨_, rfl⟩
          refine go_icmp_le C 47 rfl dX12_peak_40 (fun hc => ?_) (fun hc => ?_)
          · replace hw := hw.1 hc
            refine go_iload_n C 2 rfl rfl dX12_peak_47 ?_
            refine go_istore_n (lv2 := [(2, .int v2), (0, .ref (G.2.2.1 75)), (1, .int v1), (3, .int v3)]) C rfl (by rw [hnl]; decide) rfl dX12_peak_48 ?_
            obtain ⟨v3_9, ev3_9⟩ : ∃ z : Int32, z = v3 + 1 := ⟨_, rfl⟩
            replace hw := hw v3_9 ev3_9
            refine go_iinc (v := v3_9) (lv2 := [(3, .int v3_9), (2, .int v2), (0, .ref (G.2.2.1 75)), (1, .int v1)]) C 3 rfl (by rw [ev3_9]; rfl) (by rw [hnl]; decide) rfl dX12_peak_49 ?_
            refine go_goto C 4 rfl dX12_peak_52 ?_
            refine go_sub [2, 3, 1, 0] rfl ?_
            exact ih _ _ _ _ hw
          · replace hw := hw.2 hc
            refine go_iload_n C 3 rfl rfl dX12_peak_43 ?_
            refine go_goto C 48 rfl dX12_peak_44 ?_
            refine go_istore_n (lv2 := [(2, .int v3), (0, .ref (G.2.2.1 75)), (1, .int v1), (3, .int v3)]) C rfl (by rw [hnl]; decide) rfl dX12_peak_48 ?_
            obtain ⟨v3_10, ev3_10⟩ : ∃ z : Int32, z = v3 + 1 := ⟨_, rfl⟩
            replace hw := hw v3_10 ev3_10
            refine go_iinc (v := v3_10) (lv2 := [(3, .int v3_10), (2, .int v3), (0, .ref (G.2.2.1 75)), (1, .int v1)]) C 3 rfl (by rw [ev3_10]; rfl) (by rw [hnl]; decide) rfl dX12_peak_49 ?_
            refine go_goto C 4 rfl dX12_peak_52 ?_
            refine go_sub [2, 3, 1, 0] rfl ?_
            exact ih _ _ _ _ hw
set_option maxRecDepth 20000 in
set_option maxHeartbeats 4000000 in
theorem spX12_peak {l : Launch} {G : GT} {d : Nat}  (hd : 2 ≤ d)  (hN : 119 ≤ G.2.2.2.2.2)  {a1 : Int32} {σ : St} {post : Int32 → St → Prop} (hw : wpX12_peak  a1 σ post) : Sp l G d yX12_peak cX12_peak 4 (some .int) [.ref (G.2.2.1 75), .int a1] σ (fun v τ => ∃ r : Int32, v = some (.int r) ∧ post r τ) := by
  refine Sp.of (by decide) (Nat.le_of_ble_eq_true rfl) fun X C hr hR hnl => ?_
  show Go X G 0 [(0, .ref (G.2.2.1 75)), (1, .int a1)] [] σ
  have hw : ∃ m_4, wbX12_peak_4 post m_4 a1 (-1) 0 σ := hw
  refine go_iconst (v := (-1)) C rfl dX12_peak_0 ?_
  refine go_istore_n (lv2 := [(2, .int (-1)), (0, .ref (G.2.2.1 75)), (1, .int a1)]) C rfl (by rw [hnl]; decide) rfl dX12_peak_1 ?_
  refine go_iconst (v := 0) C rfl dX12_peak_2 ?_
  refine go_istore_n (lv2 := [(3, .int 0), (2, .int (-1)), (0, .ref (G.2.2.1 75)), (1, .int a1)]) C rfl (by rw [hnl]; decide) rfl dX12_peak_3 ?_
  refine go_sub [2, 3, 1, 0] rfl ?_
  obtain ⟨n_0, hw⟩ := hw
  exact (gbX12_peak_4 C hr hR hnl hd hN) n_0 _ _ _ _ hw
-- CradleNamesModel.slope(III)I
set_option maxRecDepth 20000 in
set_option maxHeartbeats 4000000 in
theorem gbX12_slope_8 {X : XT} {G : GT} {l : Launch} {d : Nat}  {post : Int32 → St → Prop} (C : Cx X G cX12_slope RX12) (hr : Rt X G (some .int) (fun v τ => ∃ r : Int32, v = some (.int r) ∧ post r τ)) (hR : Rm X l d) (hnl : X.2.2.2.2.2.2.2.2.2.2.1 = 6)  (hd : 2 ≤ d) (hN : 119 ≤ G.2.2.2.2.2)   
    : ∀ (n : Nat) (v1 : Int32) (v2 : Int32) (v3 : Int32) (v4 : Int32) (v5 : Int32) (σ : St), wbX12_slope_8   post n v1 v2 v3 v4 v5 σ → Go X G 8 [(0, .ref (G.2.2.1 75)), (1, .int v1), (2, .int v2), (3, .int v3), (4, .int v4), (5, .int v5)] [] σ := by
  intro n
  induction n with
  | zero => intro v1 v2 v3 v4 v5 σ hw; exact hw.elim
  | succ n ih =>
    intro v1 v2 v3 v4 v5 σ hw
    have hw : ((v4 < 0 →
      post v5 σ) ∧
    (¬ v4 < 0 →
      vp_in 0 9680 ∧ (
      (((gI σ 76 (0 : Int32).toNatClampNeg) ≤ v4 →
        post v5 σ) ∧
      (¬ (gI σ 76 (0 : Int32).toNatClampNeg) ≤ v4 →
        wpX12_all v4 v1 σ (fun r_1 σ_2 =>
        wpX12_all v2 v1 σ_2 (fun r_3 σ_4 =>
        (((2 * r_1) < r_3 →
          post v5 σ_4) ∧
        (¬ (2 * r_1) < r_3 →
          ∀ v5_5 : Int32, v5_5 = v5 + 1 →
          ∀ v4_6 : Int32, v4_6 = (v4 + v3) →
          wbX12_slope_8 post n v1 v2 v3 v4_6 v5_5 σ_4))))))))) := hw
    refine go_iload C 4 rfl dX12_slope_8 ?_
    refine go_if_lt C 54 rfl dX12_slope_10 (fun hc => ?_) (fun hc => ?_)
    · replace hw := hw.1 hc
      refine go_iload C 5 rfl dX12_slope_54 ?_
      exact go_iret C hr ⟨_, rfl, hw⟩ dX12_slope_56
    · replace hw := hw.2 hc
      refine go_iload C 4 rfl dX12_slope_13 ?_
      refine go_aload_n C 0 rfl rfl dX12_slope_15 ?_
      refine go_get (v := .ref (G.2.2.1 76)) C (shX12 G) (ltX12 hN) lkX12_7 rfl dX12_slope_16 ?_
      refine go_iconst (v := 0) C rfl dX12_slope_19 ?_
      refine go_iald C (saX12_a G) (laX12_a hN) hw.1 dX12_slope_20 ?_
      replace hw := hw.2
      refine go_icmp_ge C 54 rfl dX12_slope_21 (fun hc => ?_) (fun hc => ?_)
      · replace hw := hw.1 hc
        refine go_iload C 5 rfl dX12_slope_54 ?_
        exact go_iret C hr ⟨_, rfl, hw⟩ dX12_slope_56
      · replace hw := hw.2 hc
        refine go_iconst (v := 2) C rfl dX12_slope_24 ?_
        refine go_aload_n C 0 rfl rfl dX12_slope_25 ?_
        refine go_iload C 4 rfl dX12_slope_26 ?_
        refine go_iload_n C 1 rfl rfl dX12_slope_28 ?_
        refine go_callV (as := [.int v4, .int v1]) C hR (shX12 G) (ltX12 hN) cwX12_407 (Nat.le_trans (by decide) hd) (by decide) rfl rfl (Nat.le_of_ble_eq_true rfl) dX12_slope_29 (spX12_all (Nat.le_refl _) hN hw) (fun v_ τ_ hw => ?_)
        obtain ⟨r_1, rfl, hw⟩ := hw
        obtain ⟨σ_2, rfl⟩ : ∃ z, z = τ_ := ⟨_, rfl⟩
        refine go_imul C dX12_slope_32 ?_
        refine go_aload_n C 0 rfl rfl dX12_slope_33 ?_
        refine go_iload_n C 2 rfl rfl dX12_slope_34 ?_
        refine go_iload_n C 1 rfl rfl dX12_slope_35 ?_
        refine go_callV (as := [.int v2, .int v1]) C hR (shX12 G) (ltX12 hN) cwX12_407 (Nat.le_trans (by decide) hd) (by decide) rfl rfl (Nat.le_of_ble_eq_true rfl) dX12_slope_36 (spX12_all (Nat.le_refl _) hN hw) (fun v_ τ_ hw => ?_)
        obtain ⟨r_3, rfl, hw⟩ := hw
        obtain ⟨σ_4, rfl⟩ : ∃ z, z = τ_ := ⟨_, rfl⟩
        refine go_icmp_lt C 54 rfl dX12_slope_39 (fun hc => ?_) (fun hc => ?_)
        · replace hw := hw.1 hc
          refine go_iload C 5 rfl dX12_slope_54 ?_
          exact go_iret C hr ⟨_, rfl, hw⟩ dX12_slope_56
        · replace hw := hw.2 hc
          obtain ⟨v5_5, ev5_5⟩ : ∃ z : Int32, z = v5 + 1 := ⟨_, rfl⟩
          replace hw := hw v5_5 ev5_5
          refine go_iinc (v := v5_5) (lv2 := [(5, .int v5_5), (0, .ref (G.2.2.1 75)), (1, .int v1), (2, .int v2), (3, .int v3), (4, .int v4)]) C 5 rfl (by rw [ev5_5]; rfl) (by rw [hnl]; decide) rfl dX12_slope_42 ?_
          refine go_iload C 5 rfl dX12_slope_45 ?_
          refine go_iload_n C 4 rfl rfl dX12_slope_47 ?_
          refine go_iadd C dX12_slope_48 ?_
          refine go_topi (fun v4_6 ev4_6 => ?_)
          replace hw := hw v4_6 ev4_6
          refine go_istore (lv2 := [(4, .int v4_6), (5, .int v5_5), (0, .ref (G.2.2.1 75)), (1, .int v1), (2, .int v2), (3, .int v3)]) C (by rw [hnl]; decide) rfl dX12_slope_49 ?_
          refine go_goto C 8 rfl dX12_slope_51 ?_
          refine go_sub [2, 3, 4, 5, 0, 1] rfl ?_
          exact ih _ _ _ _ _ _ hw
set_option maxRecDepth 20000 in
set_option maxHeartbeats 4000000 in
theorem spX12_slope {l : Launch} {G : GT} {d : Nat}  (hd : 2 ≤ d)  (hN : 119 ≤ G.2.2.2.2.2)  {a1 : Int32} {a2 : Int32} {a3 : Int32} {σ : St} {post : Int32 → St → Prop} (hw : wpX12_slope  a1 a2 a3 σ post) : Sp l G d yX12_slope cX12_slope 6 (some .int) [.ref (G.2.2.1 75), .int a1, .int a2, .int a3] σ (fun v τ => ∃ r : Int32, v = some (.int r) ∧ post r τ) := by
  refine Sp.of (by decide) (Nat.le_of_ble_eq_true rfl) fun X C hr hR hnl => ?_
  show Go X G 0 [(0, .ref (G.2.2.1 75)), (1, .int a1), (2, .int a2), (3, .int a3)] [] σ
  have hw : ∀ v4_1 : Int32, v4_1 = (a2 + a3) →
  ∃ m_8, wbX12_slope_8 post m_8 a1 a2 a3 v4_1 0 σ := hw
  refine go_iload_n C 2 rfl rfl dX12_slope_0 ?_
  refine go_iload_n C 3 rfl rfl dX12_slope_1 ?_
  refine go_iadd C dX12_slope_2 ?_
  refine go_topi (fun v4_1 ev4_1 => ?_)
  replace hw := hw v4_1 ev4_1
  refine go_istore (lv2 := [(4, .int v4_1), (0, .ref (G.2.2.1 75)), (1, .int a1), (2, .int a2), (3, .int a3)]) C (by rw [hnl]; decide) rfl dX12_slope_3 ?_
  refine go_iconst (v := 0) C rfl dX12_slope_5 ?_
  refine go_istore (lv2 := [(5, .int 0), (4, .int v4_1), (0, .ref (G.2.2.1 75)), (1, .int a1), (2, .int a2), (3, .int a3)]) C (by rw [hnl]; decide) rfl dX12_slope_6 ?_
  refine go_sub [2, 3, 4, 5, 1, 0] rfl ?_
  obtain ⟨n_0, hw⟩ := hw
  exact (gbX12_slope_8 C hr hR hnl hd hN) n_0 _ _ _ _ _ _ hw
-- CradleNamesModel.shape(II)I
set_option maxRecDepth 20000 in
set_option maxHeartbeats 4000000 in
theorem gbX12_shape_69 {X : XT} {G : GT} {l : Launch} {d : Nat}  {post : Int32 → St → Prop} (C : Cx X G cX12_shape RX12) (hr : Rt X G (some .int) (fun v τ => ∃ r : Int32, v = some (.int r) ∧ post r τ)) (hR : Rm X l d) (hnl : X.2.2.2.2.2.2.2.2.2.2.1 = 4)  (hd : 10 ≤ d) (hN : 119 ≤ G.2.2.2.2.2)   
    : ∀ (s0 : Int32) (s1 : Int32) (s2 : Int32) (σ : St), wbX12_shape_69   post s0 s1 s2 σ → Go X G 69 [] [.int s0, .int s1, .int s2, .ref (G.2.2.1 75)] σ := by
  intro s0 s1 s2 σ hw
  have hw : wpX12_slope s2 s1 s0 σ (fun r_1 σ_2 =>
  post r_1 σ_2) := hw
  refine go_callV (as := [.int s2, .int s1, .int s0]) C hR (shX12 G) (ltX12 hN) cwX12_485 (Nat.le_trans (by decide) hd) (by decide) rfl rfl (Nat.le_of_ble_eq_true rfl) dX12_shape_69 (spX12_slope (Nat.le_refl _) hN hw) (fun v_ τ_ hw => ?_)
  obtain ⟨r_1, rfl, hw⟩ := hw
  obtain ⟨σ_2, rfl⟩ : ∃ z, z = τ_ := ⟨_, rfl⟩
  exact go_iret C hr ⟨_, rfl, hw⟩ dX12_shape_72
set_option maxRecDepth 20000 in
set_option maxHeartbeats 4000000 in
theorem spX12_shape {l : Launch} {G : GT} {d : Nat}  (hd : 10 ≤ d)  (hN : 119 ≤ G.2.2.2.2.2)  {a1 : Int32} {a2 : Int32} {σ : St} {post : Int32 → St → Prop} (hw : wpX12_shape  a1 a2 σ post) : Sp l G d yX12_shape cX12_shape 4 (some .int) [.ref (G.2.2.1 75), .int a1, .int a2] σ (fun v τ => ∃ r : Int32, v = some (.int r) ∧ post r τ) := by
  refine Sp.of (by decide) (Nat.le_of_ble_eq_true rfl) fun X C hr hR hnl => ?_
  show Go X G 0 [(0, .ref (G.2.2.1 75)), (1, .int a1), (2, .int a2)] [] σ
  have hw : wpX12_isName a1 σ (fun r_1 σ_2 =>
  ((r_1 = 0 →
    post (-1) σ_2) ∧
  (¬ r_1 = 0 →
    wpX12_in a2 0 3 σ_2 (fun r_3 σ_4 =>
    ((¬ r_3 = 0 →
      wpX12_runsAll  σ_4 (fun σ_6 =>
      wpX12_peak a1 σ_6 (fun r_7 σ_8 =>
      ((r_7 = (-1) →
        post r_7 σ_8) ∧
      (¬ r_7 = (-1) →
        ((¬ a2 = 0 →
          ((¬ a2 = 1 →
            ((¬ a2 = 2 →
              wbX12_shape_69 post 1 r_7 a1 σ_8) ∧
            (a2 = 2 →
              wbX12_shape_69 post (-1) r_7 a1 σ_8))) ∧
          (a2 = 1 →
            wpX12_all r_7 a1 σ_8 (fun r_9 σ_10 =>
            post r_9 σ_10)))) ∧
        (a2 = 0 →
          post r_7 σ_8))))))) ∧
    (r_3 = 0 →
      post (-1) σ_4)))))) := hw
  refine go_aload_n C 0 rfl rfl dX12_shape_0 ?_
  refine go_iload_n C 1 rfl rfl dX12_shape_1 ?_
  refine go_callV (as := [.int a1]) C hR (shX12 G) (ltX12 hN) cwX12_182 (Nat.le_trans (by decide) hd) (by decide) rfl rfl (Nat.le_of_ble_eq_true rfl) dX12_shape_2 (spX12_isName (Nat.le_refl _) hN hw) (fun v_ τ_ hw => ?_)
  obtain ⟨r_1, rfl, hw⟩ := hw
  obtain ⟨σ_2, rfl⟩ : ∃ z, z = τ_ := ⟨_, rfl⟩
  refine go_if_eq C 17 rfl dX12_shape_5 (fun hc => ?_) (fun hc => ?_)
  · replace hw := hw.1 hc
    refine go_iconst (v := (-1)) C rfl dX12_shape_17 ?_
    exact go_iret C hr ⟨_, rfl, hw⟩ dX12_shape_18
  · replace hw := hw.2 hc
    refine go_iload_n C 2 rfl rfl dX12_shape_8 ?_
    refine go_iconst (v := 0) C rfl dX12_shape_9 ?_
    refine go_iconst (v := 3) C rfl dX12_shape_10 ?_
    refine go_callS (as := [.int a2, .int 0, .int 3]) C hR cwX12_152 (Nat.le_trans (by decide) hd) (by decide) rfl rfl (Nat.le_of_ble_eq_true rfl) dX12_shape_11 (spX12_in (Nat.le_refl _) hN hw) (fun v_ τ_ hw => ?_)
    obtain ⟨r_3, rfl, hw⟩ := hw
    obtain ⟨σ_4, rfl⟩ : ∃ z, z = τ_ := ⟨_, rfl⟩
    refine go_if_ne C 19 rfl dX12_shape_14 (fun hc => ?_) (fun hc => ?_)
    · replace hw := hw.1 hc
      refine go_aload_n C 0 rfl rfl dX12_shape_19 ?_
      refine go_callV (as := []) C hR (shX12 G) (ltX12 hN) cwX12_464 (Nat.le_trans (by decide) hd) (by decide) rfl rfl (Nat.le_of_ble_eq_true rfl) dX12_shape_20 (spX12_runsAll (Nat.le_refl _) hN hw) (fun v_ τ_ hw => ?_)
      obtain ⟨rfl, hw⟩ := hw
      obtain ⟨σ_6, rfl⟩ : ∃ z, z = τ_ := ⟨_, rfl⟩
      refine go_aload_n C 0 rfl rfl dX12_shape_23 ?_
      refine go_iload_n C 1 rfl rfl dX12_shape_24 ?_
      refine go_callV (as := [.int a1]) C hR (shX12 G) (ltX12 hN) cwX12_482 (Nat.le_trans (by decide) hd) (by decide) rfl rfl (Nat.le_of_ble_eq_true rfl) dX12_shape_25 (spX12_peak (Nat.le_refl _) hN hw) (fun v_ τ_ hw => ?_)
      obtain ⟨r_7, rfl, hw⟩ := hw
      obtain ⟨σ_8, rfl⟩ : ∃ z, z = τ_ := ⟨_, rfl⟩
      refine go_istore_n (lv2 := [(3, .int r_7), (0, .ref (G.2.2.1 75)), (1, .int a1), (2, .int a2)]) C rfl (by rw [hnl]; decide) rfl dX12_shape_28 ?_
      refine go_iload_n C 0 rfl rfl dX12_shape_29 ?_
      refine go_iconst (v := (-1)) C rfl dX12_shape_30 ?_
      refine go_icmp_eq C 38 rfl dX12_shape_31 (fun hc => ?_) (fun hc => ?_)
      · replace hw := hw.1 hc
        refine go_iload_n C 0 rfl rfl dX12_shape_38 ?_
        refine go_goto C 72 rfl dX12_shape_39 ?_
        exact go_iret C hr ⟨_, rfl, hw⟩ dX12_shape_72
      · replace hw := hw.2 hc
        refine go_iload_n C 3 rfl rfl dX12_shape_34 ?_
        refine go_if_ne C 42 rfl dX12_shape_35 (fun hc => ?_) (fun hc => ?_)
        · replace hw := hw.1 hc
          refine go_iload_n C 3 rfl rfl dX12_shape_42 ?_
          refine go_iconst (v := 1) C rfl dX12_shape_43 ?_
          refine go_icmp_ne C 56 rfl dX12_shape_44 (fun hc => ?_) (fun hc => ?_)
          · replace hw := hw.1 hc
            refine go_aload_n C 1 rfl rfl dX12_shape_56 ?_
            refine go_iload_n C 2 rfl rfl dX12_shape_57 ?_
            refine go_iload_n C 0 rfl rfl dX12_shape_58 ?_
            refine go_iload_n C 3 rfl rfl dX12_shape_59 ?_
            refine go_iconst (v := 2) C rfl dX12_shape_60 ?_
            refine go_icmp_ne C 68 rfl dX12_shape_61 (fun hc => ?_) (fun hc => ?_)
            · replace hw := hw.1 hc
              refine go_iconst (v := 1) C rfl dX12_shape_68 ?_
              refine go_sub [] rfl ?_
              exact (gbX12_shape_69 C hr hR hnl hd hN) _ _ _ _ hw
            · replace hw := hw.2 hc
              refine go_iconst (v := (-1)) C rfl dX12_shape_64 ?_
              refine go_goto C 69 rfl dX12_shape_65 ?_
              refine go_sub [] rfl ?_
              exact (gbX12_shape_69 C hr hR hnl hd hN) _ _ _ _ hw
          · replace hw := hw.2 hc
            refine go_aload_n C 1 rfl rfl dX12_shape_47 ?_
            refine go_iload_n C 0 rfl rfl dX12_shape_48 ?_
            refine go_iload_n C 2 rfl rfl dX12_shape_49 ?_
            refine go_callV (as := [.int r_7, .int a1]) C hR (shX12 G) (ltX12 hN) cwX12_407 (Nat.le_trans (by decide) hd) (by decide) rfl rfl (Nat.le_of_ble_eq_true rfl) dX12_shape_50 (spX12_all (Nat.le_refl _) hN hw) (fun v_ τ_ hw => ?_)
            obtain ⟨r_9, rfl, hw⟩ := hw
            obtain ⟨σ_10, rfl⟩ : ∃ z, z = τ_ := ⟨_, rfl⟩
            refine go_goto C 72 rfl dX12_shape_53 ?_
            exact go_iret C hr ⟨_, rfl, hw⟩ dX12_shape_72
        · replace hw := hw.2 hc
          refine go_iload_n C 0 rfl rfl dX12_shape_38 ?_
          refine go_goto C 72 rfl dX12_shape_39 ?_
          exact go_iret C hr ⟨_, rfl, hw⟩ dX12_shape_72
    · replace hw := hw.2 hc
      refine go_iconst (v := (-1)) C rfl dX12_shape_17 ?_
      exact go_iret C hr ⟨_, rfl, hw⟩ dX12_shape_18
-- CradleNamesModel.shapes(I)I
set_option maxRecDepth 20000 in
set_option maxHeartbeats 4000000 in
theorem gbX12_shapes_142 {X : XT} {G : GT} {l : Launch} {d : Nat}  {post : Int32 → St → Prop} (C : Cx X G cX12_shapes RX12) (hr : Rt X G (some .int) (fun v τ => ∃ r : Int32, v = some (.int r) ∧ post r τ)) (hR : Rm X l d) (hnl : X.2.2.2.2.2.2.2.2.2.2.1 = 11)  (hd : 10 ≤ d) (hN : 119 ≤ G.2.2.2.2.2)  {K157 : Int32 → Int32 → Int32 → Int32 → Int32 → Int32 → St → Prop} (hK157 : ∀ (v1 : Int32) (v2 : Int32) (v3 : Int32) (v4 : Int32) (v9 : Int32) (s0 : Int32) (σ : St), K157 v1 v2 v3 v4 v9 s0 σ → Go X G 157 [(0, .ref (G.2.2.1 75)), (1, .int v1), (2, .int v2), (3, .int v3), (4, .int v4), (9, .int v9)] [.int s0] σ)
    : ∀ (v1 : Int32) (v2 : Int32) (v3 : Int32) (v4 : Int32) (v7 : Int32) (v8 : Int32) (v9 : Int32) (σ : St), wbX12_shapes_142  K157 post v1 v2 v3 v4 v7 v8 v9 σ → Go X G 142 [(0, .ref (G.2.2.1 75)), (1, .int v1), (2, .int v2), (3, .int v3), (4, .int v4), (7, .int v7), (8, .int v8), (9, .int v9)] [] σ := by
  intro v1 v2 v3 v4 v7 v8 v9 σ hw
  have hw : ((0 ≤ v7 →
    K157 v1 v2 v3 v4 v9 0 σ) ∧
  (¬ 0 ≤ v7 →
    ((v8 ≤ 0 →
      K157 v1 v2 v3 v4 v9 0 σ) ∧
    (¬ v8 ≤ 0 →
      K157 v1 v2 v3 v4 v9 1 σ)))) := hw
  refine go_iload C 5 rfl dX12_shapes_142 ?_
  refine go_if_ge C 156 rfl dX12_shapes_144 (fun hc => ?_) (fun hc => ?_)
  · replace hw := hw.1 hc
    refine go_iconst (v := 0) C rfl dX12_shapes_156 ?_
    refine go_sub [0, 1, 2, 3, 4, 7] rfl ?_
    exact hK157 _ _ _ _ _ _ _ hw
  · replace hw := hw.2 hc
    refine go_iload C 6 rfl dX12_shapes_147 ?_
    refine go_if_le C 156 rfl dX12_shapes_149 (fun hc => ?_) (fun hc => ?_)
    · replace hw := hw.1 hc
      refine go_iconst (v := 0) C rfl dX12_shapes_156 ?_
      refine go_sub [0, 1, 2, 3, 4, 7] rfl ?_
      exact hK157 _ _ _ _ _ _ _ hw
    · replace hw := hw.2 hc
      refine go_iconst (v := 1) C rfl dX12_shapes_152 ?_
      refine go_goto C 157 rfl dX12_shapes_153 ?_
      refine go_sub [0, 1, 2, 3, 4, 7] rfl ?_
      exact hK157 _ _ _ _ _ _ _ hw
set_option maxRecDepth 20000 in
set_option maxHeartbeats 4000000 in
theorem gbX12_shapes_157 {X : XT} {G : GT} {l : Launch} {d : Nat}  {post : Int32 → St → Prop} (C : Cx X G cX12_shapes RX12) (hr : Rt X G (some .int) (fun v τ => ∃ r : Int32, v = some (.int r) ∧ post r τ)) (hR : Rm X l d) (hnl : X.2.2.2.2.2.2.2.2.2.2.1 = 11)  (hd : 10 ≤ d) (hN : 119 ≤ G.2.2.2.2.2)  {K32 : Int32 → Int32 → Int32 → Int32 → St → Prop} (hK32 : ∀ (v1 : Int32) (v2 : Int32) (v3 : Int32) (v4 : Int32) (σ : St), K32 v1 v2 v3 v4 σ → Go X G 32 [(0, .ref (G.2.2.1 75)), (1, .int v1), (2, .int v2), (3, .int v3), (4, .int v4)] [] σ)
    : ∀ (v1 : Int32) (v2 : Int32) (v3 : Int32) (v4 : Int32) (v9 : Int32) (s0 : Int32) (σ : St), wbX12_shapes_157  K32 post v1 v2 v3 v4 v9 s0 σ → Go X G 157 [(0, .ref (G.2.2.1 75)), (1, .int v1), (2, .int v2), (3, .int v3), (4, .int v4), (9, .int v9)] [.int s0] σ := by
  intro v1 v2 v3 v4 v9 s0 σ hw
  have hw : ((¬ v1 = 0 →
    ((s0 = 0 →
      ∀ v2_1 : Int32, v2_1 = (v2 + 0) →
      ∀ v4_2 : Int32, v4_2 = v4 + 1 →
      K32 v1 v2_1 v3 v4_2 σ) ∧
    (¬ s0 = 0 →
      ∀ v2_3 : Int32, v2_3 = (v2 + 1) →
      ∀ v4_4 : Int32, v4_4 = v4 + 1 →
      K32 v1 v2_3 v3 v4_4 σ))) ∧
  (v1 = 0 →
    ((v9 = 0 →
      ∀ v2_5 : Int32, v2_5 = (v2 + 0) →
      ∀ v4_6 : Int32, v4_6 = v4 + 1 →
      K32 v1 v2_5 v3 v4_6 σ) ∧
    (¬ v9 = 0 →
      ∀ v2_7 : Int32, v2_7 = (v2 + 1) →
      ∀ v4_8 : Int32, v4_8 = v4 + 1 →
      K32 v1 v2_7 v3 v4_8 σ)))) := hw
  refine go_istore (lv2 := [(10, .int s0), (0, .ref (G.2.2.1 75)), (1, .int v1), (2, .int v2), (3, .int v3), (4, .int v4), (9, .int v9)]) C (by rw [hnl]; decide) rfl dX12_shapes_157 ?_
  refine go_iload_n C 3 rfl rfl dX12_shapes_159 ?_
  refine go_iload_n C 2 rfl rfl dX12_shapes_160 ?_
  refine go_if_ne C 177 rfl dX12_shapes_161 (fun hc => ?_) (fun hc => ?_)
  · replace hw := hw.1 hc
    refine go_iload C 0 rfl dX12_shapes_177 ?_
    refine go_if_eq C 186 rfl dX12_shapes_179 (fun hc => ?_) (fun hc => ?_)
    · replace hw := hw.1 hc
      refine go_iconst (v := 0) C rfl dX12_shapes_186 ?_
      refine go_iadd C dX12_shapes_187 ?_
      refine go_topi (fun v2_1 ev2_1 => ?_)
      replace hw := hw v2_1 ev2_1
      refine go_istore_n (lv2 := [(2, .int v2_1), (10, .int s0), (0, .ref (G.2.2.1 75)), (1, .int v1), (3, .int v3), (4, .int v4), (9, .int v9)]) C rfl (by rw [hnl]; decide) rfl dX12_shapes_188 ?_
      obtain ⟨v4_2, ev4_2⟩ : ∃ z : Int32, z = v4 + 1 := ⟨_, rfl⟩
      replace hw := hw v4_2 ev4_2
      refine go_iinc (v := v4_2) (lv2 := [(4, .int v4_2), (2, .int v2_1), (10, .int s0), (0, .ref (G.2.2.1 75)), (1, .int v1), (3, .int v3), (9, .int v9)]) C 5 rfl (by rw [ev4_2]; rfl) (by rw [hnl]; decide) rfl dX12_shapes_189 ?_
      refine go_goto C 32 rfl dX12_shapes_192 ?_
      refine go_sub [3, 4, 1, 5, 0] rfl ?_
      exact hK32 _ _ _ _ _ hw
    · replace hw := hw.2 hc
      refine go_iconst (v := 1) C rfl dX12_shapes_182 ?_
      refine go_goto C 187 rfl dX12_shapes_183 ?_
      refine go_iadd C dX12_shapes_187 ?_
      refine go_topi (fun v2_3 ev2_3 => ?_)
      replace hw := hw v2_3 ev2_3
      refine go_istore_n (lv2 := [(2, .int v2_3), (10, .int s0), (0, .ref (G.2.2.1 75)), (1, .int v1), (3, .int v3), (4, .int v4), (9, .int v9)]) C rfl (by rw [hnl]; decide) rfl dX12_shapes_188 ?_
      obtain ⟨v4_4, ev4_4⟩ : ∃ z : Int32, z = v4 + 1 := ⟨_, rfl⟩
      replace hw := hw v4_4 ev4_4
      refine go_iinc (v := v4_4) (lv2 := [(4, .int v4_4), (2, .int v2_3), (10, .int s0), (0, .ref (G.2.2.1 75)), (1, .int v1), (3, .int v3), (9, .int v9)]) C 5 rfl (by rw [ev4_4]; rfl) (by rw [hnl]; decide) rfl dX12_shapes_189 ?_
      refine go_goto C 32 rfl dX12_shapes_192 ?_
      refine go_sub [3, 4, 1, 5, 0] rfl ?_
      exact hK32 _ _ _ _ _ hw
  · replace hw := hw.2 hc
    refine go_iload C 6 rfl dX12_shapes_164 ?_
    refine go_if_eq C 173 rfl dX12_shapes_166 (fun hc => ?_) (fun hc => ?_)
    · replace hw := hw.1 hc
      refine go_iconst (v := 0) C rfl dX12_shapes_173 ?_
      refine go_goto C 187 rfl dX12_shapes_174 ?_
      refine go_iadd C dX12_shapes_187 ?_
      refine go_topi (fun v2_5 ev2_5 => ?_)
      replace hw := hw v2_5 ev2_5
      refine go_istore_n (lv2 := [(2, .int v2_5), (10, .int s0), (0, .ref (G.2.2.1 75)), (1, .int v1), (3, .int v3), (4, .int v4), (9, .int v9)]) C rfl (by rw [hnl]; decide) rfl dX12_shapes_188 ?_
      obtain ⟨v4_6, ev4_6⟩ : ∃ z : Int32, z = v4 + 1 := ⟨_, rfl⟩
      replace hw := hw v4_6 ev4_6
      refine go_iinc (v := v4_6) (lv2 := [(4, .int v4_6), (2, .int v2_5), (10, .int s0), (0, .ref (G.2.2.1 75)), (1, .int v1), (3, .int v3), (9, .int v9)]) C 5 rfl (by rw [ev4_6]; rfl) (by rw [hnl]; decide) rfl dX12_shapes_189 ?_
      refine go_goto C 32 rfl dX12_shapes_192 ?_
      refine go_sub [3, 4, 1, 5, 0] rfl ?_
      exact hK32 _ _ _ _ _ hw
    · replace hw := hw.2 hc
      refine go_iconst (v := 1) C rfl dX12_shapes_169 ?_
      refine go_goto C 187 rfl dX12_shapes_170 ?_
      refine go_iadd C dX12_shapes_187 ?_
      refine go_topi (fun v2_7 ev2_7 => ?_)
      replace hw := hw v2_7 ev2_7
      refine go_istore_n (lv2 := [(2, .int v2_7), (10, .int s0), (0, .ref (G.2.2.1 75)), (1, .int v1), (3, .int v3), (4, .int v4), (9, .int v9)]) C rfl (by rw [hnl]; decide) rfl dX12_shapes_188 ?_
      obtain ⟨v4_8, ev4_8⟩ : ∃ z : Int32, z = v4 + 1 := ⟨_, rfl⟩
      replace hw := hw v4_8 ev4_8
      refine go_iinc (v := v4_8) (lv2 := [(4, .int v4_8), (2, .int v2_7), (10, .int s0), (0, .ref (G.2.2.1 75)), (1, .int v1), (3, .int v3), (9, .int v9)]) C 5 rfl (by rw [ev4_8]; rfl) (by rw [hnl]; decide) rfl dX12_shapes_189 ?_
      refine go_goto C 32 rfl dX12_shapes_192 ?_
      refine go_sub [3, 4, 1, 5, 0] rfl ?_
      exact hK32 _ _ _ _ _ hw
set_option maxRecDepth 20000 in
set_option maxHeartbeats 4000000 in
theorem gbX12_shapes_115 {X : XT} {G : GT} {l : Launch} {d : Nat}  {post : Int32 → St → Prop} (C : Cx X G cX12_shapes RX12) (hr : Rt X G (some .int) (fun v τ => ∃ r : Int32, v = some (.int r) ∧ post r τ)) (hR : Rm X l d) (hnl : X.2.2.2.2.2.2.2.2.2.2.1 = 11)  (hd : 10 ≤ d) (hN : 119 ≤ G.2.2.2.2.2)  {K130 : Int32 → Int32 → Int32 → Int32 → Int32 → Int32 → Int32 → St → Prop} (hK130 : ∀ (v1 : Int32) (v2 : Int32) (v3 : Int32) (v4 : Int32) (v7 : Int32) (v8 : Int32) (s0 : Int32) (σ : St), K130 v1 v2 v3 v4 v7 v8 s0 σ → Go X G 130 [(0, .ref (G.2.2.1 75)), (1, .int v1), (2, .int v2), (3, .int v3), (4, .int v4), (7, .int v7), (8, .int v8)] [.int s0] σ)
    : ∀ (v1 : Int32) (v2 : Int32) (v3 : Int32) (v4 : Int32) (v7 : Int32) (v8 : Int32) (σ : St), wbX12_shapes_115  K130 post v1 v2 v3 v4 v7 v8 σ → Go X G 115 [(0, .ref (G.2.2.1 75)), (1, .int v1), (2, .int v2), (3, .int v3), (4, .int v4), (7, .int v7), (8, .int v8)] [] σ := by
  intro v1 v2 v3 v4 v7 v8 σ hw
  have hw : ((0 ≤ v7 →
    K130 v1 v2 v3 v4 v7 v8 0 σ) ∧
  (¬ 0 ≤ v7 →
    ((0 ≤ v8 →
      K130 v1 v2 v3 v4 v7 v8 0 σ) ∧
    (¬ 0 ≤ v8 →
      K130 v1 v2 v3 v4 v7 v8 1 σ)))) := hw
  refine go_iload C 5 rfl dX12_shapes_115 ?_
  refine go_if_ge C 129 rfl dX12_shapes_117 (fun hc => ?_) (fun hc => ?_)
  · replace hw := hw.1 hc
    refine go_iconst (v := 0) C rfl dX12_shapes_129 ?_
    exact hK130 _ _ _ _ _ _ _ _ hw
  · replace hw := hw.2 hc
    refine go_iload C 6 rfl dX12_shapes_120 ?_
    refine go_if_ge C 129 rfl dX12_shapes_122 (fun hc => ?_) (fun hc => ?_)
    · replace hw := hw.1 hc
      refine go_iconst (v := 0) C rfl dX12_shapes_129 ?_
      exact hK130 _ _ _ _ _ _ _ _ hw
    · replace hw := hw.2 hc
      refine go_iconst (v := 1) C rfl dX12_shapes_125 ?_
      refine go_goto C 130 rfl dX12_shapes_126 ?_
      exact hK130 _ _ _ _ _ _ _ _ hw
set_option maxRecDepth 20000 in
set_option maxHeartbeats 4000000 in
theorem gbX12_shapes_130 {X : XT} {G : GT} {l : Launch} {d : Nat}  {post : Int32 → St → Prop} (C : Cx X G cX12_shapes RX12) (hr : Rt X G (some .int) (fun v τ => ∃ r : Int32, v = some (.int r) ∧ post r τ)) (hR : Rm X l d) (hnl : X.2.2.2.2.2.2.2.2.2.2.1 = 11)  (hd : 10 ≤ d) (hN : 119 ≤ G.2.2.2.2.2)  {K32 : Int32 → Int32 → Int32 → Int32 → St → Prop} (hK32 : ∀ (v1 : Int32) (v2 : Int32) (v3 : Int32) (v4 : Int32) (σ : St), K32 v1 v2 v3 v4 σ → Go X G 32 [(0, .ref (G.2.2.1 75)), (1, .int v1), (2, .int v2), (3, .int v3), (4, .int v4)] [] σ)
    : ∀ (v1 : Int32) (v2 : Int32) (v3 : Int32) (v4 : Int32) (v7 : Int32) (v8 : Int32) (s0 : Int32) (σ : St), wbX12_shapes_130  K32 post v1 v2 v3 v4 v7 v8 s0 σ → Go X G 130 [(0, .ref (G.2.2.1 75)), (1, .int v1), (2, .int v2), (3, .int v3), (4, .int v4), (7, .int v7), (8, .int v8)] [.int s0] σ := by
  intro v1 v2 v3 v4 v7 v8 s0 σ hw
  have hw : ((v7 ≤ 0 →
    wbX12_shapes_142 (wbX12_shapes_157 K32 post) post v1 v2 v3 v4 v7 v8 s0 σ) ∧
  (¬ v7 ≤ 0 →
    ((v8 < 0 →
      wbX12_shapes_157 K32 post v1 v2 v3 v4 s0 1 σ) ∧
    (¬ v8 < 0 →
      wbX12_shapes_142 (wbX12_shapes_157 K32 post) post v1 v2 v3 v4 v7 v8 s0 σ)))) := hw
  refine go_istore (lv2 := [(9, .int s0), (0, .ref (G.2.2.1 75)), (1, .int v1), (2, .int v2), (3, .int v3), (4, .int v4), (7, .int v7), (8, .int v8)]) C (by rw [hnl]; decide) rfl dX12_shapes_130 ?_
  refine go_iload C 6 rfl dX12_shapes_132 ?_
  refine go_if_le C 142 rfl dX12_shapes_134 (fun hc => ?_) (fun hc => ?_)
  · replace hw := hw.1 hc
    refine go_sub [1, 2, 3, 4, 5, 6, 7, 0] rfl ?_
    exact (gbX12_shapes_142 C hr hR hnl hd hN (gbX12_shapes_157 C hr hR hnl hd hN hK32)) _ _ _ _ _ _ _ _ hw
  · replace hw := hw.2 hc
    refine go_iload C 7 rfl dX12_shapes_137 ?_
    refine go_if_lt C 152 rfl dX12_shapes_139 (fun hc => ?_) (fun hc => ?_)
    · replace hw := hw.1 hc
      refine go_iconst (v := 1) C rfl dX12_shapes_152 ?_
      refine go_goto C 157 rfl dX12_shapes_153 ?_
      refine go_sub [1, 2, 3, 4, 5, 0] rfl ?_
      exact (gbX12_shapes_157 C hr hR hnl hd hN hK32) _ _ _ _ _ _ _ hw
    · replace hw := hw.2 hc
      refine go_sub [1, 2, 3, 4, 5, 6, 7, 0] rfl ?_
      exact (gbX12_shapes_142 C hr hR hnl hd hN (gbX12_shapes_157 C hr hR hnl hd hN hK32)) _ _ _ _ _ _ _ _ hw
set_option maxRecDepth 20000 in
set_option maxHeartbeats 4000000 in
theorem gbX12_shapes_32 {X : XT} {G : GT} {l : Launch} {d : Nat}  {post : Int32 → St → Prop} (C : Cx X G cX12_shapes RX12) (hr : Rt X G (some .int) (fun v τ => ∃ r : Int32, v = some (.int r) ∧ post r τ)) (hR : Rm X l d) (hnl : X.2.2.2.2.2.2.2.2.2.2.1 = 11)  (hd : 10 ≤ d) (hN : 119 ≤ G.2.2.2.2.2)  {K19 : Int32 → Int32 → Int32 → St → Prop} (hK19 : ∀ (v1 : Int32) (v2 : Int32) (v3 : Int32) (σ : St), K19 v1 v2 v3 σ → Go X G 19 [(0, .ref (G.2.2.1 75)), (1, .int v1), (2, .int v2), (3, .int v3)] [] σ)
    : ∀ (n : Nat) (v1 : Int32) (v2 : Int32) (v3 : Int32) (v4 : Int32) (σ : St), wbX12_shapes_32  K19 post n v1 v2 v3 v4 σ → Go X G 32 [(0, .ref (G.2.2.1 75)), (1, .int v1), (2, .int v2), (3, .int v3), (4, .int v4)] [] σ := by
  intro n
  induction n with
  | zero => intro v1 v2 v3 v4 σ hw; exact hw.elim
  | succ n ih =>
    intro v1 v2 v3 v4 σ hw
    have hw : ((v3 ≤ v4 →
      ∀ v3_1 : Int32, v3_1 = v3 + 1 →
      K19 v1 v2 v3_1 σ) ∧
    (¬ v3 ≤ v4 →
      wpX12_peak v3 σ (fun r_2 σ_3 =>
      wpX12_peak v4 σ_3 (fun r_4 σ_5 =>
      ((r_2 = (-1) →
        ∀ v4_6 : Int32, v4_6 = v4 + 1 →
        wbX12_shapes_32 K19 post n v1 v2 v3 v4_6 σ_5) ∧
      (¬ r_2 = (-1) →
        ((r_4 = (-1) →
          ∀ v4_7 : Int32, v4_7 = v4 + 1 →
          wbX12_shapes_32 K19 post n v1 v2 v3 v4_7 σ_5) ∧
        (¬ r_4 = (-1) →
          wpX12_slope v3 r_2 (-1) σ_5 (fun r_8 σ_9 =>
          wpX12_slope v4 r_4 (-1) σ_9 (fun r_10 σ_11 =>
          ∀ v7_12 : Int32, v7_12 = (r_8 - r_10) →
          wpX12_slope v3 r_2 1 σ_11 (fun r_13 σ_14 =>
          wpX12_slope v4 r_4 1 σ_14 (fun r_15 σ_16 =>
          ∀ v8_17 : Int32, v8_17 = (r_13 - r_15) →
          ((v7_12 ≤ 0 →
            wbX12_shapes_115 (wbX12_shapes_130 (wbX12_shapes_32 K19 post n) post) post v1 v2 v3 v4 v7_12 v8_17 σ_16) ∧
          (¬ v7_12 ≤ 0 →
            ((0 < v8_17 →
              wbX12_shapes_130 (wbX12_shapes_32 K19 post n) post v1 v2 v3 v4 v7_12 v8_17 1 σ_16) ∧
            (¬ 0 < v8_17 →
              wbX12_shapes_115 (wbX12_shapes_130 (wbX12_shapes_32 K19 post n) post) post v1 v2 v3 v4 v7_12 v8_17 σ_16)))))))))))))))) := hw
    refine go_iload C 4 rfl dX12_shapes_32 ?_
    refine go_iload_n C 3 rfl rfl dX12_shapes_34 ?_
    refine go_icmp_ge C 195 rfl dX12_shapes_35 (fun hc => ?_) (fun hc => ?_)
    · replace hw := hw.1 hc
      obtain ⟨v3_1, ev3_1⟩ : ∃ z : Int32, z = v3 + 1 := ⟨_, rfl⟩
      replace hw := hw v3_1 ev3_1
      refine go_iinc (v := v3_1) (lv2 := [(3, .int v3_1), (0, .ref (G.2.2.1 75)), (1, .int v1), (2, .int v2), (4, .int v4)]) C 3 rfl (by rw [ev3_1]; rfl) (by rw [hnl]; decide) rfl dX12_shapes_195 ?_
      refine go_goto C 19 rfl dX12_shapes_198 ?_
      refine go_sub [1, 2, 3, 0] rfl ?_
      exact hK19 _ _ _ _ hw
    · replace hw := hw.2 hc
      refine go_aload_n C 0 rfl rfl dX12_shapes_38 ?_
      refine go_iload_n C 3 rfl rfl dX12_shapes_39 ?_
      refine go_callV (as := [.int v3]) C hR (shX12 G) (ltX12 hN) cwX12_482 (Nat.le_trans (by decide) hd) (by decide) rfl rfl (Nat.le_of_ble_eq_true rfl) dX12_shapes_40 (spX12_peak (Nat.le_refl _) hN hw) (fun v_ τ_ hw => ?_)
      obtain ⟨r_2, rfl, hw⟩ := hw
      obtain ⟨σ_3, rfl⟩ : ∃ z, z = τ_ := ⟨_, rfl⟩
      refine go_istore (lv2 := [(5, .int r_2), (0, .ref (G.2.2.1 75)), (1, .int v1), (2, .int v2), (3, .int v3), (4, .int v4)]) C (by rw [hnl]; decide) rfl dX12_shapes_43 ?_
      refine go_aload_n C 1 rfl rfl dX12_shapes_45 ?_
      refine go_iload C 5 rfl dX12_shapes_46 ?_
      refine go_callV (as := [.int v4]) C hR (shX12 G) (ltX12 hN) cwX12_482 (Nat.le_trans (by decide) hd) (by decide) rfl rfl (Nat.le_of_ble_eq_true rfl) dX12_shapes_48 (spX12_peak (Nat.le_refl _) hN hw) (fun v_ τ_ hw => ?_)
      obtain ⟨r_4, rfl, hw⟩ := hw
      obtain ⟨σ_5, rfl⟩ : ∃ z, z = τ_ := ⟨_, rfl⟩
      refine go_istore (lv2 := [(6, .int r_4), (5, .int r_2), (0, .ref (G.2.2.1 75)), (1, .int v1), (2, .int v2), (3, .int v3), (4, .int v4)]) C (by rw [hnl]; decide) rfl dX12_shapes_51 ?_
      refine go_iload C 1 rfl dX12_shapes_53 ?_
      refine go_iconst (v := (-1)) C rfl dX12_shapes_55 ?_
      refine go_icmp_eq C 189 rfl dX12_shapes_56 (fun hc => ?_) (fun hc => ?_)
      · replace hw := hw.1 hc
        obtain ⟨v4_6, ev4_6⟩ : ∃ z : Int32, z = v4 + 1 := ⟨_, rfl⟩
        replace hw := hw v4_6 ev4_6
        refine go_iinc (v := v4_6) (lv2 := [(4, .int v4_6), (6, .int r_4), (5, .int r_2), (0, .ref (G.2.2.1 75)), (1, .int v1), (2, .int v2), (3, .int v3)]) C 6 rfl (by rw [ev4_6]; rfl) (by rw [hnl]; decide) rfl dX12_shapes_189 ?_
        refine go_goto C 32 rfl dX12_shapes_192 ?_
        refine go_sub [3, 4, 5, 6, 0] rfl ?_
        exact ih _ _ _ _ _ hw
      · replace hw := hw.2 hc
        refine go_iload C 0 rfl dX12_shapes_59 ?_
        refine go_iconst (v := (-1)) C rfl dX12_shapes_61 ?_
        refine go_icmp_eq C 189 rfl dX12_shapes_62 (fun hc => ?_) (fun hc => ?_)
        · replace hw := hw.1 hc
          obtain ⟨v4_7, ev4_7⟩ : ∃ z : Int32, z = v4 + 1 := ⟨_, rfl⟩
          replace hw := hw v4_7 ev4_7
          refine go_iinc (v := v4_7) (lv2 := [(4, .int v4_7), (6, .int r_4), (5, .int r_2), (0, .ref (G.2.2.1 75)), (1, .int v1), (2, .int v2), (3, .int v3)]) C 6 rfl (by rw [ev4_7]; rfl) (by rw [hnl]; decide) rfl dX12_shapes_189 ?_
          refine go_goto C 32 rfl dX12_shapes_192 ?_
          refine go_sub [3, 4, 5, 6, 0] rfl ?_
          exact ih _ _ _ _ _ hw
        · replace hw := hw.2 hc
          refine go_aload_n C 2 rfl rfl dX12_shapes_65 ?_
          refine go_iload_n C 5 rfl rfl dX12_shapes_66 ?_
          refine go_iload C 1 rfl dX12_shapes_67 ?_
          refine go_iconst (v := (-1)) C rfl dX12_shapes_69 ?_
          refine go_callV (as := [.int v3, .int r_2, .int (-1)]) C hR (shX12 G) (ltX12 hN) cwX12_485 (Nat.le_trans (by decide) hd) (by decide) rfl rfl (Nat.le_of_ble_eq_true rfl) dX12_shapes_70 (spX12_slope (Nat.le_refl _) hN hw) (fun v_ τ_ hw => ?_)
          obtain ⟨r_8, rfl, hw⟩ := hw
          obtain ⟨σ_9, rfl⟩ : ∃ z, z = τ_ := ⟨_, rfl⟩
          refine go_aload_n C 2 rfl rfl dX12_shapes_73 ?_
          refine go_iload C 6 rfl dX12_shapes_74 ?_
          refine go_iload C 0 rfl dX12_shapes_76 ?_
          refine go_iconst (v := (-1)) C rfl dX12_shapes_78 ?_
          refine go_callV (as := [.int v4, .int r_4, .int (-1)]) C hR (shX12 G) (ltX12 hN) cwX12_485 (Nat.le_trans (by decide) hd) (by decide) rfl rfl (Nat.le_of_ble_eq_true rfl) dX12_shapes_79 (spX12_slope (Nat.le_refl _) hN hw) (fun v_ τ_ hw => ?_)
          obtain ⟨r_10, rfl, hw⟩ := hw
          obtain ⟨σ_11, rfl⟩ : ∃ z, z = τ_ := ⟨_, rfl⟩
          refine go_isub C dX12_shapes_82 ?_
          refine go_topi (fun v7_12 ev7_12 => ?_)
          replace hw := hw v7_12 ev7_12
          refine go_istore (lv2 := [(7, .int v7_12), (6, .int r_4), (5, .int r_2), (0, .ref (G.2.2.1 75)), (1, .int v1), (2, .int v2), (3, .int v3), (4, .int v4)]) C (by rw [hnl]; decide) rfl dX12_shapes_83 ?_
          refine go_aload_n C 3 rfl rfl dX12_shapes_85 ?_
          refine go_iload_n C 6 rfl rfl dX12_shapes_86 ?_
          refine go_iload C 2 rfl dX12_shapes_87 ?_
          refine go_iconst (v := 1) C rfl dX12_shapes_89 ?_
          refine go_callV (as := [.int v3, .int r_2, .int 1]) C hR (shX12 G) (ltX12 hN) cwX12_485 (Nat.le_trans (by decide) hd) (by decide) rfl rfl (Nat.le_of_ble_eq_true rfl) dX12_shapes_90 (spX12_slope (Nat.le_refl _) hN hw) (fun v_ τ_ hw => ?_)
          obtain ⟨r_13, rfl, hw⟩ := hw
          obtain ⟨σ_14, rfl⟩ : ∃ z, z = τ_ := ⟨_, rfl⟩
          refine go_aload_n C 3 rfl rfl dX12_shapes_93 ?_
          refine go_iload C 7 rfl dX12_shapes_94 ?_
          refine go_iload C 1 rfl dX12_shapes_96 ?_
          refine go_iconst (v := 1) C rfl dX12_shapes_98 ?_
          refine go_callV (as := [.int v4, .int r_4, .int 1]) C hR (shX12 G) (ltX12 hN) cwX12_485 (Nat.le_trans (by decide) hd) (by decide) rfl rfl (Nat.le_of_ble_eq_true rfl) dX12_shapes_99 (spX12_slope (Nat.le_refl _) hN hw) (fun v_ τ_ hw => ?_)
          obtain ⟨r_15, rfl, hw⟩ := hw
          obtain ⟨σ_16, rfl⟩ : ∃ z, z = τ_ := ⟨_, rfl⟩
          refine go_isub C dX12_shapes_102 ?_
          refine go_topi (fun v8_17 ev8_17 => ?_)
          replace hw := hw v8_17 ev8_17
          refine go_istore (lv2 := [(8, .int v8_17), (7, .int v7_12), (6, .int r_4), (5, .int r_2), (0, .ref (G.2.2.1 75)), (1, .int v1), (2, .int v2), (3, .int v3), (4, .int v4)]) C (by rw [hnl]; decide) rfl dX12_shapes_103 ?_
          refine go_iload C 1 rfl dX12_shapes_105 ?_
          refine go_if_le C 115 rfl dX12_shapes_107 (fun hc => ?_) (fun hc => ?_)
          · replace hw := hw.1 hc
            refine go_sub [4, 5, 6, 7, 8, 1, 0] rfl ?_
            exact (gbX12_shapes_115 C hr hR hnl hd hN (gbX12_shapes_130 C hr hR hnl hd hN ih)) _ _ _ _ _ _ _ hw
          · replace hw := hw.2 hc
            refine go_iload C 0 rfl dX12_shapes_110 ?_
            refine go_if_gt C 125 rfl dX12_shapes_112 (fun hc => ?_) (fun hc => ?_)
            · replace hw := hw.1 hc
              refine go_iconst (v := 1) C rfl dX12_shapes_125 ?_
              refine go_goto C 130 rfl dX12_shapes_126 ?_
              refine go_sub [4, 5, 6, 7, 8, 1, 0] rfl ?_
              exact (gbX12_shapes_130 C hr hR hnl hd hN ih) _ _ _ _ _ _ _ _ hw
            · replace hw := hw.2 hc
              refine go_sub [4, 5, 6, 7, 8, 1, 0] rfl ?_
              exact (gbX12_shapes_115 C hr hR hnl hd hN (gbX12_shapes_130 C hr hR hnl hd hN ih)) _ _ _ _ _ _ _ hw
set_option maxRecDepth 20000 in
set_option maxHeartbeats 4000000 in
theorem gbX12_shapes_19 {X : XT} {G : GT} {l : Launch} {d : Nat}  {post : Int32 → St → Prop} (C : Cx X G cX12_shapes RX12) (hr : Rt X G (some .int) (fun v τ => ∃ r : Int32, v = some (.int r) ∧ post r τ)) (hR : Rm X l d) (hnl : X.2.2.2.2.2.2.2.2.2.2.1 = 11)  (hd : 10 ≤ d) (hN : 119 ≤ G.2.2.2.2.2)   
    : ∀ (n : Nat) (v1 : Int32) (v2 : Int32) (v3 : Int32) (σ : St), wbX12_shapes_19   post n v1 v2 v3 σ → Go X G 19 [(0, .ref (G.2.2.1 75)), (1, .int v1), (2, .int v2), (3, .int v3)] [] σ := by
  intro n
  induction n with
  | zero => intro v1 v2 v3 σ hw; exact hw.elim
  | succ n ih =>
    intro v1 v2 v3 σ hw
    have hw : vp_in 1 9680 ∧ (
    (((gI σ 76 (1 : Int32).toNatClampNeg) ≤ v3 →
      post v2 σ) ∧
    (¬ (gI σ 76 (1 : Int32).toNatClampNeg) ≤ v3 →
      ∃ m_32, wbX12_shapes_32 (wbX12_shapes_19 post n) post m_32 v1 v2 v3 0 σ))) := hw
    refine go_iload_n C 3 rfl rfl dX12_shapes_19 ?_
    refine go_aload_n C 0 rfl rfl dX12_shapes_20 ?_
    refine go_get (v := .ref (G.2.2.1 76)) C (shX12 G) (ltX12 hN) lkX12_7 rfl dX12_shapes_21 ?_
    refine go_iconst (v := 1) C rfl dX12_shapes_24 ?_
    refine go_iald C (saX12_a G) (laX12_a hN) hw.1 dX12_shapes_25 ?_
    replace hw := hw.2
    refine go_icmp_ge C 201 rfl dX12_shapes_26 (fun hc => ?_) (fun hc => ?_)
    · replace hw := hw.1 hc
      refine go_iload_n C 2 rfl rfl dX12_shapes_201 ?_
      exact go_iret C hr ⟨_, rfl, hw⟩ dX12_shapes_202
    · replace hw := hw.2 hc
      refine go_iconst (v := 0) C rfl dX12_shapes_29 ?_
      refine go_istore (lv2 := [(4, .int 0), (0, .ref (G.2.2.1 75)), (1, .int v1), (2, .int v2), (3, .int v3)]) C (by rw [hnl]; decide) rfl dX12_shapes_30 ?_
      refine go_sub [1, 2, 3, 4, 0] rfl ?_
      obtain ⟨n_0, hw⟩ := hw
      exact (gbX12_shapes_32 C hr hR hnl hd hN ih) n_0 _ _ _ _ _ hw
set_option maxRecDepth 20000 in
set_option maxHeartbeats 4000000 in
theorem spX12_shapes {l : Launch} {G : GT} {d : Nat}  (hd : 10 ≤ d)  (hN : 119 ≤ G.2.2.2.2.2)  {a1 : Int32} {σ : St} {post : Int32 → St → Prop} (hw : wpX12_shapes  a1 σ post) : Sp l G d yX12_shapes cX12_shapes 11 (some .int) [.ref (G.2.2.1 75), .int a1] σ (fun v τ => ∃ r : Int32, v = some (.int r) ∧ post r τ) := by
  refine Sp.of (by decide) (Nat.le_of_ble_eq_true rfl) fun X C hr hR hnl => ?_
  show Go X G 0 [(0, .ref (G.2.2.1 75)), (1, .int a1)] [] σ
  have hw : wpX12_in a1 0 1 σ (fun r_1 σ_2 =>
  ((¬ r_1 = 0 →
    wpX12_runsAll  σ_2 (fun σ_4 =>
    ∃ m_19, wbX12_shapes_19 post m_19 a1 0 0 σ_4)) ∧
  (r_1 = 0 →
    post (-1) σ_2))) := hw
  refine go_iload_n C 1 rfl rfl dX12_shapes_0 ?_
  refine go_iconst (v := 0) C rfl dX12_shapes_1 ?_
  refine go_iconst (v := 1) C rfl dX12_shapes_2 ?_
  refine go_callS (as := [.int a1, .int 0, .int 1]) C hR cwX12_152 (Nat.le_trans (by decide) hd) (by decide) rfl rfl (Nat.le_of_ble_eq_true rfl) dX12_shapes_3 (spX12_in (Nat.le_refl _) hN hw) (fun v_ τ_ hw => ?_)
  obtain ⟨r_1, rfl, hw⟩ := hw
  obtain ⟨σ_2, rfl⟩ : ∃ z, z = τ_ := ⟨_, rfl⟩
  refine go_if_ne C 11 rfl dX12_shapes_6 (fun hc => ?_) (fun hc => ?_)
  · replace hw := hw.1 hc
    refine go_aload_n C 0 rfl rfl dX12_shapes_11 ?_
    refine go_callV (as := []) C hR (shX12 G) (ltX12 hN) cwX12_464 (Nat.le_trans (by decide) hd) (by decide) rfl rfl (Nat.le_of_ble_eq_true rfl) dX12_shapes_12 (spX12_runsAll (Nat.le_refl _) hN hw) (fun v_ τ_ hw => ?_)
    obtain ⟨rfl, hw⟩ := hw
    obtain ⟨σ_4, rfl⟩ : ∃ z, z = τ_ := ⟨_, rfl⟩
    refine go_iconst (v := 0) C rfl dX12_shapes_15 ?_
    refine go_istore_n (lv2 := [(2, .int 0), (0, .ref (G.2.2.1 75)), (1, .int a1)]) C rfl (by rw [hnl]; decide) rfl dX12_shapes_16 ?_
    refine go_iconst (v := 0) C rfl dX12_shapes_17 ?_
    refine go_istore_n (lv2 := [(3, .int 0), (2, .int 0), (0, .ref (G.2.2.1 75)), (1, .int a1)]) C rfl (by rw [hnl]; decide) rfl dX12_shapes_18 ?_
    refine go_sub [2, 3, 1, 0] rfl ?_
    obtain ⟨n_0, hw⟩ := hw
    exact (gbX12_shapes_19 C hr hR hnl hd hN) n_0 _ _ _ _ hw
  · replace hw := hw.2 hc
    refine go_iconst (v := (-1)) C rfl dX12_shapes_9 ?_
    exact go_iret C hr ⟨_, rfl, hw⟩ dX12_shapes_10
-- CradleNamesModel.thousandths(III)I
set_option maxRecDepth 20000 in
set_option maxHeartbeats 4000000 in
theorem gbX12_thousandths_6 {X : XT} {G : GT} {l : Launch} {d : Nat}  {post : Int32 → St → Prop} (C : Cx X G cX12_thousandths RX12) (hr : Rt X G (some .int) (fun v τ => ∃ r : Int32, v = some (.int r) ∧ post r τ)) (hR : Rm X l d) (hnl : X.2.2.2.2.2.2.2.2.2.2.1 = 6)  (hd : 1 ≤ d) (hN : 119 ≤ G.2.2.2.2.2)   
    : ∀ (n : Nat) (v1 : Int32) (v2 : Int32) (v3 : Int32) (v4 : Int32) (v5 : Int32) (σ : St), wbX12_thousandths_6   post n v1 v2 v3 v4 v5 σ → Go X G 6 [(0, .ref (G.2.2.1 75)), (1, .int v1), (2, .int v2), (3, .int v3), (4, .int v4), (5, .int v5)] [] σ := by
  intro n
  induction n with
  | zero => intro v1 v2 v3 v4 v5 σ hw; exact hw.elim
  | succ n ih =>
    intro v1 v2 v3 v4 v5 σ hw
    have hw : vp_in 1 9680 ∧ (
    (((gI σ 76 (1 : Int32).toNatClampNeg) ≤ v5 →
      ((¬ v4 = 0 →
        vp_in (((32 * (v1 + 40)) + (16 * v2)) + v3) 3232 ∧ (
        ¬ v4 = 0 ∧ (
        post ((1000 * (gI σ 101 (((32 * (v1 + 40)) + (16 * v2)) + v3).toNatClampNeg)) / v4) σ))) ∧
      (v4 = 0 →
        post 0 σ))) ∧
    (¬ (gI σ 76 (1 : Int32).toNatClampNeg) ≤ v5 →
      vp_in (((32 * (v1 + 40)) + (16 * v2)) + v5) 3232 ∧ (
      ∀ v4_1 : Int32, v4_1 = (v4 + (gI σ 101 (((32 * (v1 + 40)) + (16 * v2)) + v5).toNatClampNeg)) →
      ∀ v5_2 : Int32, v5_2 = v5 + 1 →
      wbX12_thousandths_6 post n v1 v2 v3 v4_1 v5_2 σ)))) := hw
    refine go_iload C 5 rfl dX12_thousandths_6 ?_
    refine go_aload_n C 0 rfl rfl dX12_thousandths_8 ?_
    refine go_get (v := .ref (G.2.2.1 76)) C (shX12 G) (ltX12 hN) lkX12_7 rfl dX12_thousandths_9 ?_
    refine go_iconst (v := 1) C rfl dX12_thousandths_12 ?_
    refine go_iald C (saX12_a G) (laX12_a hN) hw.1 dX12_thousandths_13 ?_
    replace hw := hw.2
    refine go_icmp_ge C 48 rfl dX12_thousandths_14 (fun hc => ?_) (fun hc => ?_)
    · replace hw := hw.1 hc
      refine go_iload C 4 rfl dX12_thousandths_48 ?_
      refine go_if_ne C 57 rfl dX12_thousandths_50 (fun hc => ?_) (fun hc => ?_)
      · replace hw := hw.1 hc
        refine go_sipush (v := 1000) C rfl dX12_thousandths_57 ?_
        refine go_aload_n C 0 rfl rfl dX12_thousandths_60 ?_
        refine go_get (v := .ref (G.2.2.1 101)) C (shX12 G) (ltX12 hN) lkX12_94 rfl dX12_thousandths_61 ?_
        refine go_bipush (v := 32) C rfl dX12_thousandths_64 ?_
        refine go_iload_n C 1 rfl rfl dX12_thousandths_66 ?_
        refine go_bipush (v := 40) C rfl dX12_thousandths_67 ?_
        refine go_iadd C dX12_thousandths_69 ?_
        refine go_imul C dX12_thousandths_70 ?_
        refine go_bipush (v := 16) C rfl dX12_thousandths_71 ?_
        refine go_iload_n C 2 rfl rfl dX12_thousandths_73 ?_
        refine go_imul C dX12_thousandths_74 ?_
        refine go_iadd C dX12_thousandths_75 ?_
        refine go_iload_n C 3 rfl rfl dX12_thousandths_76 ?_
        refine go_iadd C dX12_thousandths_77 ?_
        refine go_iald C (saX12_inStanding G) (laX12_inStanding hN) hw.1 dX12_thousandths_78 ?_
        replace hw := hw.2
        refine go_imul C dX12_thousandths_79 ?_
        refine go_iload C 4 rfl dX12_thousandths_80 ?_
        refine go_idiv C hw.1 dX12_thousandths_82 ?_
        replace hw := hw.2
        exact go_iret C hr ⟨_, rfl, hw⟩ dX12_thousandths_83
      · replace hw := hw.2 hc
        refine go_iconst (v := 0) C rfl dX12_thousandths_53 ?_
        refine go_goto C 83 rfl dX12_thousandths_54 ?_
        exact go_iret C hr ⟨_, rfl, hw⟩ dX12_thousandths_83
    · replace hw := hw.2 hc
      refine go_iload C 4 rfl dX12_thousandths_17 ?_
      refine go_aload_n C 0 rfl rfl dX12_thousandths_19 ?_
      refine go_get (v := .ref (G.2.2.1 101)) C (shX12 G) (ltX12 hN) lkX12_94 rfl dX12_thousandths_20 ?_
      refine go_bipush (v := 32) C rfl dX12_thousandths_23 ?_
      refine go_iload_n C 1 rfl rfl dX12_thousandths_25 ?_
      refine go_bipush (v := 40) C rfl dX12_thousandths_26 ?_
      refine go_iadd C dX12_thousandths_28 ?_
      refine go_imul C dX12_thousandths_29 ?_
      refine go_bipush (v := 16) C rfl dX12_thousandths_30 ?_
      refine go_iload_n C 2 rfl rfl dX12_thousandths_32 ?_
      refine go_imul C dX12_thousandths_33 ?_
      refine go_iadd C dX12_thousandths_34 ?_
      refine go_iload C 5 rfl dX12_thousandths_35 ?_
      refine go_iadd C dX12_thousandths_37 ?_
      refine go_iald C (saX12_inStanding G) (laX12_inStanding hN) hw.1 dX12_thousandths_38 ?_
      replace hw := hw.2
      refine go_iadd C dX12_thousandths_39 ?_
      refine go_topi (fun v4_1 ev4_1 => ?_)
      replace hw := hw v4_1 ev4_1
      refine go_istore (lv2 := [(4, .int v4_1), (0, .ref (G.2.2.1 75)), (1, .int v1), (2, .int v2), (3, .int v3), (5, .int v5)]) C (by rw [hnl]; decide) rfl dX12_thousandths_40 ?_
      obtain ⟨v5_2, ev5_2⟩ : ∃ z : Int32, z = v5 + 1 := ⟨_, rfl⟩
      replace hw := hw v5_2 ev5_2
      refine go_iinc (v := v5_2) (lv2 := [(5, .int v5_2), (4, .int v4_1), (0, .ref (G.2.2.1 75)), (1, .int v1), (2, .int v2), (3, .int v3)]) C 5 rfl (by rw [ev5_2]; rfl) (by rw [hnl]; decide) rfl dX12_thousandths_42 ?_
      refine go_goto C 6 rfl dX12_thousandths_45 ?_
      refine go_sub [2, 3, 4, 5, 1, 0] rfl ?_
      exact ih _ _ _ _ _ _ hw
set_option maxRecDepth 20000 in
set_option maxHeartbeats 4000000 in
theorem spX12_thousandths {l : Launch} {G : GT} {d : Nat}  (hd : 1 ≤ d)  (hN : 119 ≤ G.2.2.2.2.2)  {a1 : Int32} {a2 : Int32} {a3 : Int32} {σ : St} {post : Int32 → St → Prop} (hw : wpX12_thousandths  a1 a2 a3 σ post) : Sp l G d yX12_thousandths cX12_thousandths 6 (some .int) [.ref (G.2.2.1 75), .int a1, .int a2, .int a3] σ (fun v τ => ∃ r : Int32, v = some (.int r) ∧ post r τ) := by
  refine Sp.of (by decide) (Nat.le_of_ble_eq_true rfl) fun X C hr hR hnl => ?_
  show Go X G 0 [(0, .ref (G.2.2.1 75)), (1, .int a1), (2, .int a2), (3, .int a3)] [] σ
  have hw : ∃ m_6, wbX12_thousandths_6 post m_6 a1 a2 a3 0 0 σ := hw
  refine go_iconst (v := 0) C rfl dX12_thousandths_0 ?_
  refine go_istore (lv2 := [(4, .int 0), (0, .ref (G.2.2.1 75)), (1, .int a1), (2, .int a2), (3, .int a3)]) C (by rw [hnl]; decide) rfl dX12_thousandths_1 ?_
  refine go_iconst (v := 0) C rfl dX12_thousandths_3 ?_
  refine go_istore (lv2 := [(5, .int 0), (4, .int 0), (0, .ref (G.2.2.1 75)), (1, .int a1), (2, .int a2), (3, .int a3)]) C (by rw [hnl]; decide) rfl dX12_thousandths_4 ?_
  refine go_sub [2, 3, 4, 5, 1, 0] rfl ?_
  obtain ⟨n_0, hw⟩ := hw
  exact (gbX12_thousandths_6 C hr hR hnl hd hN) n_0 _ _ _ _ _ _ hw
-- CradleNamesModel.lagOf(I)I
set_option maxRecDepth 20000 in
set_option maxHeartbeats 4000000 in
theorem gbX12_lagOf_29 {X : XT} {G : GT} {l : Launch} {d : Nat}  {post : Int32 → St → Prop} (C : Cx X G cX12_lagOf RX12) (hr : Rt X G (some .int) (fun v τ => ∃ r : Int32, v = some (.int r) ∧ post r τ)) (hR : Rm X l d) (hnl : X.2.2.2.2.2.2.2.2.2.2.1 = 6)  (hd : 2 ≤ d) (hN : 119 ≤ G.2.2.2.2.2)  {K20 : Int32 → Int32 → Int32 → Int32 → St → Prop} (hK20 : ∀ (v1 : Int32) (v2 : Int32) (v3 : Int32) (v4 : Int32) (σ : St), K20 v1 v2 v3 v4 σ → Go X G 20 [(0, .ref (G.2.2.1 75)), (1, .int v1), (2, .int v2), (3, .int v3), (4, .int v4)] [] σ)
    : ∀ (n : Nat) (v1 : Int32) (v2 : Int32) (v3 : Int32) (v4 : Int32) (v5 : Int32) (σ : St), wbX12_lagOf_29  K20 post n v1 v2 v3 v4 v5 σ → Go X G 29 [(0, .ref (G.2.2.1 75)), (1, .int v1), (2, .int v2), (3, .int v3), (4, .int v4), (5, .int v5)] [] σ := by
  intro n
  induction n with
  | zero => intro v1 v2 v3 v4 v5 σ hw; exact hw.elim
  | succ n ih =>
    intro v1 v2 v3 v4 v5 σ hw
    have hw : vp_in 1 9680 ∧ (
    (((gI σ 76 (1 : Int32).toNatClampNeg) ≤ v5 →
      ∀ v4_1 : Int32, v4_1 = v4 + 1 →
      K20 v1 v2 v3 v4_1 σ) ∧
    (¬ (gI σ 76 (1 : Int32).toNatClampNeg) ≤ v5 →
      wpX12_thousandths v4 0 v5 σ (fun r_2 σ_3 =>
      wpX12_thousandths (v4 + v1) 1 v5 σ_3 (fun r_4 σ_5 =>
      wpX12_away (r_2 - r_4) σ_5 (fun r_6 σ_7 =>
      ∀ v3_8 : Int32, v3_8 = (v3 + r_6) →
      ∀ v5_9 : Int32, v5_9 = v5 + 1 →
      wbX12_lagOf_29 K20 post n v1 v2 v3_8 v4 v5_9 σ_7)))))) := hw
    refine go_iload C 5 rfl dX12_lagOf_29 ?_
    refine go_aload_n C 0 rfl rfl dX12_lagOf_31 ?_
    refine go_get (v := .ref (G.2.2.1 76)) C (shX12 G) (ltX12 hN) lkX12_7 rfl dX12_lagOf_32 ?_
    refine go_iconst (v := 1) C rfl dX12_lagOf_35 ?_
    refine go_iald C (saX12_a G) (laX12_a hN) hw.1 dX12_lagOf_36 ?_
    replace hw := hw.2
    refine go_icmp_ge C 73 rfl dX12_lagOf_37 (fun hc => ?_) (fun hc => ?_)
    · replace hw := hw.1 hc
      obtain ⟨v4_1, ev4_1⟩ : ∃ z : Int32, z = v4 + 1 := ⟨_, rfl⟩
      replace hw := hw v4_1 ev4_1
      refine go_iinc (v := v4_1) (lv2 := [(4, .int v4_1), (0, .ref (G.2.2.1 75)), (1, .int v1), (2, .int v2), (3, .int v3), (5, .int v5)]) C 4 rfl (by rw [ev4_1]; rfl) (by rw [hnl]; decide) rfl dX12_lagOf_73 ?_
      refine go_goto C 20 rfl dX12_lagOf_76 ?_
      refine go_sub [1, 2, 3, 4, 0] rfl ?_
      exact hK20 _ _ _ _ _ hw
    · replace hw := hw.2 hc
      refine go_iload_n C 3 rfl rfl dX12_lagOf_40 ?_
      refine go_aload_n C 0 rfl rfl dX12_lagOf_41 ?_
      refine go_iload C 4 rfl dX12_lagOf_42 ?_
      refine go_iconst (v := 0) C rfl dX12_lagOf_44 ?_
      refine go_iload C 5 rfl dX12_lagOf_45 ?_
      refine go_callV (as := [.int v4, .int 0, .int v5]) C hR (shX12 G) (ltX12 hN) cwX12_488 (Nat.le_trans (by decide) hd) (by decide) rfl rfl (Nat.le_of_ble_eq_true rfl) dX12_lagOf_47 (spX12_thousandths (Nat.le_refl _) hN hw) (fun v_ τ_ hw => ?_)
      obtain ⟨r_2, rfl, hw⟩ := hw
      obtain ⟨σ_3, rfl⟩ : ∃ z, z = τ_ := ⟨_, rfl⟩
      refine go_aload_n C 0 rfl rfl dX12_lagOf_50 ?_
      refine go_iload C 4 rfl dX12_lagOf_51 ?_
      refine go_iload_n C 1 rfl rfl dX12_lagOf_53 ?_
      refine go_iadd C dX12_lagOf_54 ?_
      refine go_iconst (v := 1) C rfl dX12_lagOf_55 ?_
      refine go_iload C 5 rfl dX12_lagOf_56 ?_
      refine go_callV (as := [.int (v4 + v1), .int 1, .int v5]) C hR (shX12 G) (ltX12 hN) cwX12_488 (Nat.le_trans (by decide) hd) (by decide) rfl rfl (Nat.le_of_ble_eq_true rfl) dX12_lagOf_58 (spX12_thousandths (Nat.le_refl _) hN hw) (fun v_ τ_ hw => ?_)
      obtain ⟨r_4, rfl, hw⟩ := hw
      obtain ⟨σ_5, rfl⟩ : ∃ z, z = τ_ := ⟨_, rfl⟩
      refine go_isub C dX12_lagOf_61 ?_
      refine go_callS (as := [.int (r_2 - r_4)]) C hR cwX12_491 (Nat.le_trans (by decide) hd) (by decide) rfl rfl (Nat.le_of_ble_eq_true rfl) dX12_lagOf_62 (spX12_away (Nat.le_refl _) hN hw) (fun v_ τ_ hw => ?_)
      obtain ⟨r_6, rfl, hw⟩ := hw
      obtain ⟨σ_7, rfl⟩ : ∃ z, z = τ_ := ⟨_, rfl⟩
      refine go_iadd C dX12_lagOf_65 ?_
      refine go_topi (fun v3_8 ev3_8 => ?_)
      replace hw := hw v3_8 ev3_8
      refine go_istore_n (lv2 := [(3, .int v3_8), (0, .ref (G.2.2.1 75)), (1, .int v1), (2, .int v2), (4, .int v4), (5, .int v5)]) C rfl (by rw [hnl]; decide) rfl dX12_lagOf_66 ?_
      obtain ⟨v5_9, ev5_9⟩ : ∃ z : Int32, z = v5 + 1 := ⟨_, rfl⟩
      replace hw := hw v5_9 ev5_9
      refine go_iinc (v := v5_9) (lv2 := [(5, .int v5_9), (3, .int v3_8), (0, .ref (G.2.2.1 75)), (1, .int v1), (2, .int v2), (4, .int v4)]) C 5 rfl (by rw [ev5_9]; rfl) (by rw [hnl]; decide) rfl dX12_lagOf_67 ?_
      refine go_goto C 29 rfl dX12_lagOf_70 ?_
      refine go_sub [2, 3, 4, 1, 5, 0] rfl ?_
      exact ih _ _ _ _ _ _ hw
set_option maxRecDepth 20000 in
set_option maxHeartbeats 4000000 in
theorem gbX12_lagOf_20 {X : XT} {G : GT} {l : Launch} {d : Nat}  {post : Int32 → St → Prop} (C : Cx X G cX12_lagOf RX12) (hr : Rt X G (some .int) (fun v τ => ∃ r : Int32, v = some (.int r) ∧ post r τ)) (hR : Rm X l d) (hnl : X.2.2.2.2.2.2.2.2.2.2.1 = 6)  (hd : 2 ≤ d) (hN : 119 ≤ G.2.2.2.2.2)   
    : ∀ (n : Nat) (v1 : Int32) (v2 : Int32) (v3 : Int32) (v4 : Int32) (σ : St), wbX12_lagOf_20   post n v1 v2 v3 v4 σ → Go X G 20 [(0, .ref (G.2.2.1 75)), (1, .int v1), (2, .int v2), (3, .int v3), (4, .int v4)] [] σ := by
  intro n
  induction n with
  | zero => intro v1 v2 v3 v4 σ hw; exact hw.elim
  | succ n ih =>
    intro v1 v2 v3 v4 σ hw
    have hw : ((v2 ≤ v4 →
      ¬ v2 = 0 ∧ (
      post (v3 / v2) σ)) ∧
    (¬ v2 ≤ v4 →
      ∃ m_29, wbX12_lagOf_29 (wbX12_lagOf_20 post n) post m_29 v1 v2 v3 v4 0 σ)) := hw
    refine go_iload C 4 rfl dX12_lagOf_20 ?_
    refine go_iload_n C 2 rfl rfl dX12_lagOf_22 ?_
    refine go_icmp_ge C 79 rfl dX12_lagOf_23 (fun hc => ?_) (fun hc => ?_)
    · replace hw := hw.1 hc
      refine go_iload_n C 3 rfl rfl dX12_lagOf_79 ?_
      refine go_iload_n C 2 rfl rfl dX12_lagOf_80 ?_
      refine go_idiv C hw.1 dX12_lagOf_81 ?_
      replace hw := hw.2
      exact go_iret C hr ⟨_, rfl, hw⟩ dX12_lagOf_82
    · replace hw := hw.2 hc
      refine go_iconst (v := 0) C rfl dX12_lagOf_26 ?_
      refine go_istore (lv2 := [(5, .int 0), (0, .ref (G.2.2.1 75)), (1, .int v1), (2, .int v2), (3, .int v3), (4, .int v4)]) C (by rw [hnl]; decide) rfl dX12_lagOf_27 ?_
      refine go_sub [1, 2, 3, 4, 5, 0] rfl ?_
      obtain ⟨n_0, hw⟩ := hw
      exact (gbX12_lagOf_29 C hr hR hnl hd hN ih) n_0 _ _ _ _ _ _ hw
set_option maxRecDepth 20000 in
set_option maxHeartbeats 4000000 in
theorem spX12_lagOf {l : Launch} {G : GT} {d : Nat}  (hd : 2 ≤ d)  (hN : 119 ≤ G.2.2.2.2.2)  {a1 : Int32} {σ : St} {post : Int32 → St → Prop} (hw : wpX12_lagOf  a1 σ post) : Sp l G d yX12_lagOf cX12_lagOf 6 (some .int) [.ref (G.2.2.1 75), .int a1] σ (fun v τ => ∃ r : Int32, v = some (.int r) ∧ post r τ) := by
  refine Sp.of (by decide) (Nat.le_of_ble_eq_true rfl) fun X C hr hR hnl => ?_
  show Go X G 0 [(0, .ref (G.2.2.1 75)), (1, .int a1)] [] σ
  have hw : vp_in 0 9680 ∧ (
  ∀ v2_1 : Int32, v2_1 = ((gI σ 76 (0 : Int32).toNatClampNeg) - a1) →
  ((0 < v2_1 →
    ∃ m_20, wbX12_lagOf_20 post m_20 a1 v2_1 0 0 σ) ∧
  (¬ 0 < v2_1 →
    post (-1) σ))) := hw
  refine go_aload_n C 0 rfl rfl dX12_lagOf_0 ?_
  refine go_get (v := .ref (G.2.2.1 76)) C (shX12 G) (ltX12 hN) lkX12_7 rfl dX12_lagOf_1 ?_
  refine go_iconst (v := 0) C rfl dX12_lagOf_4 ?_
  refine go_iald C (saX12_a G) (laX12_a hN) hw.1 dX12_lagOf_5 ?_
  replace hw := hw.2
  refine go_iload_n C 1 rfl rfl dX12_lagOf_6 ?_
  refine go_isub C dX12_lagOf_7 ?_
  refine go_topi (fun v2_1 ev2_1 => ?_)
  replace hw := hw v2_1 ev2_1
  refine go_istore_n (lv2 := [(2, .int v2_1), (0, .ref (G.2.2.1 75)), (1, .int a1)]) C rfl (by rw [hnl]; decide) rfl dX12_lagOf_8 ?_
  refine go_iload_n C 0 rfl rfl dX12_lagOf_9 ?_
  refine go_if_gt C 15 rfl dX12_lagOf_10 (fun hc => ?_) (fun hc => ?_)
  · replace hw := hw.1 hc
    refine go_iconst (v := 0) C rfl dX12_lagOf_15 ?_
    refine go_istore_n (lv2 := [(3, .int 0), (2, .int v2_1), (0, .ref (G.2.2.1 75)), (1, .int a1)]) C rfl (by rw [hnl]; decide) rfl dX12_lagOf_16 ?_
    refine go_iconst (v := 0) C rfl dX12_lagOf_17 ?_
    refine go_istore (lv2 := [(4, .int 0), (3, .int 0), (2, .int v2_1), (0, .ref (G.2.2.1 75)), (1, .int a1)]) C (by rw [hnl]; decide) rfl dX12_lagOf_18 ?_
    refine go_sub [3, 4, 2, 1, 0] rfl ?_
    obtain ⟨n_0, hw⟩ := hw
    exact (gbX12_lagOf_20 C hr hR hnl hd hN) n_0 _ _ _ _ _ hw
  · replace hw := hw.2 hc
    refine go_iconst (v := (-1)) C rfl dX12_lagOf_13 ?_
    exact go_iret C hr ⟨_, rfl, hw⟩ dX12_lagOf_14
-- CradleNamesModel.lag(I)I
set_option maxRecDepth 20000 in
set_option maxHeartbeats 4000000 in
theorem gbX12_lag_54 {X : XT} {G : GT} {l : Launch} {d : Nat}  {post : Int32 → St → Prop} (C : Cx X G cX12_lag RX12) (hr : Rt X G (some .int) (fun v τ => ∃ r : Int32, v = some (.int r) ∧ post r τ)) (hR : Rm X l d) (hnl : X.2.2.2.2.2.2.2.2.2.2.1 = 5)  (hd : 10 ≤ d) (hN : 119 ≤ G.2.2.2.2.2)   
    : ∀ (n : Nat) (v1 : Int32) (v2 : Int32) (v3 : Int32) (σ : St), wbX12_lag_54   post n v1 v2 v3 σ → Go X G 54 [(0, .ref (G.2.2.1 75)), (1, .int v1), (2, .int v2), (3, .int v3)] [] σ := by
  intro n
  induction n with
  | zero => intro v1 v2 v3 σ hw; exact hw.elim
  | succ n ih =>
    intro v1 v2 v3 σ hw
    have hw : ((20 < v3 →
      ((¬ v1 = 0 →
        wpX12_lagOf v2 σ (fun r_1 σ_2 =>
        post r_1 σ_2)) ∧
      (v1 = 0 →
        post v2 σ))) ∧
    (¬ 20 < v3 →
      wpX12_lagOf v3 σ (fun r_3 σ_4 =>
      ((r_3 = (-1) →
        ∀ v3_5 : Int32, v3_5 = v3 + 1 →
        wbX12_lag_54 post n v1 v2 v3_5 σ_4) ∧
      (¬ r_3 = (-1) →
        wpX12_lagOf v2 σ_4 (fun r_6 σ_7 =>
        ((r_6 ≤ r_3 →
          ∀ v3_8 : Int32, v3_8 = v3 + 1 →
          wbX12_lag_54 post n v1 v2 v3_8 σ_7) ∧
        (¬ r_6 ≤ r_3 →
          ∀ v3_9 : Int32, v3_9 = v3 + 1 →
          wbX12_lag_54 post n v1 v3 v3_9 σ_7)))))))) := hw
    refine go_iload_n C 3 rfl rfl dX12_lag_54 ?_
    refine go_bipush (v := 20) C rfl dX12_lag_55 ?_
    refine go_icmp_gt C 95 rfl dX12_lag_57 (fun hc => ?_) (fun hc => ?_)
    · replace hw := hw.1 hc
      refine go_iload_n C 1 rfl rfl dX12_lag_95 ?_
      refine go_if_ne C 103 rfl dX12_lag_96 (fun hc => ?_) (fun hc => ?_)
      · replace hw := hw.1 hc
        refine go_aload_n C 0 rfl rfl dX12_lag_103 ?_
        refine go_iload_n C 2 rfl rfl dX12_lag_104 ?_
        refine go_callV (as := [.int v2]) C hR (shX12 G) (ltX12 hN) cwX12_494 (Nat.le_trans (by decide) hd) (by decide) rfl rfl (Nat.le_of_ble_eq_true rfl) dX12_lag_105 (spX12_lagOf (Nat.le_refl _) hN hw) (fun v_ τ_ hw => ?_)
        obtain ⟨r_1, rfl, hw⟩ := hw
        obtain ⟨σ_2, rfl⟩ : ∃ z, z = τ_ := ⟨_, rfl⟩
        exact go_iret C hr ⟨_, rfl, hw⟩ dX12_lag_108
      · replace hw := hw.2 hc
        refine go_iload_n C 2 rfl rfl dX12_lag_99 ?_
        refine go_goto C 108 rfl dX12_lag_100 ?_
        exact go_iret C hr ⟨_, rfl, hw⟩ dX12_lag_108
    · replace hw := hw.2 hc
      refine go_aload_n C 0 rfl rfl dX12_lag_60 ?_
      refine go_iload_n C 3 rfl rfl dX12_lag_61 ?_
      refine go_callV (as := [.int v3]) C hR (shX12 G) (ltX12 hN) cwX12_494 (Nat.le_trans (by decide) hd) (by decide) rfl rfl (Nat.le_of_ble_eq_true rfl) dX12_lag_62 (spX12_lagOf (Nat.le_refl _) hN hw) (fun v_ τ_ hw => ?_)
      obtain ⟨r_3, rfl, hw⟩ := hw
      obtain ⟨σ_4, rfl⟩ : ∃ z, z = τ_ := ⟨_, rfl⟩
      refine go_istore (lv2 := [(4, .int r_3), (0, .ref (G.2.2.1 75)), (1, .int v1), (2, .int v2), (3, .int v3)]) C (by rw [hnl]; decide) rfl dX12_lag_65 ?_
      refine go_iload C 0 rfl dX12_lag_67 ?_
      refine go_iconst (v := (-1)) C rfl dX12_lag_69 ?_
      refine go_icmp_eq C 87 rfl dX12_lag_70 (fun hc => ?_) (fun hc => ?_)
      · replace hw := hw.1 hc
        refine go_iload_n C 3 rfl rfl dX12_lag_87 ?_
        refine go_istore_n (lv2 := [(2, .int v2), (4, .int r_3), (0, .ref (G.2.2.1 75)), (1, .int v1), (3, .int v3)]) C rfl (by rw [hnl]; decide) rfl dX12_lag_88 ?_
        obtain ⟨v3_5, ev3_5⟩ : ∃ z : Int32, z = v3 + 1 := ⟨_, rfl⟩
        replace hw := hw v3_5 ev3_5
        refine go_iinc (v := v3_5) (lv2 := [(3, .int v3_5), (2, .int v2), (4, .int r_3), (0, .ref (G.2.2.1 75)), (1, .int v1)]) C 4 rfl (by rw [ev3_5]; rfl) (by rw [hnl]; decide) rfl dX12_lag_89 ?_
        refine go_goto C 54 rfl dX12_lag_92 ?_
        refine go_sub [3, 4, 1, 0] rfl ?_
        exact ih _ _ _ _ hw
      · replace hw := hw.2 hc
        refine go_iload C 0 rfl dX12_lag_73 ?_
        refine go_aload_n C 1 rfl rfl dX12_lag_75 ?_
        refine go_iload_n C 3 rfl rfl dX12_lag_76 ?_
        refine go_callV (as := [.int v2]) C hR (shX12 G) (ltX12 hN) cwX12_494 (Nat.le_trans (by decide) hd) (by decide) rfl rfl (Nat.le_of_ble_eq_true rfl) dX12_lag_77 (spX12_lagOf (Nat.le_refl _) hN hw) (fun v_ τ_ hw => ?_)
        obtain ⟨r_6, rfl, hw⟩ := hw
        obtain ⟨σ_7, rfl⟩ : ∃ z, z = τ_ := ⟨_, rfl⟩
        refine go_icmp_ge C 87 rfl dX12_lag_80 (fun hc => ?_) (fun hc => ?_)
        · replace hw := hw.1 hc
          refine go_iload_n C 3 rfl rfl dX12_lag_87 ?_
          refine go_istore_n (lv2 := [(2, .int v2), (4, .int r_3), (0, .ref (G.2.2.1 75)), (1, .int v1), (3, .int v3)]) C rfl (by rw [hnl]; decide) rfl dX12_lag_88 ?_
          obtain ⟨v3_8, ev3_8⟩ : ∃ z : Int32, z = v3 + 1 := ⟨_, rfl⟩
          replace hw := hw v3_8 ev3_8
          refine go_iinc (v := v3_8) (lv2 := [(3, .int v3_8), (2, .int v2), (4, .int r_3), (0, .ref (G.2.2.1 75)), (1, .int v1)]) C 4 rfl (by rw [ev3_8]; rfl) (by rw [hnl]; decide) rfl dX12_lag_89 ?_
          refine go_goto C 54 rfl dX12_lag_92 ?_
          refine go_sub [3, 4, 1, 0] rfl ?_
          exact ih _ _ _ _ hw
        · replace hw := hw.2 hc
          refine go_iload_n C 4 rfl rfl dX12_lag_83 ?_
          refine go_goto C 88 rfl dX12_lag_84 ?_
          refine go_istore_n (lv2 := [(2, .int v3), (4, .int r_3), (0, .ref (G.2.2.1 75)), (1, .int v1), (3, .int v3)]) C rfl (by rw [hnl]; decide) rfl dX12_lag_88 ?_
          obtain ⟨v3_9, ev3_9⟩ : ∃ z : Int32, z = v3 + 1 := ⟨_, rfl⟩
          replace hw := hw v3_9 ev3_9
          refine go_iinc (v := v3_9) (lv2 := [(3, .int v3_9), (2, .int v3), (4, .int r_3), (0, .ref (G.2.2.1 75)), (1, .int v1)]) C 4 rfl (by rw [ev3_9]; rfl) (by rw [hnl]; decide) rfl dX12_lag_89 ?_
          refine go_goto C 54 rfl dX12_lag_92 ?_
          refine go_sub [3, 4, 1, 0] rfl ?_
          exact ih _ _ _ _ hw
set_option maxRecDepth 20000 in
set_option maxHeartbeats 4000000 in
theorem gbX12_lag_31 {X : XT} {G : GT} {l : Launch} {d : Nat}  {post : Int32 → St → Prop} (C : Cx X G cX12_lag RX12) (hr : Rt X G (some .int) (fun v τ => ∃ r : Int32, v = some (.int r) ∧ post r τ)) (hR : Rm X l d) (hnl : X.2.2.2.2.2.2.2.2.2.2.1 = 5)  (hd : 10 ≤ d) (hN : 119 ≤ G.2.2.2.2.2)   
    : ∀ (v1 : Int32) (σ : St), wbX12_lag_31   post v1 σ → Go X G 31 [(0, .ref (G.2.2.1 75)), (1, .int v1)] [] σ := by
  intro v1 σ hw
  have hw : wpX12_runsAll  σ (fun σ_2 =>
  ((v1 < 10 →
    ∃ m_54, wbX12_lag_54 post m_54 v1 0 1 σ_2) ∧
  (¬ v1 < 10 →
    wpX12_lagOf (v1 - 10) σ_2 (fun r_3 σ_4 =>
    post r_3 σ_4)))) := hw
  refine go_aload_n C 0 rfl rfl dX12_lag_31 ?_
  refine go_callV (as := []) C hR (shX12 G) (ltX12 hN) cwX12_464 (Nat.le_trans (by decide) hd) (by decide) rfl rfl (Nat.le_of_ble_eq_true rfl) dX12_lag_32 (spX12_runsAll (Nat.le_refl _) hN hw) (fun v_ τ_ hw => ?_)
  obtain ⟨rfl, hw⟩ := hw
  obtain ⟨σ_2, rfl⟩ : ∃ z, z = τ_ := ⟨_, rfl⟩
  refine go_iload_n C 1 rfl rfl dX12_lag_35 ?_
  refine go_bipush (v := 10) C rfl dX12_lag_36 ?_
  refine go_icmp_lt C 50 rfl dX12_lag_38 (fun hc => ?_) (fun hc => ?_)
  · replace hw := hw.1 hc
    refine go_iconst (v := 0) C rfl dX12_lag_50 ?_
    refine go_istore_n (lv2 := [(2, .int 0), (0, .ref (G.2.2.1 75)), (1, .int v1)]) C rfl (by rw [hnl]; decide) rfl dX12_lag_51 ?_
    refine go_iconst (v := 1) C rfl dX12_lag_52 ?_
    refine go_istore_n (lv2 := [(3, .int 1), (2, .int 0), (0, .ref (G.2.2.1 75)), (1, .int v1)]) C rfl (by rw [hnl]; decide) rfl dX12_lag_53 ?_
    refine go_sub [2, 3, 1, 0] rfl ?_
    obtain ⟨n_0, hw⟩ := hw
    exact (gbX12_lag_54 C hr hR hnl hd hN) n_0 _ _ _ _ hw
  · replace hw := hw.2 hc
    refine go_aload_n C 0 rfl rfl dX12_lag_41 ?_
    refine go_iload_n C 1 rfl rfl dX12_lag_42 ?_
    refine go_bipush (v := 10) C rfl dX12_lag_43 ?_
    refine go_isub C dX12_lag_45 ?_
    refine go_callV (as := [.int (v1 - 10)]) C hR (shX12 G) (ltX12 hN) cwX12_494 (Nat.le_trans (by decide) hd) (by decide) rfl rfl (Nat.le_of_ble_eq_true rfl) dX12_lag_46 (spX12_lagOf (Nat.le_refl _) hN hw) (fun v_ τ_ hw => ?_)
    obtain ⟨r_3, rfl, hw⟩ := hw
    obtain ⟨σ_4, rfl⟩ : ∃ z, z = τ_ := ⟨_, rfl⟩
    exact go_iret C hr ⟨_, rfl, hw⟩ dX12_lag_49
set_option maxRecDepth 20000 in
set_option maxHeartbeats 4000000 in
theorem spX12_lag {l : Launch} {G : GT} {d : Nat}  (hd : 10 ≤ d)  (hN : 119 ≤ G.2.2.2.2.2)  {a1 : Int32} {σ : St} {post : Int32 → St → Prop} (hw : wpX12_lag  a1 σ post) : Sp l G d yX12_lag cX12_lag 5 (some .int) [.ref (G.2.2.1 75), .int a1] σ (fun v τ => ∃ r : Int32, v = some (.int r) ∧ post r τ) := by
  refine Sp.of (by decide) (Nat.le_of_ble_eq_true rfl) fun X C hr hR hnl => ?_
  show Go X G 0 [(0, .ref (G.2.2.1 75)), (1, .int a1)] [] σ
  have hw : vp_in 0 9680 ∧ (
  (((gI σ 76 (0 : Int32).toNatClampNeg) = 0 →
    post (-1) σ) ∧
  (¬ (gI σ 76 (0 : Int32).toNatClampNeg) = 0 →
    wpX12_in a1 0 1 σ (fun r_1 σ_2 =>
    ((¬ r_1 = 0 →
      wbX12_lag_31 post a1 σ_2) ∧
    (r_1 = 0 →
      wpX12_in a1 10 30 σ_2 (fun r_3 σ_4 =>
      ((¬ r_3 = 0 →
        wbX12_lag_31 post a1 σ_4) ∧
      (r_3 = 0 →
        post (-1) σ_4))))))))) := hw
  refine go_aload_n C 0 rfl rfl dX12_lag_0 ?_
  refine go_get (v := .ref (G.2.2.1 76)) C (shX12 G) (ltX12 hN) lkX12_7 rfl dX12_lag_1 ?_
  refine go_iconst (v := 0) C rfl dX12_lag_4 ?_
  refine go_iald C (saX12_a G) (laX12_a hN) hw.1 dX12_lag_5 ?_
  replace hw := hw.2
  refine go_if_eq C 29 rfl dX12_lag_6 (fun hc => ?_) (fun hc => ?_)
  · replace hw := hw.1 hc
    refine go_iconst (v := (-1)) C rfl dX12_lag_29 ?_
    exact go_iret C hr ⟨_, rfl, hw⟩ dX12_lag_30
  · replace hw := hw.2 hc
    refine go_iload_n C 1 rfl rfl dX12_lag_9 ?_
    refine go_iconst (v := 0) C rfl dX12_lag_10 ?_
    refine go_iconst (v := 1) C rfl dX12_lag_11 ?_
    refine go_callS (as := [.int a1, .int 0, .int 1]) C hR cwX12_152 (Nat.le_trans (by decide) hd) (by decide) rfl rfl (Nat.le_of_ble_eq_true rfl) dX12_lag_12 (spX12_in (Nat.le_refl _) hN hw) (fun v_ τ_ hw => ?_)
    obtain ⟨r_1, rfl, hw⟩ := hw
    obtain ⟨σ_2, rfl⟩ : ∃ z, z = τ_ := ⟨_, rfl⟩
    refine go_if_ne C 31 rfl dX12_lag_15 (fun hc => ?_) (fun hc => ?_)
    · replace hw := hw.1 hc
      exact (gbX12_lag_31 C hr hR hnl hd hN) _ _ hw
    · replace hw := hw.2 hc
      refine go_iload_n C 1 rfl rfl dX12_lag_18 ?_
      refine go_bipush (v := 10) C rfl dX12_lag_19 ?_
      refine go_bipush (v := 30) C rfl dX12_lag_21 ?_
      refine go_callS (as := [.int a1, .int 10, .int 30]) C hR cwX12_152 (Nat.le_trans (by decide) hd) (by decide) rfl rfl (Nat.le_of_ble_eq_true rfl) dX12_lag_23 (spX12_in (Nat.le_refl _) hN hw) (fun v_ τ_ hw => ?_)
      obtain ⟨r_3, rfl, hw⟩ := hw
      obtain ⟨σ_4, rfl⟩ : ∃ z, z = τ_ := ⟨_, rfl⟩
      refine go_if_ne C 31 rfl dX12_lag_26 (fun hc => ?_) (fun hc => ?_)
      · replace hw := hw.1 hc
        exact (gbX12_lag_31 C hr hR hnl hd hN) _ _ hw
      · replace hw := hw.2 hc
        refine go_iconst (v := (-1)) C rfl dX12_lag_29 ?_
        exact go_iret C hr ⟨_, rfl, hw⟩ dX12_lag_30
-- CradleNamesModel.together(II)I
set_option maxRecDepth 20000 in
set_option maxHeartbeats 4000000 in
theorem gbX12_together_27 {X : XT} {G : GT} {l : Launch} {d : Nat}  {post : Int32 → St → Prop} (C : Cx X G cX12_together RX12) (hr : Rt X G (some .int) (fun v τ => ∃ r : Int32, v = some (.int r) ∧ post r τ)) (hR : Rm X l d) (hnl : X.2.2.2.2.2.2.2.2.2.2.1 = 5)  (hd : 10 ≤ d) (hN : 119 ≤ G.2.2.2.2.2)   
    : ∀ (n : Nat) (v1 : Int32) (v2 : Int32) (v3 : Int32) (v4 : Int32) (σ : St), wbX12_together_27   post n v1 v2 v3 v4 σ → Go X G 27 [(0, .ref (G.2.2.1 75)), (1, .int v1), (2, .int v2), (3, .int v3), (4, .int v4)] [] σ := by
  intro n
  induction n with
  | zero => intro v1 v2 v3 v4 σ hw; exact hw.elim
  | succ n ih =>
    intro v1 v2 v3 v4 σ hw
    have hw : vp_in 1 9680 ∧ (
    (((gI σ 76 (1 : Int32).toNatClampNeg) ≤ v4 →
      post v3 σ) ∧
    (¬ (gI σ 76 (1 : Int32).toNatClampNeg) ≤ v4 →
      vp_in v4 16 ∧ (
      wpX12_ending (gL σ 78 v4.toNatClampNeg) σ (fun r_1 σ_2 =>
      vp_in v1 16 ∧ (
      wpX12_ending (gL σ_2 78 v1.toNatClampNeg) σ_2 (fun r_3 σ_4 =>
      ((¬ r_1 = r_3 →
        ∀ v3_5 : Int32, v3_5 = (v3 + 0) →
        ∀ v4_6 : Int32, v4_6 = v4 + 1 →
        wbX12_together_27 post n v1 v2 v3_5 v4_6 σ_4) ∧
      (r_1 = r_3 →
        wpX12_all v2 v4 σ_4 (fun r_7 σ_8 =>
        wpX12_all (v2 - 1) v4 σ_8 (fun r_9 σ_10 =>
        ((r_7 ≤ r_9 →
          ∀ v3_11 : Int32, v3_11 = (v3 + 0) →
          ∀ v4_12 : Int32, v4_12 = v4 + 1 →
          wbX12_together_27 post n v1 v2 v3_11 v4_12 σ_10) ∧
        (¬ r_7 ≤ r_9 →
          ∀ v3_13 : Int32, v3_13 = (v3 + 1) →
          ∀ v4_14 : Int32, v4_14 = v4 + 1 →
          wbX12_together_27 post n v1 v2 v3_13 v4_14 σ_10))))))))))))) := hw
    refine go_iload C 4 rfl dX12_together_27 ?_
    refine go_aload_n C 0 rfl rfl dX12_together_29 ?_
    refine go_get (v := .ref (G.2.2.1 76)) C (shX12 G) (ltX12 hN) lkX12_7 rfl dX12_together_30 ?_
    refine go_iconst (v := 1) C rfl dX12_together_33 ?_
    refine go_iald C (saX12_a G) (laX12_a hN) hw.1 dX12_together_34 ?_
    replace hw := hw.2
    refine go_icmp_ge C 94 rfl dX12_together_35 (fun hc => ?_) (fun hc => ?_)
    · replace hw := hw.1 hc
      refine go_iload_n C 3 rfl rfl dX12_together_94 ?_
      exact go_iret C hr ⟨_, rfl, hw⟩ dX12_together_95
    · replace hw := hw.2 hc
      refine go_iload_n C 3 rfl rfl dX12_together_38 ?_
      refine go_aload_n C 0 rfl rfl dX12_together_39 ?_
      refine go_get (v := .ref (G.2.2.1 78)) C (shX12 G) (ltX12 hN) lkX12_16 rfl dX12_together_40 ?_
      refine go_iload C 4 rfl dX12_together_43 ?_
      refine go_lald C (saX12_letters G) (laX12_letters hN) hw.1 dX12_together_45 ?_
      replace hw := hw.2
      refine go_callS (as := [.long (gL σ 78 v4.toNatClampNeg)]) C hR cwX12_196 (Nat.le_trans (by decide) hd) (by decide) rfl rfl (Nat.le_of_ble_eq_true rfl) dX12_together_46 (spX12_ending (Nat.le_refl _) hN hw) (fun v_ τ_ hw => ?_)
      obtain ⟨r_1, rfl, hw⟩ := hw
      obtain ⟨σ_2, rfl⟩ : ∃ z, z = τ_ := ⟨_, rfl⟩
      refine go_aload_n C 0 rfl rfl dX12_together_49 ?_
      refine go_get (v := .ref (G.2.2.1 78)) C (shX12 G) (ltX12 hN) lkX12_16 rfl dX12_together_50 ?_
      refine go_iload_n C 1 rfl rfl dX12_together_53 ?_
      refine go_lald C (saX12_letters G) (laX12_letters hN) hw.1 dX12_together_54 ?_
      replace hw := hw.2
      refine go_callS (as := [.long (gL σ_2 78 v1.toNatClampNeg)]) C hR cwX12_196 (Nat.le_trans (by decide) hd) (by decide) rfl rfl (Nat.le_of_ble_eq_true rfl) dX12_together_55 (spX12_ending (Nat.le_refl _) hN hw) (fun v_ τ_ hw => ?_)
      obtain ⟨r_3, rfl, hw⟩ := hw
      obtain ⟨σ_4, rfl⟩ : ∃ z, z = τ_ := ⟨_, rfl⟩
      refine go_lc_ne C 85 rfl dX12_together_58 dX12_together_59 (fun hc => ?_) (fun hc => ?_)
      · replace hw := hw.1 hc
        refine go_iconst (v := 0) C rfl dX12_together_85 ?_
        refine go_iadd C dX12_together_86 ?_
        refine go_topi (fun v3_5 ev3_5 => ?_)
        replace hw := hw v3_5 ev3_5
        refine go_istore_n (lv2 := [(3, .int v3_5), (0, .ref (G.2.2.1 75)), (1, .int v1), (2, .int v2), (4, .int v4)]) C rfl (by rw [hnl]; decide) rfl dX12_together_87 ?_
        obtain ⟨v4_6, ev4_6⟩ : ∃ z : Int32, z = v4 + 1 := ⟨_, rfl⟩
        replace hw := hw v4_6 ev4_6
        refine go_iinc (v := v4_6) (lv2 := [(4, .int v4_6), (3, .int v3_5), (0, .ref (G.2.2.1 75)), (1, .int v1), (2, .int v2)]) C 4 rfl (by rw [ev4_6]; rfl) (by rw [hnl]; decide) rfl dX12_together_88 ?_
        refine go_goto C 27 rfl dX12_together_91 ?_
        refine go_sub [2, 3, 4, 1, 0] rfl ?_
        exact ih _ _ _ _ _ hw
      · replace hw := hw.2 hc
        refine go_aload_n C 0 rfl rfl dX12_together_62 ?_
        refine go_iload_n C 2 rfl rfl dX12_together_63 ?_
        refine go_iload C 4 rfl dX12_together_64 ?_
        refine go_callV (as := [.int v2, .int v4]) C hR (shX12 G) (ltX12 hN) cwX12_407 (Nat.le_trans (by decide) hd) (by decide) rfl rfl (Nat.le_of_ble_eq_true rfl) dX12_together_66 (spX12_all (Nat.le_refl _) hN hw) (fun v_ τ_ hw => ?_)
        obtain ⟨r_7, rfl, hw⟩ := hw
        obtain ⟨σ_8, rfl⟩ : ∃ z, z = τ_ := ⟨_, rfl⟩
        refine go_aload_n C 0 rfl rfl dX12_together_69 ?_
        refine go_iload_n C 2 rfl rfl dX12_together_70 ?_
        refine go_iconst (v := 1) C rfl dX12_together_71 ?_
        refine go_isub C dX12_together_72 ?_
        refine go_iload C 4 rfl dX12_together_73 ?_
        refine go_callV (as := [.int (v2 - 1), .int v4]) C hR (shX12 G) (ltX12 hN) cwX12_407 (Nat.le_trans (by decide) hd) (by decide) rfl rfl (Nat.le_of_ble_eq_true rfl) dX12_together_75 (spX12_all (Nat.le_refl _) hN hw) (fun v_ τ_ hw => ?_)
        obtain ⟨r_9, rfl, hw⟩ := hw
        obtain ⟨σ_10, rfl⟩ : ∃ z, z = τ_ := ⟨_, rfl⟩
        refine go_icmp_le C 85 rfl dX12_together_78 (fun hc => ?_) (fun hc => ?_)
        · replace hw := hw.1 hc
          refine go_iconst (v := 0) C rfl dX12_together_85 ?_
          refine go_iadd C dX12_together_86 ?_
          refine go_topi (fun v3_11 ev3_11 => ?_)
          replace hw := hw v3_11 ev3_11
          refine go_istore_n (lv2 := [(3, .int v3_11), (0, .ref (G.2.2.1 75)), (1, .int v1), (2, .int v2), (4, .int v4)]) C rfl (by rw [hnl]; decide) rfl dX12_together_87 ?_
          obtain ⟨v4_12, ev4_12⟩ : ∃ z : Int32, z = v4 + 1 := ⟨_, rfl⟩
          replace hw := hw v4_12 ev4_12
          refine go_iinc (v := v4_12) (lv2 := [(4, .int v4_12), (3, .int v3_11), (0, .ref (G.2.2.1 75)), (1, .int v1), (2, .int v2)]) C 4 rfl (by rw [ev4_12]; rfl) (by rw [hnl]; decide) rfl dX12_together_88 ?_
          refine go_goto C 27 rfl dX12_together_91 ?_
          refine go_sub [2, 3, 4, 1, 0] rfl ?_
          exact ih _ _ _ _ _ hw
        · replace hw := hw.2 hc
          refine go_iconst (v := 1) C rfl dX12_together_81 ?_
          refine go_goto C 86 rfl dX12_together_82 ?_
          refine go_iadd C dX12_together_86 ?_
          refine go_topi (fun v3_13 ev3_13 => ?_)
          replace hw := hw v3_13 ev3_13
          refine go_istore_n (lv2 := [(3, .int v3_13), (0, .ref (G.2.2.1 75)), (1, .int v1), (2, .int v2), (4, .int v4)]) C rfl (by rw [hnl]; decide) rfl dX12_together_87 ?_
          obtain ⟨v4_14, ev4_14⟩ : ∃ z : Int32, z = v4 + 1 := ⟨_, rfl⟩
          replace hw := hw v4_14 ev4_14
          refine go_iinc (v := v4_14) (lv2 := [(4, .int v4_14), (3, .int v3_13), (0, .ref (G.2.2.1 75)), (1, .int v1), (2, .int v2)]) C 4 rfl (by rw [ev4_14]; rfl) (by rw [hnl]; decide) rfl dX12_together_88 ?_
          refine go_goto C 27 rfl dX12_together_91 ?_
          refine go_sub [2, 3, 4, 1, 0] rfl ?_
          exact ih _ _ _ _ _ hw
set_option maxRecDepth 20000 in
set_option maxHeartbeats 4000000 in
theorem spX12_together {l : Launch} {G : GT} {d : Nat}  (hd : 10 ≤ d)  (hN : 119 ≤ G.2.2.2.2.2)  {a1 : Int32} {a2 : Int32} {σ : St} {post : Int32 → St → Prop} (hw : wpX12_together  a1 a2 σ post) : Sp l G d yX12_together cX12_together 5 (some .int) [.ref (G.2.2.1 75), .int a1, .int a2] σ (fun v τ => ∃ r : Int32, v = some (.int r) ∧ post r τ) := by
  refine Sp.of (by decide) (Nat.le_of_ble_eq_true rfl) fun X C hr hR hnl => ?_
  show Go X G 0 [(0, .ref (G.2.2.1 75)), (1, .int a1), (2, .int a2)] [] σ
  have hw : wpX12_isName a1 σ (fun r_1 σ_2 =>
  ((r_1 = 0 →
    post (-1) σ_2) ∧
  (¬ r_1 = 0 →
    wpX12_isGone a2 σ_2 (fun r_3 σ_4 =>
    ((¬ r_3 = 0 →
      wpX12_runsAll  σ_4 (fun σ_6 =>
      ∃ m_27, wbX12_together_27 post m_27 a1 a2 0 0 σ_6)) ∧
    (r_3 = 0 →
      post (-1) σ_4)))))) := hw
  refine go_aload_n C 0 rfl rfl dX12_together_0 ?_
  refine go_iload_n C 1 rfl rfl dX12_together_1 ?_
  refine go_callV (as := [.int a1]) C hR (shX12 G) (ltX12 hN) cwX12_182 (Nat.le_trans (by decide) hd) (by decide) rfl rfl (Nat.le_of_ble_eq_true rfl) dX12_together_2 (spX12_isName (Nat.le_refl _) hN hw) (fun v_ τ_ hw => ?_)
  obtain ⟨r_1, rfl, hw⟩ := hw
  obtain ⟨σ_2, rfl⟩ : ∃ z, z = τ_ := ⟨_, rfl⟩
  refine go_if_eq C 16 rfl dX12_together_5 (fun hc => ?_) (fun hc => ?_)
  · replace hw := hw.1 hc
    refine go_iconst (v := (-1)) C rfl dX12_together_16 ?_
    exact go_iret C hr ⟨_, rfl, hw⟩ dX12_together_17
  · replace hw := hw.2 hc
    refine go_aload_n C 0 rfl rfl dX12_together_8 ?_
    refine go_iload_n C 2 rfl rfl dX12_together_9 ?_
    refine go_callV (as := [.int a2]) C hR (shX12 G) (ltX12 hN) cwX12_475 (Nat.le_trans (by decide) hd) (by decide) rfl rfl (Nat.le_of_ble_eq_true rfl) dX12_together_10 (spX12_isGone (Nat.le_refl _) hN hw) (fun v_ τ_ hw => ?_)
    obtain ⟨r_3, rfl, hw⟩ := hw
    obtain ⟨σ_4, rfl⟩ : ∃ z, z = τ_ := ⟨_, rfl⟩
    refine go_if_ne C 18 rfl dX12_together_13 (fun hc => ?_) (fun hc => ?_)
    · replace hw := hw.1 hc
      refine go_aload_n C 0 rfl rfl dX12_together_18 ?_
      refine go_callV (as := []) C hR (shX12 G) (ltX12 hN) cwX12_464 (Nat.le_trans (by decide) hd) (by decide) rfl rfl (Nat.le_of_ble_eq_true rfl) dX12_together_19 (spX12_runsAll (Nat.le_refl _) hN hw) (fun v_ τ_ hw => ?_)
      obtain ⟨rfl, hw⟩ := hw
      obtain ⟨σ_6, rfl⟩ : ∃ z, z = τ_ := ⟨_, rfl⟩
      refine go_iconst (v := 0) C rfl dX12_together_22 ?_
      refine go_istore_n (lv2 := [(3, .int 0), (0, .ref (G.2.2.1 75)), (1, .int a1), (2, .int a2)]) C rfl (by rw [hnl]; decide) rfl dX12_together_23 ?_
      refine go_iconst (v := 0) C rfl dX12_together_24 ?_
      refine go_istore (lv2 := [(4, .int 0), (3, .int 0), (0, .ref (G.2.2.1 75)), (1, .int a1), (2, .int a2)]) C (by rw [hnl]; decide) rfl dX12_together_25 ?_
      refine go_sub [2, 3, 4, 1, 0] rfl ?_
      obtain ⟨n_0, hw⟩ := hw
      exact (gbX12_together_27 C hr hR hnl hd hN) n_0 _ _ _ _ _ hw
    · replace hw := hw.2 hc
      refine go_iconst (v := (-1)) C rfl dX12_together_16 ?_
      exact go_iret C hr ⟨_, rfl, hw⟩ dX12_together_17
-- CradleNamesModel.took(III)I
set_option maxRecDepth 20000 in
set_option maxHeartbeats 4000000 in
theorem spX12_took {l : Launch} {G : GT} {d : Nat}  (hd : 10 ≤ d)  (hN : 119 ≤ G.2.2.2.2.2)  {a1 : Int32} {a2 : Int32} {a3 : Int32} {σ : St} {post : Int32 → St → Prop} (hw : wpX12_took  a1 a2 a3 σ post) : Sp l G d yX12_took cX12_took 5 (some .int) [.ref (G.2.2.1 75), .int a1, .int a2, .int a3] σ (fun v τ => ∃ r : Int32, v = some (.int r) ∧ post r τ) := by
  refine Sp.of (by decide) (Nat.le_of_ble_eq_true rfl) fun X C hr hR hnl => ?_
  show Go X G 0 [(0, .ref (G.2.2.1 75)), (1, .int a1), (2, .int a2), (3, .int a3)] [] σ
  have hw : vp_in 3 9680 ∧ (
  wpX12_in a1 0 ((gI σ 76 (3 : Int32).toNatClampNeg) - 1) σ (fun r_1 σ_2 =>
  ((r_1 = 0 →
    post (-1000) σ_2) ∧
  (¬ r_1 = 0 →
    wpX12_isName a2 σ_2 (fun r_3 σ_4 =>
    ((r_3 = 0 →
      post (-1000) σ_4) ∧
    (¬ r_3 = 0 →
      wpX12_isGone a3 σ_4 (fun r_5 σ_6 =>
      ((¬ r_5 = 0 →
        wpX12_runsAll  σ_6 (fun σ_8 =>
        wpX12_all a3 a2 σ_8 (fun r_9 σ_10 =>
        vp_in 0 9680 ∧ (
        wpX12_runs (gI σ_10 76 (0 : Int32).toNatClampNeg) a1 0 (-1) σ_10 (fun σ_12 =>
        wpX12_all a3 a2 σ_12 (fun r_13 σ_14 =>
        post (r_9 - r_13) σ_14)))))) ∧
      (r_5 = 0 →
        post (-1000) σ_6)))))))))) := hw
  refine go_iload_n C 1 rfl rfl dX12_took_0 ?_
  refine go_iconst (v := 0) C rfl dX12_took_1 ?_
  refine go_aload_n C 0 rfl rfl dX12_took_2 ?_
  refine go_get (v := .ref (G.2.2.1 76)) C (shX12 G) (ltX12 hN) lkX12_7 rfl dX12_took_3 ?_
  refine go_iconst (v := 3) C rfl dX12_took_6 ?_
  refine go_iald C (saX12_a G) (laX12_a hN) hw.1 dX12_took_7 ?_
  replace hw := hw.2
  refine go_iconst (v := 1) C rfl dX12_took_8 ?_
  refine go_isub C dX12_took_9 ?_
  refine go_callS (as := [.int a1, .int 0, .int ((gI σ 76 (3 : Int32).toNatClampNeg) - 1)]) C hR cwX12_152 (Nat.le_trans (by decide) hd) (by decide) rfl rfl (Nat.le_of_ble_eq_true rfl) dX12_took_10 (spX12_in (Nat.le_refl _) hN hw) (fun v_ τ_ hw => ?_)
  obtain ⟨r_1, rfl, hw⟩ := hw
  obtain ⟨σ_2, rfl⟩ : ∃ z, z = τ_ := ⟨_, rfl⟩
  refine go_if_eq C 32 rfl dX12_took_13 (fun hc => ?_) (fun hc => ?_)
  · replace hw := hw.1 hc
    refine go_sipush (v := (-1000)) C rfl dX12_took_32 ?_
    exact go_iret C hr ⟨_, rfl, hw⟩ dX12_took_35
  · replace hw := hw.2 hc
    refine go_aload_n C 0 rfl rfl dX12_took_16 ?_
    refine go_iload_n C 2 rfl rfl dX12_took_17 ?_
    refine go_callV (as := [.int a2]) C hR (shX12 G) (ltX12 hN) cwX12_182 (Nat.le_trans (by decide) hd) (by decide) rfl rfl (Nat.le_of_ble_eq_true rfl) dX12_took_18 (spX12_isName (Nat.le_refl _) hN hw) (fun v_ τ_ hw => ?_)
    obtain ⟨r_3, rfl, hw⟩ := hw
    obtain ⟨σ_4, rfl⟩ : ∃ z, z = τ_ := ⟨_, rfl⟩
    refine go_if_eq C 32 rfl dX12_took_21 (fun hc => ?_) (fun hc => ?_)
    · replace hw := hw.1 hc
      refine go_sipush (v := (-1000)) C rfl dX12_took_32 ?_
      exact go_iret C hr ⟨_, rfl, hw⟩ dX12_took_35
    · replace hw := hw.2 hc
      refine go_aload_n C 0 rfl rfl dX12_took_24 ?_
      refine go_iload_n C 3 rfl rfl dX12_took_25 ?_
      refine go_callV (as := [.int a3]) C hR (shX12 G) (ltX12 hN) cwX12_475 (Nat.le_trans (by decide) hd) (by decide) rfl rfl (Nat.le_of_ble_eq_true rfl) dX12_took_26 (spX12_isGone (Nat.le_refl _) hN hw) (fun v_ τ_ hw => ?_)
      obtain ⟨r_5, rfl, hw⟩ := hw
      obtain ⟨σ_6, rfl⟩ : ∃ z, z = τ_ := ⟨_, rfl⟩
      refine go_if_ne C 36 rfl dX12_took_29 (fun hc => ?_) (fun hc => ?_)
      · replace hw := hw.1 hc
        refine go_aload_n C 0 rfl rfl dX12_took_36 ?_
        refine go_callV (as := []) C hR (shX12 G) (ltX12 hN) cwX12_464 (Nat.le_trans (by decide) hd) (by decide) rfl rfl (Nat.le_of_ble_eq_true rfl) dX12_took_37 (spX12_runsAll (Nat.le_refl _) hN hw) (fun v_ τ_ hw => ?_)
        obtain ⟨rfl, hw⟩ := hw
        obtain ⟨σ_8, rfl⟩ : ∃ z, z = τ_ := ⟨_, rfl⟩
        refine go_aload_n C 0 rfl rfl dX12_took_40 ?_
        refine go_iload_n C 3 rfl rfl dX12_took_41 ?_
        refine go_iload_n C 2 rfl rfl dX12_took_42 ?_
        refine go_callV (as := [.int a3, .int a2]) C hR (shX12 G) (ltX12 hN) cwX12_407 (Nat.le_trans (by decide) hd) (by decide) rfl rfl (Nat.le_of_ble_eq_true rfl) dX12_took_43 (spX12_all (Nat.le_refl _) hN hw) (fun v_ τ_ hw => ?_)
        obtain ⟨r_9, rfl, hw⟩ := hw
        obtain ⟨σ_10, rfl⟩ : ∃ z, z = τ_ := ⟨_, rfl⟩
        refine go_istore (lv2 := [(4, .int r_9), (0, .ref (G.2.2.1 75)), (1, .int a1), (2, .int a2), (3, .int a3)]) C (by rw [hnl]; decide) rfl dX12_took_46 ?_
        refine go_aload_n C 1 rfl rfl dX12_took_48 ?_
        refine go_aload_n C 1 rfl rfl dX12_took_49 ?_
        refine go_get (v := .ref (G.2.2.1 76)) C (shX12 G) (ltX12 hN) lkX12_7 rfl dX12_took_50 ?_
        refine go_iconst (v := 0) C rfl dX12_took_53 ?_
        refine go_iald C (saX12_a G) (laX12_a hN) hw.1 dX12_took_54 ?_
        replace hw := hw.2
        refine go_iload_n C 2 rfl rfl dX12_took_55 ?_
        refine go_iconst (v := 0) C rfl dX12_took_56 ?_
        refine go_iconst (v := (-1)) C rfl dX12_took_57 ?_
        refine go_callV (as := [.int (gI σ_10 76 (0 : Int32).toNatClampNeg), .int a1, .int 0, .int (-1)]) C hR (shX12 G) (ltX12 hN) cwX12_188 (Nat.le_trans (by decide) hd) (by decide) rfl rfl (Nat.le_of_ble_eq_true rfl) dX12_took_58 (spX12_runs (Nat.le_refl _) hN hw) (fun v_ τ_ hw => ?_)
        obtain ⟨rfl, hw⟩ := hw
        obtain ⟨σ_12, rfl⟩ : ∃ z, z = τ_ := ⟨_, rfl⟩
        refine go_iload C 0 rfl dX12_took_61 ?_
        refine go_aload_n C 1 rfl rfl dX12_took_63 ?_
        refine go_iload_n C 4 rfl rfl dX12_took_64 ?_
        refine go_iload_n C 3 rfl rfl dX12_took_65 ?_
        refine go_callV (as := [.int a3, .int a2]) C hR (shX12 G) (ltX12 hN) cwX12_407 (Nat.le_trans (by decide) hd) (by decide) rfl rfl (Nat.le_of_ble_eq_true rfl) dX12_took_66 (spX12_all (Nat.le_refl _) hN hw) (fun v_ τ_ hw => ?_)
        obtain ⟨r_13, rfl, hw⟩ := hw
        obtain ⟨σ_14, rfl⟩ : ∃ z, z = τ_ := ⟨_, rfl⟩
        refine go_isub C dX12_took_69 ?_
        exact go_iret C hr ⟨_, rfl, hw⟩ dX12_took_70
      · replace hw := hw.2 hc
        refine go_sipush (v := (-1000)) C rfl dX12_took_32 ?_
        exact go_iret C hr ⟨_, rfl, hw⟩ dX12_took_35
-- CradleNamesModel.sound(II)I
set_option maxRecDepth 20000 in
set_option maxHeartbeats 4000000 in
theorem spX12_sound {l : Launch} {G : GT} {d : Nat}  (hd : 10 ≤ d)  (hN : 119 ≤ G.2.2.2.2.2)  {a1 : Int32} {a2 : Int32} {σ : St} {post : Int32 → St → Prop} (hw : wpX12_sound  a1 a2 σ post) : Sp l G d yX12_sound cX12_sound 4 (some .int) [.ref (G.2.2.1 75), .int a1, .int a2] σ (fun v τ => ∃ r : Int32, v = some (.int r) ∧ post r τ) := by
  refine Sp.of (by decide) (Nat.le_of_ble_eq_true rfl) fun X C hr hR hnl => ?_
  show Go X G 0 [(0, .ref (G.2.2.1 75)), (1, .int a1), (2, .int a2)] [] σ
  have hw : wpX12_isName a1 σ (fun r_1 σ_2 =>
  ((r_1 = 0 →
    post (-1000) σ_2) ∧
  (¬ r_1 = 0 →
    wpX12_isGone a2 σ_2 (fun r_3 σ_4 =>
    ((¬ r_3 = 0 →
      wpX12_runsAll  σ_4 (fun σ_6 =>
      wpX12_all a2 a1 σ_6 (fun r_7 σ_8 =>
      vp_in 0 9680 ∧ (
      wpX12_runs (gI σ_8 76 (0 : Int32).toNatClampNeg) (-1) 1 (-1) σ_8 (fun σ_10 =>
      wpX12_all a2 a1 σ_10 (fun r_11 σ_12 =>
      post (r_7 - r_11) σ_12)))))) ∧
    (r_3 = 0 →
      post (-1000) σ_4)))))) := hw
  refine go_aload_n C 0 rfl rfl dX12_sound_0 ?_
  refine go_iload_n C 1 rfl rfl dX12_sound_1 ?_
  refine go_callV (as := [.int a1]) C hR (shX12 G) (ltX12 hN) cwX12_182 (Nat.le_trans (by decide) hd) (by decide) rfl rfl (Nat.le_of_ble_eq_true rfl) dX12_sound_2 (spX12_isName (Nat.le_refl _) hN hw) (fun v_ τ_ hw => ?_)
  obtain ⟨r_1, rfl, hw⟩ := hw
  obtain ⟨σ_2, rfl⟩ : ∃ z, z = τ_ := ⟨_, rfl⟩
  refine go_if_eq C 16 rfl dX12_sound_5 (fun hc => ?_) (fun hc => ?_)
  · replace hw := hw.1 hc
    refine go_sipush (v := (-1000)) C rfl dX12_sound_16 ?_
    exact go_iret C hr ⟨_, rfl, hw⟩ dX12_sound_19
  · replace hw := hw.2 hc
    refine go_aload_n C 0 rfl rfl dX12_sound_8 ?_
    refine go_iload_n C 2 rfl rfl dX12_sound_9 ?_
    refine go_callV (as := [.int a2]) C hR (shX12 G) (ltX12 hN) cwX12_475 (Nat.le_trans (by decide) hd) (by decide) rfl rfl (Nat.le_of_ble_eq_true rfl) dX12_sound_10 (spX12_isGone (Nat.le_refl _) hN hw) (fun v_ τ_ hw => ?_)
    obtain ⟨r_3, rfl, hw⟩ := hw
    obtain ⟨σ_4, rfl⟩ : ∃ z, z = τ_ := ⟨_, rfl⟩
    refine go_if_ne C 20 rfl dX12_sound_13 (fun hc => ?_) (fun hc => ?_)
    · replace hw := hw.1 hc
      refine go_aload_n C 0 rfl rfl dX12_sound_20 ?_
      refine go_callV (as := []) C hR (shX12 G) (ltX12 hN) cwX12_464 (Nat.le_trans (by decide) hd) (by decide) rfl rfl (Nat.le_of_ble_eq_true rfl) dX12_sound_21 (spX12_runsAll (Nat.le_refl _) hN hw) (fun v_ τ_ hw => ?_)
      obtain ⟨rfl, hw⟩ := hw
      obtain ⟨σ_6, rfl⟩ : ∃ z, z = τ_ := ⟨_, rfl⟩
      refine go_aload_n C 0 rfl rfl dX12_sound_24 ?_
      refine go_iload_n C 2 rfl rfl dX12_sound_25 ?_
      refine go_iload_n C 1 rfl rfl dX12_sound_26 ?_
      refine go_callV (as := [.int a2, .int a1]) C hR (shX12 G) (ltX12 hN) cwX12_407 (Nat.le_trans (by decide) hd) (by decide) rfl rfl (Nat.le_of_ble_eq_true rfl) dX12_sound_27 (spX12_all (Nat.le_refl _) hN hw) (fun v_ τ_ hw => ?_)
      obtain ⟨r_7, rfl, hw⟩ := hw
      obtain ⟨σ_8, rfl⟩ : ∃ z, z = τ_ := ⟨_, rfl⟩
      refine go_istore_n (lv2 := [(3, .int r_7), (0, .ref (G.2.2.1 75)), (1, .int a1), (2, .int a2)]) C rfl (by rw [hnl]; decide) rfl dX12_sound_30 ?_
      refine go_aload_n C 1 rfl rfl dX12_sound_31 ?_
      refine go_aload_n C 1 rfl rfl dX12_sound_32 ?_
      refine go_get (v := .ref (G.2.2.1 76)) C (shX12 G) (ltX12 hN) lkX12_7 rfl dX12_sound_33 ?_
      refine go_iconst (v := 0) C rfl dX12_sound_36 ?_
      refine go_iald C (saX12_a G) (laX12_a hN) hw.1 dX12_sound_37 ?_
      replace hw := hw.2
      refine go_iconst (v := (-1)) C rfl dX12_sound_38 ?_
      refine go_iconst (v := 1) C rfl dX12_sound_39 ?_
      refine go_iconst (v := (-1)) C rfl dX12_sound_40 ?_
      refine go_callV (as := [.int (gI σ_8 76 (0 : Int32).toNatClampNeg), .int (-1), .int 1, .int (-1)]) C hR (shX12 G) (ltX12 hN) cwX12_188 (Nat.le_trans (by decide) hd) (by decide) rfl rfl (Nat.le_of_ble_eq_true rfl) dX12_sound_41 (spX12_runs (Nat.le_refl _) hN hw) (fun v_ τ_ hw => ?_)
      obtain ⟨rfl, hw⟩ := hw
      obtain ⟨σ_10, rfl⟩ : ∃ z, z = τ_ := ⟨_, rfl⟩
      refine go_iload_n C 0 rfl rfl dX12_sound_44 ?_
      refine go_aload_n C 1 rfl rfl dX12_sound_45 ?_
      refine go_iload_n C 3 rfl rfl dX12_sound_46 ?_
      refine go_iload_n C 2 rfl rfl dX12_sound_47 ?_
      refine go_callV (as := [.int a2, .int a1]) C hR (shX12 G) (ltX12 hN) cwX12_407 (Nat.le_trans (by decide) hd) (by decide) rfl rfl (Nat.le_of_ble_eq_true rfl) dX12_sound_48 (spX12_all (Nat.le_refl _) hN hw) (fun v_ τ_ hw => ?_)
      obtain ⟨r_11, rfl, hw⟩ := hw
      obtain ⟨σ_12, rfl⟩ : ∃ z, z = τ_ := ⟨_, rfl⟩
      refine go_isub C dX12_sound_51 ?_
      exact go_iret C hr ⟨_, rfl, hw⟩ dX12_sound_52
    · replace hw := hw.2 hc
      refine go_sipush (v := (-1000)) C rfl dX12_sound_16 ?_
      exact go_iret C hr ⟨_, rfl, hw⟩ dX12_sound_19
-- CradleNamesModel.ofSex(III)I
set_option maxRecDepth 20000 in
set_option maxHeartbeats 4000000 in
theorem spX12_ofSex {l : Launch} {G : GT} {d : Nat}  (hd : 1 ≤ d)  (hN : 119 ≤ G.2.2.2.2.2)  {a1 : Int32} {a2 : Int32} {a3 : Int32} {σ : St} {post : Int32 → St → Prop} (hw : wpX12_ofSex  a1 a2 a3 σ post) : Sp l G d yX12_ofSex cX12_ofSex 4 (some .int) [.ref (G.2.2.1 75), .int a1, .int a2, .int a3] σ (fun v τ => ∃ r : Int32, v = some (.int r) ∧ post r τ) := by
  refine Sp.of (by decide) (Nat.le_of_ble_eq_true rfl) fun X C hr hR hnl => ?_
  show Go X G 0 [(0, .ref (G.2.2.1 75)), (1, .int a1), (2, .int a2), (3, .int a3)] [] σ
  have hw : vp_in (((32 * (a1 + 40)) + (16 * a2)) + a3) 3232 ∧ (
  post (gI σ 102 (((32 * (a1 + 40)) + (16 * a2)) + a3).toNatClampNeg) σ) := hw
  refine go_aload_n C 0 rfl rfl dX12_ofSex_0 ?_
  refine go_get (v := .ref (G.2.2.1 102)) C (shX12 G) (ltX12 hN) lkX12_97 rfl dX12_ofSex_1 ?_
  refine go_bipush (v := 32) C rfl dX12_ofSex_4 ?_
  refine go_iload_n C 1 rfl rfl dX12_ofSex_6 ?_
  refine go_bipush (v := 40) C rfl dX12_ofSex_7 ?_
  refine go_iadd C dX12_ofSex_9 ?_
  refine go_imul C dX12_ofSex_10 ?_
  refine go_bipush (v := 16) C rfl dX12_ofSex_11 ?_
  refine go_iload_n C 2 rfl rfl dX12_ofSex_13 ?_
  refine go_imul C dX12_ofSex_14 ?_
  refine go_iadd C dX12_ofSex_15 ?_
  refine go_iload_n C 3 rfl rfl dX12_ofSex_16 ?_
  refine go_iadd C dX12_ofSex_17 ?_
  refine go_iald C (saX12_inSex G) (laX12_inSex hN) hw.1 dX12_ofSex_18 ?_
  replace hw := hw.2
  exact go_iret C hr ⟨_, rfl, hw⟩ dX12_ofSex_19
-- CradleNamesModel.crossed(II)I
set_option maxRecDepth 20000 in
set_option maxHeartbeats 4000000 in
theorem gbX12_crossed_126 {X : XT} {G : GT} {l : Launch} {d : Nat}  {post : Int32 → St → Prop} (C : Cx X G cX12_crossed RX12) (hr : Rt X G (some .int) (fun v τ => ∃ r : Int32, v = some (.int r) ∧ post r τ)) (hR : Rm X l d) (hnl : X.2.2.2.2.2.2.2.2.2.2.1 = 8)  (hd : 10 ≤ d) (hN : 119 ≤ G.2.2.2.2.2)  {K35 : Int32 → Int32 → Int32 → Int32 → Int32 → Int32 → St → Prop} (hK35 : ∀ (v1 : Int32) (v2 : Int32) (v3 : Int32) (v4 : Int32) (v5 : Int32) (v6 : Int32) (σ : St), K35 v1 v2 v3 v4 v5 v6 σ → Go X G 35 [(0, .ref (G.2.2.1 75)), (1, .int v1), (2, .int v2), (3, .int v3), (4, .int v4), (5, .int v5), (6, .int v6)] [] σ)
    : ∀ (v1 : Int32) (v2 : Int32) (v3 : Int32) (v4 : Int32) (v5 : Int32) (v6 : Int32) (v7 : Int32) (σ : St), wbX12_crossed_126  K35 post v1 v2 v3 v4 v5 v6 v7 σ → Go X G 126 [(0, .ref (G.2.2.1 75)), (1, .int v1), (2, .int v2), (3, .int v3), (4, .int v4), (5, .int v5), (6, .int v6), (7, .int v7)] [] σ := by
  intro v1 v2 v3 v4 v5 v6 v7 σ hw
  have hw : ((¬ v3 = 0 →
    ∀ v6_1 : Int32, v6_1 = v6 + 1 →
    K35 v1 v2 1 v4 v5 v6_1 σ) ∧
  (v3 = 0 →
    ((v7 = 0 →
      ∀ v6_2 : Int32, v6_2 = v6 + 1 →
      K35 v1 v2 0 v4 v5 v6_2 σ) ∧
    (¬ v7 = 0 →
      ∀ v6_3 : Int32, v6_3 = v6 + 1 →
      K35 v1 v2 1 v4 v5 v6_3 σ)))) := hw
  refine go_iload_n C 3 rfl rfl dX12_crossed_126 ?_
  refine go_if_ne C 135 rfl dX12_crossed_127 (fun hc => ?_) (fun hc => ?_)
  · replace hw := hw.1 hc
    refine go_iconst (v := 1) C rfl dX12_crossed_135 ?_
    refine go_goto C 140 rfl dX12_crossed_136 ?_
    refine go_istore_n (lv2 := [(3, .int 1), (0, .ref (G.2.2.1 75)), (1, .int v1), (2, .int v2), (4, .int v4), (5, .int v5), (6, .int v6), (7, .int v7)]) C rfl (by rw [hnl]; decide) rfl dX12_crossed_140 ?_
    obtain ⟨v6_1, ev6_1⟩ : ∃ z : Int32, z = v6 + 1 := ⟨_, rfl⟩
    replace hw := hw v6_1 ev6_1
    refine go_iinc (v := v6_1) (lv2 := [(6, .int v6_1), (3, .int 1), (0, .ref (G.2.2.1 75)), (1, .int v1), (2, .int v2), (4, .int v4), (5, .int v5), (7, .int v7)]) C 6 rfl (by rw [ev6_1]; rfl) (by rw [hnl]; decide) rfl dX12_crossed_141 ?_
    refine go_goto C 35 rfl dX12_crossed_144 ?_
    refine go_sub [2, 3, 4, 1, 5, 6, 0] rfl ?_
    exact hK35 _ _ _ _ _ _ _ hw
  · replace hw := hw.2 hc
    refine go_iload C 7 rfl dX12_crossed_130 ?_
    refine go_if_eq C 139 rfl dX12_crossed_132 (fun hc => ?_) (fun hc => ?_)
    · replace hw := hw.1 hc
      refine go_iconst (v := 0) C rfl dX12_crossed_139 ?_
      refine go_istore_n (lv2 := [(3, .int 0), (0, .ref (G.2.2.1 75)), (1, .int v1), (2, .int v2), (4, .int v4), (5, .int v5), (6, .int v6), (7, .int v7)]) C rfl (by rw [hnl]; decide) rfl dX12_crossed_140 ?_
      obtain ⟨v6_2, ev6_2⟩ : ∃ z : Int32, z = v6 + 1 := ⟨_, rfl⟩
      replace hw := hw v6_2 ev6_2
      refine go_iinc (v := v6_2) (lv2 := [(6, .int v6_2), (3, .int 0), (0, .ref (G.2.2.1 75)), (1, .int v1), (2, .int v2), (4, .int v4), (5, .int v5), (7, .int v7)]) C 6 rfl (by rw [ev6_2]; rfl) (by rw [hnl]; decide) rfl dX12_crossed_141 ?_
      refine go_goto C 35 rfl dX12_crossed_144 ?_
      refine go_sub [2, 3, 4, 1, 5, 6, 0] rfl ?_
      exact hK35 _ _ _ _ _ _ _ hw
    · replace hw := hw.2 hc
      refine go_iconst (v := 1) C rfl dX12_crossed_135 ?_
      refine go_goto C 140 rfl dX12_crossed_136 ?_
      refine go_istore_n (lv2 := [(3, .int 1), (0, .ref (G.2.2.1 75)), (1, .int v1), (2, .int v2), (4, .int v4), (5, .int v5), (6, .int v6), (7, .int v7)]) C rfl (by rw [hnl]; decide) rfl dX12_crossed_140 ?_
      obtain ⟨v6_3, ev6_3⟩ : ∃ z : Int32, z = v6 + 1 := ⟨_, rfl⟩
      replace hw := hw v6_3 ev6_3
      refine go_iinc (v := v6_3) (lv2 := [(6, .int v6_3), (3, .int 1), (0, .ref (G.2.2.1 75)), (1, .int v1), (2, .int v2), (4, .int v4), (5, .int v5), (7, .int v7)]) C 6 rfl (by rw [ev6_3]; rfl) (by rw [hnl]; decide) rfl dX12_crossed_141 ?_
      refine go_goto C 35 rfl dX12_crossed_144 ?_
      refine go_sub [2, 3, 4, 1, 5, 6, 0] rfl ?_
      exact hK35 _ _ _ _ _ _ _ hw
set_option maxRecDepth 20000 in
set_option maxHeartbeats 4000000 in
theorem gbX12_crossed_70 {X : XT} {G : GT} {l : Launch} {d : Nat}  {post : Int32 → St → Prop} (C : Cx X G cX12_crossed RX12) (hr : Rt X G (some .int) (fun v τ => ∃ r : Int32, v = some (.int r) ∧ post r τ)) (hR : Rm X l d) (hnl : X.2.2.2.2.2.2.2.2.2.2.1 = 8)  (hd : 10 ≤ d) (hN : 119 ≤ G.2.2.2.2.2)  {K35 : Int32 → Int32 → Int32 → Int32 → Int32 → Int32 → St → Prop} (hK35 : ∀ (v1 : Int32) (v2 : Int32) (v3 : Int32) (v4 : Int32) (v5 : Int32) (v6 : Int32) (σ : St), K35 v1 v2 v3 v4 v5 v6 σ → Go X G 35 [(0, .ref (G.2.2.1 75)), (1, .int v1), (2, .int v2), (3, .int v3), (4, .int v4), (5, .int v5), (6, .int v6)] [] σ)
    : ∀ (v1 : Int32) (v2 : Int32) (v3 : Int32) (v4 : Int32) (v5 : Int32) (v6 : Int32) (s0 : Int32) (σ : St), wbX12_crossed_70  K35 post v1 v2 v3 v4 v5 v6 s0 σ → Go X G 70 [(0, .ref (G.2.2.1 75)), (1, .int v1), (2, .int v2), (3, .int v3), (4, .int v4), (5, .int v5), (6, .int v6)] [.int s0] σ := by
  intro v1 v2 v3 v4 v5 v6 s0 σ hw
  have hw : ((v4 = (-1) →
    ((v6 < 0 →
      wbX12_crossed_126 K35 post v1 v2 v3 v4 v5 v6 s0 σ) ∧
    (¬ v6 < 0 →
      ((v3 = 0 →
        wbX12_crossed_126 K35 post v1 v2 v3 v4 v5 v6 s0 σ) ∧
      (¬ v3 = 0 →
        wpX12_all v6 v1 σ (fun r_1 σ_2 =>
        ((r_1 ≤ 0 →
          wbX12_crossed_126 K35 post v1 v2 v3 v4 v5 v6 s0 σ_2) ∧
        (¬ r_1 ≤ 0 →
          ((¬ s0 = 0 →
            wbX12_crossed_126 K35 post v1 v2 v3 v4 v5 v6 s0 σ_2) ∧
          (s0 = 0 →
            wbX12_crossed_126 K35 post v1 v2 v3 v6 v5 v6 s0 σ_2)))))))))) ∧
  (¬ v4 = (-1) →
    ((¬ v5 = 0 →
      wbX12_crossed_126 K35 post v1 v2 v3 v4 1 v6 s0 σ) ∧
    (v5 = 0 →
      ((s0 = 0 →
        wbX12_crossed_126 K35 post v1 v2 v3 v4 0 v6 s0 σ) ∧
      (¬ s0 = 0 →
        wbX12_crossed_126 K35 post v1 v2 v3 v4 1 v6 s0 σ)))))) := hw
  refine go_istore (lv2 := [(7, .int s0), (0, .ref (G.2.2.1 75)), (1, .int v1), (2, .int v2), (3, .int v3), (4, .int v4), (5, .int v5), (6, .int v6)]) C (by rw [hnl]; decide) rfl dX12_crossed_70 ?_
  refine go_iload C 5 rfl dX12_crossed_72 ?_
  refine go_iconst (v := (-1)) C rfl dX12_crossed_74 ?_
  refine go_icmp_eq C 98 rfl dX12_crossed_75 (fun hc => ?_) (fun hc => ?_)
  · replace hw := hw.1 hc
    refine go_iload C 7 rfl dX12_crossed_98 ?_
    refine go_if_lt C 126 rfl dX12_crossed_100 (fun hc => ?_) (fun hc => ?_)
    · replace hw := hw.1 hc
      refine go_sub [1, 2, 3, 4, 5, 6, 7, 0] rfl ?_
      exact (gbX12_crossed_126 C hr hR hnl hd hN hK35) _ _ _ _ _ _ _ _ hw
    · replace hw := hw.2 hc
      refine go_iload_n C 4 rfl rfl dX12_crossed_103 ?_
      refine go_if_eq C 126 rfl dX12_crossed_104 (fun hc => ?_) (fun hc => ?_)
      · replace hw := hw.1 hc
        refine go_sub [1, 2, 3, 4, 5, 6, 7, 0] rfl ?_
        exact (gbX12_crossed_126 C hr hR hnl hd hN hK35) _ _ _ _ _ _ _ _ hw
      · replace hw := hw.2 hc
        refine go_aload_n C 1 rfl rfl dX12_crossed_107 ?_
        refine go_iload C 7 rfl dX12_crossed_108 ?_
        refine go_iload_n C 2 rfl rfl dX12_crossed_110 ?_
        refine go_callV (as := [.int v6, .int v1]) C hR (shX12 G) (ltX12 hN) cwX12_407 (Nat.le_trans (by decide) hd) (by decide) rfl rfl (Nat.le_of_ble_eq_true rfl) dX12_crossed_111 (spX12_all (Nat.le_refl _) hN hw) (fun v_ τ_ hw => ?_)
        obtain ⟨r_1, rfl, hw⟩ := hw
        obtain ⟨σ_2, rfl⟩ : ∃ z, z = τ_ := ⟨_, rfl⟩
        refine go_if_le C 126 rfl dX12_crossed_114 (fun hc => ?_) (fun hc => ?_)
        · replace hw := hw.1 hc
          refine go_sub [1, 2, 3, 4, 5, 6, 7, 0] rfl ?_
          exact (gbX12_crossed_126 C hr hR hnl hd hN hK35) _ _ _ _ _ _ _ _ hw
        · replace hw := hw.2 hc
          refine go_iload C 0 rfl dX12_crossed_117 ?_
          refine go_if_ne C 126 rfl dX12_crossed_119 (fun hc => ?_) (fun hc => ?_)
          · replace hw := hw.1 hc
            refine go_sub [1, 2, 3, 4, 5, 6, 7, 0] rfl ?_
            exact (gbX12_crossed_126 C hr hR hnl hd hN hK35) _ _ _ _ _ _ _ _ hw
          · replace hw := hw.2 hc
            refine go_iload C 7 rfl dX12_crossed_122 ?_
            refine go_istore (lv2 := [(4, .int v6), (7, .int s0), (0, .ref (G.2.2.1 75)), (1, .int v1), (2, .int v2), (3, .int v3), (5, .int v5), (6, .int v6)]) C (by rw [hnl]; decide) rfl dX12_crossed_124 ?_
            refine go_sub [2, 3, 4, 5, 0, 6, 7, 1] rfl ?_
            exact (gbX12_crossed_126 C hr hR hnl hd hN hK35) _ _ _ _ _ _ _ _ hw
  · replace hw := hw.2 hc
    refine go_iload C 6 rfl dX12_crossed_78 ?_
    refine go_if_ne C 88 rfl dX12_crossed_80 (fun hc => ?_) (fun hc => ?_)
    · replace hw := hw.1 hc
      refine go_iconst (v := 1) C rfl dX12_crossed_88 ?_
      refine go_goto C 93 rfl dX12_crossed_89 ?_
      refine go_istore (lv2 := [(5, .int 1), (7, .int s0), (0, .ref (G.2.2.1 75)), (1, .int v1), (2, .int v2), (3, .int v3), (4, .int v4), (6, .int v6)]) C (by rw [hnl]; decide) rfl dX12_crossed_93 ?_
      refine go_goto C 126 rfl dX12_crossed_95 ?_
      refine go_sub [2, 3, 4, 5, 6, 0, 7, 1] rfl ?_
      exact (gbX12_crossed_126 C hr hR hnl hd hN hK35) _ _ _ _ _ _ _ _ hw
    · replace hw := hw.2 hc
      refine go_iload C 0 rfl dX12_crossed_83 ?_
      refine go_if_eq C 92 rfl dX12_crossed_85 (fun hc => ?_) (fun hc => ?_)
      · replace hw := hw.1 hc
        refine go_iconst (v := 0) C rfl dX12_crossed_92 ?_
        refine go_istore (lv2 := [(5, .int 0), (7, .int s0), (0, .ref (G.2.2.1 75)), (1, .int v1), (2, .int v2), (3, .int v3), (4, .int v4), (6, .int v6)]) C (by rw [hnl]; decide) rfl dX12_crossed_93 ?_
        refine go_goto C 126 rfl dX12_crossed_95 ?_
        refine go_sub [2, 3, 4, 5, 6, 0, 7, 1] rfl ?_
        exact (gbX12_crossed_126 C hr hR hnl hd hN hK35) _ _ _ _ _ _ _ _ hw
      · replace hw := hw.2 hc
        refine go_iconst (v := 1) C rfl dX12_crossed_88 ?_
        refine go_goto C 93 rfl dX12_crossed_89 ?_
        refine go_istore (lv2 := [(5, .int 1), (7, .int s0), (0, .ref (G.2.2.1 75)), (1, .int v1), (2, .int v2), (3, .int v3), (4, .int v4), (6, .int v6)]) C (by rw [hnl]; decide) rfl dX12_crossed_93 ?_
        refine go_goto C 126 rfl dX12_crossed_95 ?_
        refine go_sub [2, 3, 4, 5, 6, 0, 7, 1] rfl ?_
        exact (gbX12_crossed_126 C hr hR hnl hd hN hK35) _ _ _ _ _ _ _ _ hw
set_option maxRecDepth 20000 in
set_option maxHeartbeats 4000000 in
theorem gbX12_crossed_35 {X : XT} {G : GT} {l : Launch} {d : Nat}  {post : Int32 → St → Prop} (C : Cx X G cX12_crossed RX12) (hr : Rt X G (some .int) (fun v τ => ∃ r : Int32, v = some (.int r) ∧ post r τ)) (hR : Rm X l d) (hnl : X.2.2.2.2.2.2.2.2.2.2.1 = 8)  (hd : 10 ≤ d) (hN : 119 ≤ G.2.2.2.2.2)   
    : ∀ (n : Nat) (v1 : Int32) (v2 : Int32) (v3 : Int32) (v4 : Int32) (v5 : Int32) (v6 : Int32) (σ : St), wbX12_crossed_35   post n v1 v2 v3 v4 v5 v6 σ → Go X G 35 [(0, .ref (G.2.2.1 75)), (1, .int v1), (2, .int v2), (3, .int v3), (4, .int v4), (5, .int v5), (6, .int v6)] [] σ := by
  intro n
  induction n with
  | zero => intro v1 v2 v3 v4 v5 v6 σ hw; exact hw.elim
  | succ n ih =>
    intro v1 v2 v3 v4 v5 v6 σ hw
    have hw : vp_in 0 9680 ∧ (
    (((gI σ 76 (0 : Int32).toNatClampNeg) ≤ v6 →
      ((v4 = (-1) →
        post v4 σ) ∧
      (¬ v4 = (-1) →
        ((¬ v2 = 0 →
          ((v5 = 0 →
            post 0 σ) ∧
          (¬ v5 = 0 →
            post 1 σ))) ∧
        (v2 = 0 →
          post v4 σ))))) ∧
    (¬ (gI σ 76 (0 : Int32).toNatClampNeg) ≤ v6 →
      wpX12_ofSex v6 1 v1 σ (fun r_1 σ_2 =>
      wpX12_ofSex v6 0 v1 σ_2 (fun r_3 σ_4 =>
      ((r_1 ≤ r_3 →
        wbX12_crossed_70 (wbX12_crossed_35 post n) post v1 v2 v3 v4 v5 v6 0 σ_4) ∧
      (¬ r_1 ≤ r_3 →
        wbX12_crossed_70 (wbX12_crossed_35 post n) post v1 v2 v3 v4 v5 v6 1 σ_4))))))) := hw
    refine go_iload C 6 rfl dX12_crossed_35 ?_
    refine go_aload_n C 0 rfl rfl dX12_crossed_37 ?_
    refine go_get (v := .ref (G.2.2.1 76)) C (shX12 G) (ltX12 hN) lkX12_7 rfl dX12_crossed_38 ?_
    refine go_iconst (v := 0) C rfl dX12_crossed_41 ?_
    refine go_iald C (saX12_a G) (laX12_a hN) hw.1 dX12_crossed_42 ?_
    replace hw := hw.2
    refine go_icmp_ge C 147 rfl dX12_crossed_43 (fun hc => ?_) (fun hc => ?_)
    · replace hw := hw.1 hc
      refine go_iload C 4 rfl dX12_crossed_147 ?_
      refine go_iconst (v := (-1)) C rfl dX12_crossed_149 ?_
      refine go_icmp_eq C 157 rfl dX12_crossed_150 (fun hc => ?_) (fun hc => ?_)
      · replace hw := hw.1 hc
        refine go_iload C 4 rfl dX12_crossed_157 ?_
        refine go_goto C 172 rfl dX12_crossed_159 ?_
        exact go_iret C hr ⟨_, rfl, hw⟩ dX12_crossed_172
      · replace hw := hw.2 hc
        refine go_iload_n C 2 rfl rfl dX12_crossed_153 ?_
        refine go_if_ne C 162 rfl dX12_crossed_154 (fun hc => ?_) (fun hc => ?_)
        · replace hw := hw.1 hc
          refine go_iload C 5 rfl dX12_crossed_162 ?_
          refine go_if_eq C 171 rfl dX12_crossed_164 (fun hc => ?_) (fun hc => ?_)
          · replace hw := hw.1 hc
            refine go_iconst (v := 0) C rfl dX12_crossed_171 ?_
            exact go_iret C hr ⟨_, rfl, hw⟩ dX12_crossed_172
          · replace hw := hw.2 hc
            refine go_iconst (v := 1) C rfl dX12_crossed_167 ?_
            refine go_goto C 172 rfl dX12_crossed_168 ?_
            exact go_iret C hr ⟨_, rfl, hw⟩ dX12_crossed_172
        · replace hw := hw.2 hc
          refine go_iload C 4 rfl dX12_crossed_157 ?_
          refine go_goto C 172 rfl dX12_crossed_159 ?_
          exact go_iret C hr ⟨_, rfl, hw⟩ dX12_crossed_172
    · replace hw := hw.2 hc
      refine go_aload_n C 0 rfl rfl dX12_crossed_46 ?_
      refine go_iload C 6 rfl dX12_crossed_47 ?_
      refine go_iconst (v := 1) C rfl dX12_crossed_49 ?_
      refine go_iload_n C 1 rfl rfl dX12_crossed_50 ?_
      refine go_callV (as := [.int v6, .int 1, .int v1]) C hR (shX12 G) (ltX12 hN) cwX12_497 (Nat.le_trans (by decide) hd) (by decide) rfl rfl (Nat.le_of_ble_eq_true rfl) dX12_crossed_51 (spX12_ofSex (Nat.le_refl _) hN hw) (fun v_ τ_ hw => ?_)
      obtain ⟨r_1, rfl, hw⟩ := hw
      obtain ⟨σ_2, rfl⟩ : ∃ z, z = τ_ := ⟨_, rfl⟩
      refine go_aload_n C 0 rfl rfl dX12_crossed_54 ?_
      refine go_iload C 6 rfl dX12_crossed_55 ?_
      refine go_iconst (v := 0) C rfl dX12_crossed_57 ?_
      refine go_iload_n C 1 rfl rfl dX12_crossed_58 ?_
      refine go_callV (as := [.int v6, .int 0, .int v1]) C hR (shX12 G) (ltX12 hN) cwX12_497 (Nat.le_trans (by decide) hd) (by decide) rfl rfl (Nat.le_of_ble_eq_true rfl) dX12_crossed_59 (spX12_ofSex (Nat.le_refl _) hN hw) (fun v_ τ_ hw => ?_)
      obtain ⟨r_3, rfl, hw⟩ := hw
      obtain ⟨σ_4, rfl⟩ : ∃ z, z = τ_ := ⟨_, rfl⟩
      refine go_icmp_le C 69 rfl dX12_crossed_62 (fun hc => ?_) (fun hc => ?_)
      · replace hw := hw.1 hc
        refine go_iconst (v := 0) C rfl dX12_crossed_69 ?_
        exact (gbX12_crossed_70 C hr hR hnl hd hN ih) _ _ _ _ _ _ _ _ hw
      · replace hw := hw.2 hc
        refine go_iconst (v := 1) C rfl dX12_crossed_65 ?_
        refine go_goto C 70 rfl dX12_crossed_66 ?_
        exact (gbX12_crossed_70 C hr hR hnl hd hN ih) _ _ _ _ _ _ _ _ hw
set_option maxRecDepth 20000 in
set_option maxHeartbeats 4000000 in
theorem spX12_crossed {l : Launch} {G : GT} {d : Nat}  (hd : 10 ≤ d)  (hN : 119 ≤ G.2.2.2.2.2)  {a1 : Int32} {a2 : Int32} {σ : St} {post : Int32 → St → Prop} (hw : wpX12_crossed  a1 a2 σ post) : Sp l G d yX12_crossed cX12_crossed 8 (some .int) [.ref (G.2.2.1 75), .int a1, .int a2] σ (fun v τ => ∃ r : Int32, v = some (.int r) ∧ post r τ) := by
  refine Sp.of (by decide) (Nat.le_of_ble_eq_true rfl) fun X C hr hR hnl => ?_
  show Go X G 0 [(0, .ref (G.2.2.1 75)), (1, .int a1), (2, .int a2)] [] σ
  have hw : wpX12_isName a1 σ (fun r_1 σ_2 =>
  ((r_1 = 0 →
    post (-1) σ_2) ∧
  (¬ r_1 = 0 →
    wpX12_in a2 0 1 σ_2 (fun r_3 σ_4 =>
    ((¬ r_3 = 0 →
      wpX12_runsAll  σ_4 (fun σ_6 =>
      ∃ m_35, wbX12_crossed_35 post m_35 a1 a2 0 (-1) 0 (-40) σ_6)) ∧
    (r_3 = 0 →
      post (-1) σ_4)))))) := hw
  refine go_aload_n C 0 rfl rfl dX12_crossed_0 ?_
  refine go_iload_n C 1 rfl rfl dX12_crossed_1 ?_
  refine go_callV (as := [.int a1]) C hR (shX12 G) (ltX12 hN) cwX12_182 (Nat.le_trans (by decide) hd) (by decide) rfl rfl (Nat.le_of_ble_eq_true rfl) dX12_crossed_2 (spX12_isName (Nat.le_refl _) hN hw) (fun v_ τ_ hw => ?_)
  obtain ⟨r_1, rfl, hw⟩ := hw
  obtain ⟨σ_2, rfl⟩ : ∃ z, z = τ_ := ⟨_, rfl⟩
  refine go_if_eq C 17 rfl dX12_crossed_5 (fun hc => ?_) (fun hc => ?_)
  · replace hw := hw.1 hc
    refine go_iconst (v := (-1)) C rfl dX12_crossed_17 ?_
    exact go_iret C hr ⟨_, rfl, hw⟩ dX12_crossed_18
  · replace hw := hw.2 hc
    refine go_iload_n C 2 rfl rfl dX12_crossed_8 ?_
    refine go_iconst (v := 0) C rfl dX12_crossed_9 ?_
    refine go_iconst (v := 1) C rfl dX12_crossed_10 ?_
    refine go_callS (as := [.int a2, .int 0, .int 1]) C hR cwX12_152 (Nat.le_trans (by decide) hd) (by decide) rfl rfl (Nat.le_of_ble_eq_true rfl) dX12_crossed_11 (spX12_in (Nat.le_refl _) hN hw) (fun v_ τ_ hw => ?_)
    obtain ⟨r_3, rfl, hw⟩ := hw
    obtain ⟨σ_4, rfl⟩ : ∃ z, z = τ_ := ⟨_, rfl⟩
    refine go_if_ne C 19 rfl dX12_crossed_14 (fun hc => ?_) (fun hc => ?_)
    · replace hw := hw.1 hc
      refine go_aload_n C 0 rfl rfl dX12_crossed_19 ?_
      refine go_callV (as := []) C hR (shX12 G) (ltX12 hN) cwX12_464 (Nat.le_trans (by decide) hd) (by decide) rfl rfl (Nat.le_of_ble_eq_true rfl) dX12_crossed_20 (spX12_runsAll (Nat.le_refl _) hN hw) (fun v_ τ_ hw => ?_)
      obtain ⟨rfl, hw⟩ := hw
      obtain ⟨σ_6, rfl⟩ : ∃ z, z = τ_ := ⟨_, rfl⟩
      refine go_iconst (v := 0) C rfl dX12_crossed_23 ?_
      refine go_istore_n (lv2 := [(3, .int 0), (0, .ref (G.2.2.1 75)), (1, .int a1), (2, .int a2)]) C rfl (by rw [hnl]; decide) rfl dX12_crossed_24 ?_
      refine go_iconst (v := (-1)) C rfl dX12_crossed_25 ?_
      refine go_istore (lv2 := [(4, .int (-1)), (3, .int 0), (0, .ref (G.2.2.1 75)), (1, .int a1), (2, .int a2)]) C (by rw [hnl]; decide) rfl dX12_crossed_26 ?_
      refine go_iconst (v := 0) C rfl dX12_crossed_28 ?_
      refine go_istore (lv2 := [(5, .int 0), (4, .int (-1)), (3, .int 0), (0, .ref (G.2.2.1 75)), (1, .int a1), (2, .int a2)]) C (by rw [hnl]; decide) rfl dX12_crossed_29 ?_
      refine go_bipush (v := (-40)) C rfl dX12_crossed_31 ?_
      refine go_istore (lv2 := [(6, .int (-40)), (5, .int 0), (4, .int (-1)), (3, .int 0), (0, .ref (G.2.2.1 75)), (1, .int a1), (2, .int a2)]) C (by rw [hnl]; decide) rfl dX12_crossed_33 ?_
      refine go_sub [4, 5, 6, 3, 2, 1, 0] rfl ?_
      obtain ⟨n_0, hw⟩ := hw
      exact (gbX12_crossed_35 C hr hR hnl hd hN) n_0 _ _ _ _ _ _ _ hw
    · replace hw := hw.2 hc
      refine go_iconst (v := (-1)) C rfl dX12_crossed_17 ?_
      exact go_iret C hr ⟨_, rfl, hw⟩ dX12_crossed_18
