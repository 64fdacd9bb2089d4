-- java/lang/String.isLatin1()Z
set_option maxRecDepth 20000 in
set_option maxHeartbeats 4000000 in
theorem spJ0_isLatin1_aae02 {l : Launch} {G : GT} {d : Nat}  (hd : 1 ≤ d) {j0 : Nat} (hj0 : j0 < 4)  {σ : St} {post : Int32 → St → Prop} (hw : wpJ0_isLatin1_aae02 j0  σ post) : Sp l G d yJ0_isLatin1_aae02 cJ0_isLatin1_aae02 1 (some .boolean) [.ref (G.2.2.2.1 j0)] σ (fun v τ => ∃ r : Int32, v = some (.int r) ∧ post r τ) := by
  refine Sp.of (by decide) (Nat.le_of_ble_eq_true rfl) fun X C hr hR hnl => ?_
  show Go X G 0 [(0, .ref (G.2.2.2.1 j0))] [] σ
  have hw : (((1 : Int32) = 0 →
    post 0 σ) ∧
  (¬ (1 : Int32) = 0 →
    ((¬ (0 : Int32) = 0 →
      post 0 σ) ∧
    ((0 : Int32) = 0 →
      post 1 σ)))) := hw
  refine go_scmp C ls_COMPACT_STRINGS dJ0_isLatin1_aae02_0 ?_
  refine go_if_eq C 17 rfl dJ0_isLatin1_aae02_3 (fun hc => ?_) (fun hc => ?_)
  · replace hw := hw.1 hc
    refine go_iconst (v := 0) C rfl dJ0_isLatin1_aae02_17 ?_
    exact go_zret C hr rfl ⟨_, rfl, hw⟩ dJ0_isLatin1_aae02_18
  · replace hw := hw.2 hc
    refine go_aload_n C 0 rfl rfl dJ0_isLatin1_aae02_6 ?_
    refine go_scod C hj0 ls_coder dJ0_isLatin1_aae02_7 ?_
    refine go_if_ne C 17 rfl dJ0_isLatin1_aae02_10 (fun hc => ?_) (fun hc => ?_)
    · replace hw := hw.1 hc
      refine go_iconst (v := 0) C rfl dJ0_isLatin1_aae02_17 ?_
      exact go_zret C hr rfl ⟨_, rfl, hw⟩ dJ0_isLatin1_aae02_18
    · replace hw := hw.2 hc
      refine go_iconst (v := 1) C rfl dJ0_isLatin1_aae02_13 ?_
      refine go_goto C 18 rfl dJ0_isLatin1_aae02_14 ?_
      exact go_zret C hr rfl ⟨_, rfl, hw⟩ dJ0_isLatin1_aae02_18
-- java/lang/String.coder()B
set_option maxRecDepth 20000 in
set_option maxHeartbeats 4000000 in
theorem spJ0_coder_7d493 {l : Launch} {G : GT} {d : Nat}  (hd : 1 ≤ d) {j0 : Nat} (hj0 : j0 < 4)  {σ : St} {post : Int32 → St → Prop} (hw : wpJ0_coder_7d493 j0  σ post) : Sp l G d yJ0_coder_7d493 cJ0_coder_7d493 1 (some .byte) [.ref (G.2.2.2.1 j0)] σ (fun v τ => ∃ r : Int32, v = some (.int r) ∧ post r τ) := by
  refine Sp.of (by decide) (Nat.le_of_ble_eq_true rfl) fun X C hr hR hnl => ?_
  show Go X G 0 [(0, .ref (G.2.2.2.1 j0))] [] σ
  have hw : (((1 : Int32) = 0 →
    narrow .byte (.int 1) = .int 1 ∧ post 1 σ) ∧
  (¬ (1 : Int32) = 0 →
    narrow .byte (.int 0) = .int 0 ∧ post 0 σ)) := hw
  refine go_scmp C ls_COMPACT_STRINGS dJ0_coder_7d493_0 ?_
  refine go_if_eq C 13 rfl dJ0_coder_7d493_3 (fun hc => ?_) (fun hc => ?_)
  · replace hw := hw.1 hc
    refine go_iconst (v := 1) C rfl dJ0_coder_7d493_13 ?_
    exact go_zret C hr hw.1 ⟨_, rfl, hw.2⟩ dJ0_coder_7d493_14
  · replace hw := hw.2 hc
    refine go_aload_n C 0 rfl rfl dJ0_coder_7d493_6 ?_
    refine go_scod C hj0 ls_coder dJ0_coder_7d493_7 ?_
    refine go_goto C 14 rfl dJ0_coder_7d493_10 ?_
    exact go_zret C hr hw.1 ⟨_, rfl, hw.2⟩ dJ0_coder_7d493_14
-- java/lang/String.length()I
set_option maxRecDepth 20000 in
set_option maxHeartbeats 4000000 in
theorem spJ0_length_8abf5 {l : Launch} {G : GT} {d : Nat}  (hd : 2 ≤ d) {j0 : Nat} (hj0 : j0 < 4)  {σ : St} {post : Int32 → St → Prop} (hw : wpJ0_length_8abf5 j0  σ post) : Sp l G d yJ0_length_8abf5 cJ0_length_8abf5 1 (some .int) [.ref (G.2.2.2.1 j0)] σ (fun v τ => ∃ r : Int32, v = some (.int r) ∧ post r τ) := by
  refine Sp.of (by decide) (Nat.le_of_ble_eq_true rfl) fun X C hr hR hnl => ?_
  show Go X G 0 [(0, .ref (G.2.2.2.1 j0))] [] σ
  have hw : wpJ0_coder_7d493 j0 σ (fun r_1 σ_2 =>
  post ((Int32.ofNat (sLen.getD j0 0)) >>> (r_1 &&& 31)) σ_2) := hw
  refine go_aload_n C 0 rfl rfl dJ0_length_8abf5_0 ?_
  refine go_sval C hj0 ls_value dJ0_length_8abf5_1 ?_
  refine go_sblen C hj0 dJ0_length_8abf5_4 ?_
  refine go_aload_n C 0 rfl rfl dJ0_length_8abf5_5 ?_
  refine go_callT (as := []) C hR hj0 cwJ0_335 (Nat.le_trans (by decide) hd) (by decide) rfl rfl (Nat.le_of_ble_eq_true rfl) dJ0_length_8abf5_6 (spJ0_coder_7d493 (Nat.le_refl _) hj0 hw) (fun v_ τ_ hw => ?_)
  obtain ⟨r_1, rfl, hw⟩ := hw
  obtain ⟨σ_2, rfl⟩ : ∃ z, z = τ_ := ⟨_, rfl⟩
  refine go_ishr C dJ0_length_8abf5_9 ?_
  exact go_iret C hr ⟨_, rfl, hw⟩ dJ0_length_8abf5_10
-- java/lang/StringLatin1.canEncode(I)Z
set_option maxRecDepth 20000 in
set_option maxHeartbeats 4000000 in
theorem spJ1_canEncode_9a6ad {l : Launch} {G : GT} {d : Nat}  (hd : 1 ≤ d)   {a1 : Int32} {σ : St} {post : Int32 → St → Prop} (hw : wpJ1_canEncode_9a6ad  a1 σ post) : Sp l G d yJ1_canEncode_9a6ad cJ1_canEncode_9a6ad 1 (some .boolean) [.int a1] σ (fun v τ => ∃ r : Int32, v = some (.int r) ∧ post r τ) := by
  refine Sp.of (by decide) (Nat.le_of_ble_eq_true rfl) fun X C hr hR hnl => ?_
  show Go X G 0 [(0, .int a1)] [] σ
  have hw : ((a1 < 0 →
    post 0 σ) ∧
  (¬ a1 < 0 →
    ((255 < a1 →
      post 0 σ) ∧
    (¬ 255 < a1 →
      post 1 σ)))) := hw
  refine go_iload_n C 0 rfl rfl dJ1_canEncode_9a6ad_0 ?_
  refine go_if_lt C 15 rfl dJ1_canEncode_9a6ad_1 (fun hc => ?_) (fun hc => ?_)
  · replace hw := hw.1 hc
    refine go_iconst (v := 0) C rfl dJ1_canEncode_9a6ad_15 ?_
    exact go_zret C hr rfl ⟨_, rfl, hw⟩ dJ1_canEncode_9a6ad_16
  · replace hw := hw.2 hc
    refine go_iload_n C 0 rfl rfl dJ1_canEncode_9a6ad_4 ?_
    refine go_sipush (v := 255) C rfl dJ1_canEncode_9a6ad_5 ?_
    refine go_icmp_gt C 15 rfl dJ1_canEncode_9a6ad_8 (fun hc => ?_) (fun hc => ?_)
    · replace hw := hw.1 hc
      refine go_iconst (v := 0) C rfl dJ1_canEncode_9a6ad_15 ?_
      exact go_zret C hr rfl ⟨_, rfl, hw⟩ dJ1_canEncode_9a6ad_16
    · replace hw := hw.2 hc
      refine go_iconst (v := 1) C rfl dJ1_canEncode_9a6ad_11 ?_
      refine go_goto C 16 rfl dJ1_canEncode_9a6ad_12 ?_
      exact go_zret C hr rfl ⟨_, rfl, hw⟩ dJ1_canEncode_9a6ad_16
-- java/lang/StringLatin1.indexOfChar([BIII)I
set_option maxRecDepth 20000 in
set_option maxHeartbeats 4000000 in
theorem gbJ1_indexOfChar_4cfef_7 {X : XT} {G : GT} {l : Launch} {d : Nat} {j1 : Nat} {post : Int32 → St → Prop} (C : Cx X G cJ1_indexOfChar_4cfef RJ1) (hr : Rt X G (some .int) (fun v τ => ∃ r : Int32, v = some (.int r) ∧ post r τ)) (hR : Rm X l d) (hnl : X.2.2.2.2.2.2.2.2.2.2.1 = 6)  (hd : 1 ≤ d) (hj1 : j1 < 4)  
    : ∀ (n : Nat) (v3 : Int32) (v4 : Int32) (v5 : Int32) (σ : St), wbJ1_indexOfChar_4cfef_7 j1  post n v3 v4 v5 σ → Go X G 7 [(0, .ref (G.2.2.2.2.1 j1)), (3, .int v3), (4, .int v4), (5, .int v5)] [] σ := by
  intro n
  induction n with
  | zero => intro v3 v4 v5 σ hw; exact hw.elim
  | succ n ih =>
    intro v3 v4 v5 σ hw
    have hw : ((v3 ≤ v5 →
      post (-1) σ) ∧
    (¬ v3 ≤ v5 →
      vp_in v5 (sLen.getD j1 0) ∧ (
      ((¬ ((sByt.getD j1 []).getD v5.toNatClampNeg 0) = v4 →
        ∀ v5_1 : Int32, v5_1 = v5 + 1 →
        wbJ1_indexOfChar_4cfef_7 j1 post n v3 v4 v5_1 σ) ∧
      (((sByt.getD j1 []).getD v5.toNatClampNeg 0) = v4 →
        post v5 σ))))) := hw
    refine go_iload C 3 rfl dJ1_indexOfChar_4cfef_7 ?_
    refine go_iload_n C 1 rfl rfl dJ1_indexOfChar_4cfef_9 ?_
    refine go_icmp_ge C 31 rfl dJ1_indexOfChar_4cfef_10 (fun hc => ?_) (fun hc => ?_)
    · replace hw := hw.1 hc
      refine go_iconst (v := (-1)) C rfl dJ1_indexOfChar_4cfef_31 ?_
      exact go_iret C hr ⟨_, rfl, hw⟩ dJ1_indexOfChar_4cfef_32
    · replace hw := hw.2 hc
      refine go_aload_n C 0 rfl rfl dJ1_indexOfChar_4cfef_13 ?_
      refine go_iload C 3 rfl dJ1_indexOfChar_4cfef_14 ?_
      refine go_sbald C hj1 hw.1 dJ1_indexOfChar_4cfef_16 ?_
      replace hw := hw.2
      refine go_iload C 2 rfl dJ1_indexOfChar_4cfef_17 ?_
      refine go_icmp_ne C 25 rfl dJ1_indexOfChar_4cfef_19 (fun hc => ?_) (fun hc => ?_)
      · replace hw := hw.1 hc
        obtain ⟨v5_1, ev5_1⟩ : ∃ z : Int32, z = v5 + 1 := ⟨_, rfl⟩
        replace hw := hw v5_1 ev5_1
        refine go_iinc (v := v5_1) (lv2 := [(5, .int v5_1), (0, .ref (G.2.2.2.2.1 j1)), (3, .int v3), (4, .int v4)]) C 3 rfl (by rw [ev5_1]; rfl) (by rw [hnl]; decide) rfl dJ1_indexOfChar_4cfef_25 ?_
        refine go_goto C 7 rfl dJ1_indexOfChar_4cfef_28 ?_
        refine go_sub [1, 2, 3, 0] rfl ?_
        exact ih _ _ _ _ hw
      · replace hw := hw.2 hc
        refine go_iload C 3 rfl dJ1_indexOfChar_4cfef_22 ?_
        exact go_iret C hr ⟨_, rfl, hw⟩ dJ1_indexOfChar_4cfef_24
set_option maxRecDepth 20000 in
set_option maxHeartbeats 4000000 in
theorem spJ1_indexOfChar_4cfef {l : Launch} {G : GT} {d : Nat}  (hd : 1 ≤ d) {j1 : Nat} (hj1 : j1 < 4) {a2 : Int32} {a3 : Int32} {a4 : Int32} {σ : St} {post : Int32 → St → Prop} (hw : wpJ1_indexOfChar_4cfef j1 a2 a3 a4 σ post) : Sp l G d yJ1_indexOfChar_4cfef cJ1_indexOfChar_4cfef 6 (some .int) [.ref (G.2.2.2.2.1 j1), .int a2, .int a3, .int a4] σ (fun v τ => ∃ r : Int32, v = some (.int r) ∧ post r τ) := by
  refine Sp.of (by decide) (Nat.le_of_ble_eq_true rfl) fun X C hr hR hnl => ?_
  show Go X G 0 [(0, .ref (G.2.2.2.2.1 j1)), (1, .int a2), (2, .int a3), (3, .int a4)] [] σ
  have hw : ∀ v4_1 : Int32, v4_1 = a2.toInt8.toInt32 →
  ∃ m_7, wbJ1_indexOfChar_4cfef_7 j1 post m_7 a4 v4_1 a3 σ := hw
  refine go_iload_n C 1 rfl rfl dJ1_indexOfChar_4cfef_0 ?_
  refine go_i2b C dJ1_indexOfChar_4cfef_1 ?_
  refine go_topi (fun v4_1 ev4_1 => ?_)
  replace hw := hw v4_1 ev4_1
  refine go_istore (lv2 := [(4, .int v4_1), (0, .ref (G.2.2.2.2.1 j1)), (1, .int a2), (2, .int a3), (3, .int a4)]) C (by rw [hnl]; decide) rfl dJ1_indexOfChar_4cfef_2 ?_
  refine go_iload_n C 3 rfl rfl dJ1_indexOfChar_4cfef_4 ?_
  refine go_istore (lv2 := [(5, .int a3), (4, .int v4_1), (0, .ref (G.2.2.2.2.1 j1)), (1, .int a2), (2, .int a3), (3, .int a4)]) C (by rw [hnl]; decide) rfl dJ1_indexOfChar_4cfef_5 ?_
  refine go_sub [2, 5, 1, 0] rfl ?_
  obtain ⟨n_0, hw⟩ := hw
  exact (gbJ1_indexOfChar_4cfef_7 C hr hR hnl hd hj1) n_0 _ _ _ _ hw
-- java/lang/StringLatin1.indexOf([BIII)I
set_option maxRecDepth 20000 in
set_option maxHeartbeats 4000000 in
theorem spJ1_indexOf_4cfef {l : Launch} {G : GT} {d : Nat}  (hd : 2 ≤ d) {j1 : Nat} (hj1 : j1 < 4) {a2 : Int32} {a3 : Int32} {a4 : Int32} {σ : St} {post : Int32 → St → Prop} (hw : wpJ1_indexOf_4cfef j1 a2 a3 a4 σ post) : Sp l G d yJ1_indexOf_4cfef cJ1_indexOf_4cfef 4 (some .int) [.ref (G.2.2.2.2.1 j1), .int a2, .int a3, .int a4] σ (fun v τ => ∃ r : Int32, v = some (.int r) ∧ post r τ) := by
  refine Sp.of (by decide) (Nat.le_of_ble_eq_true rfl) fun X C hr hR hnl => ?_
  show Go X G 0 [(0, .ref (G.2.2.2.2.1 j1)), (1, .int a2), (2, .int a3), (3, .int a4)] [] σ
  have hw : wpJ1_canEncode_9a6ad a2 σ (fun r_1 σ_2 =>
  ((¬ r_1 = 0 →
    ∀ v2_3 : Int32, v2_3 = (if a3 < 0 then 0 else a3) →
    ∀ v3_4 : Int32, v3_4 = (if (Int32.ofNat (sLen.getD j1 0)) < a4 then (Int32.ofNat (sLen.getD j1 0)) else a4) →
    ((v2_3 < v3_4 →
      wpJ1_indexOfChar_4cfef j1 a2 v2_3 v3_4 σ_2 (fun r_5 σ_6 =>
      post r_5 σ_6)) ∧
    (¬ v2_3 < v3_4 →
      post (-1) σ_2))) ∧
  (r_1 = 0 →
    post (-1) σ_2))) := hw
  refine go_iload_n C 1 rfl rfl dJ1_indexOf_4cfef_0 ?_
  refine go_callS (as := [.int a2]) C hR cwJ1_88 (Nat.le_trans (by decide) hd) (by decide) rfl rfl (Nat.le_of_ble_eq_true rfl) dJ1_indexOf_4cfef_1 (spJ1_canEncode_9a6ad (Nat.le_refl _) hw) (fun v_ τ_ hw => ?_)
  obtain ⟨r_1, rfl, hw⟩ := hw
  obtain ⟨σ_2, rfl⟩ : ∃ z, z = τ_ := ⟨_, rfl⟩
  refine go_if_ne C 9 rfl dJ1_indexOf_4cfef_4 (fun hc => ?_) (fun hc => ?_)
  · replace hw := hw.1 hc
    refine go_iload_n C 2 rfl rfl dJ1_indexOf_4cfef_9 ?_
    refine go_iconst (v := 0) C rfl dJ1_indexOf_4cfef_10 ?_
    refine go_mmax (d := 0) C (rm_le hR (Nat.le_trans (by decide) hd)) mlJ1_92 (Nat.le_of_ble_eq_true rfl) dJ1_indexOf_4cfef_11 ?_
    refine go_topi (fun v2_3 ev2_3 => ?_)
    replace hw := hw v2_3 ev2_3
    refine go_istore_n (lv2 := [(2, .int v2_3), (0, .ref (G.2.2.2.2.1 j1)), (1, .int a2), (3, .int a4)]) C rfl (by rw [hnl]; decide) rfl dJ1_indexOf_4cfef_14 ?_
    refine go_iload_n C 3 rfl rfl dJ1_indexOf_4cfef_15 ?_
    refine go_aload_n C 1 rfl rfl dJ1_indexOf_4cfef_16 ?_
    refine go_sblen C hj1 dJ1_indexOf_4cfef_17 ?_
    refine go_mmin (d := 0) C (rm_le hR (Nat.le_trans (by decide) hd)) mlJ1_38 (Nat.le_of_ble_eq_true rfl) dJ1_indexOf_4cfef_18 ?_
    refine go_topi (fun v3_4 ev3_4 => ?_)
    replace hw := hw v3_4 ev3_4
    refine go_istore_n (lv2 := [(3, .int v3_4), (2, .int v2_3), (0, .ref (G.2.2.2.2.1 j1)), (1, .int a2)]) C rfl (by rw [hnl]; decide) rfl dJ1_indexOf_4cfef_21 ?_
    refine go_iload_n C 1 rfl rfl dJ1_indexOf_4cfef_22 ?_
    refine go_iload_n C 0 rfl rfl dJ1_indexOf_4cfef_23 ?_
    refine go_icmp_lt C 29 rfl dJ1_indexOf_4cfef_24 (fun hc => ?_) (fun hc => ?_)
    · replace hw := hw.1 hc
      refine go_aload_n C 2 rfl rfl dJ1_indexOf_4cfef_29 ?_
      refine go_iload_n C 3 rfl rfl dJ1_indexOf_4cfef_30 ?_
      refine go_iload_n C 1 rfl rfl dJ1_indexOf_4cfef_31 ?_
      refine go_iload_n C 0 rfl rfl dJ1_indexOf_4cfef_32 ?_
      refine go_callS (as := [.ref (G.2.2.2.2.1 j1), .int a2, .int v2_3, .int v3_4]) C hR cwJ1_95 (Nat.le_trans (by decide) hd) (by decide) rfl rfl (Nat.le_of_ble_eq_true rfl) dJ1_indexOf_4cfef_33 (spJ1_indexOfChar_4cfef (Nat.le_refl _) hj1 hw) (fun v_ τ_ hw => ?_)
      obtain ⟨r_5, rfl, hw⟩ := hw
      obtain ⟨σ_6, rfl⟩ : ∃ z, z = τ_ := ⟨_, rfl⟩
      exact go_iret C hr ⟨_, rfl, hw⟩ dJ1_indexOf_4cfef_36
    · replace hw := hw.2 hc
      refine go_iconst (v := (-1)) C rfl dJ1_indexOf_4cfef_27 ?_
      exact go_iret C hr ⟨_, rfl, hw⟩ dJ1_indexOf_4cfef_28
  · replace hw := hw.2 hc
    refine go_iconst (v := (-1)) C rfl dJ1_indexOf_4cfef_7 ?_
    exact go_iret C hr ⟨_, rfl, hw⟩ dJ1_indexOf_4cfef_8
-- java/lang/String.indexOf(II)I
set_option maxRecDepth 20000 in
set_option maxHeartbeats 4000000 in
theorem spJ0_indexOf_7cf53 {l : Launch} {G : GT} {d : Nat}  (hd : 3 ≤ d) {j0 : Nat} (hj0 : j0 < 4) {a1 : Int32} {a2 : Int32} {σ : St} {post : Int32 → St → Prop} (hw : wpJ0_indexOf_7cf53 j0 a1 a2 σ post) : Sp l G d yJ0_indexOf_7cf53 cJ0_indexOf_7cf53 3 (some .int) [.ref (G.2.2.2.1 j0), .int a1, .int a2] σ (fun v τ => ∃ r : Int32, v = some (.int r) ∧ post r τ) := by
  refine Sp.of (by decide) (Nat.le_of_ble_eq_true rfl) fun X C hr hR hnl => ?_
  show Go X G 0 [(0, .ref (G.2.2.2.1 j0)), (1, .int a1), (2, .int a2)] [] σ
  have hw : wpJ0_isLatin1_aae02 j0 σ (fun r_1 σ_2 =>
  ((r_1 = 0 →
    wpJ0_length_8abf5 j0 σ_2 (fun r_3 σ_4 =>
    False)) ∧
  (¬ r_1 = 0 →
    wpJ0_length_8abf5 j0 σ_2 (fun r_5 σ_6 =>
    wpJ1_indexOf_4cfef j0 a1 a2 r_5 σ_6 (fun r_7 σ_8 =>
    post r_7 σ_8))))) := hw
  refine go_aload_n C 0 rfl rfl dJ0_indexOf_7cf53_0 ?_
  refine go_callT (as := []) C hR hj0 cwJ0_492 (Nat.le_trans (by decide) hd) (by decide) rfl rfl (Nat.le_of_ble_eq_true rfl) dJ0_indexOf_7cf53_1 (spJ0_isLatin1_aae02 (Nat.le_refl _) hj0 hw) (fun v_ τ_ hw => ?_)
  obtain ⟨r_1, rfl, hw⟩ := hw
  obtain ⟨σ_2, rfl⟩ : ∃ z, z = τ_ := ⟨_, rfl⟩
  refine go_if_eq C 23 rfl dJ0_indexOf_7cf53_4 (fun hc => ?_) (fun hc => ?_)
  · replace hw := hw.1 hc
    refine go_aload_n C 0 rfl rfl dJ0_indexOf_7cf53_23 ?_
    refine go_sval C hj0 ls_value dJ0_indexOf_7cf53_24 ?_
    refine go_iload_n C 1 rfl rfl dJ0_indexOf_7cf53_27 ?_
    refine go_iload_n C 2 rfl rfl dJ0_indexOf_7cf53_28 ?_
    refine go_aload_n C 0 rfl rfl dJ0_indexOf_7cf53_29 ?_
    refine go_callT (as := []) C hR hj0 cwJ0_505 (Nat.le_trans (by decide) hd) (by decide) rfl rfl (Nat.le_of_ble_eq_true rfl) dJ0_indexOf_7cf53_30 (spJ0_length_8abf5 (Nat.le_refl _) hj0 hw) (fun v_ τ_ hw => ?_)
    obtain ⟨r_3, rfl, hw⟩ := hw
    obtain ⟨σ_4, rfl⟩ : ∃ z, z = τ_ := ⟨_, rfl⟩
    exact hw.elim
  · replace hw := hw.2 hc
    refine go_aload_n C 0 rfl rfl dJ0_indexOf_7cf53_7 ?_
    refine go_sval C hj0 ls_value dJ0_indexOf_7cf53_8 ?_
    refine go_iload_n C 1 rfl rfl dJ0_indexOf_7cf53_11 ?_
    refine go_iload_n C 2 rfl rfl dJ0_indexOf_7cf53_12 ?_
    refine go_aload_n C 0 rfl rfl dJ0_indexOf_7cf53_13 ?_
    refine go_callT (as := []) C hR hj0 cwJ0_505 (Nat.le_trans (by decide) hd) (by decide) rfl rfl (Nat.le_of_ble_eq_true rfl) dJ0_indexOf_7cf53_14 (spJ0_length_8abf5 (Nat.le_refl _) hj0 hw) (fun v_ τ_ hw => ?_)
    obtain ⟨r_5, rfl, hw⟩ := hw
    obtain ⟨σ_6, rfl⟩ : ∃ z, z = τ_ := ⟨_, rfl⟩
    refine go_callS (as := [.ref (G.2.2.2.2.1 j0), .int a1, .int a2, .int r_5]) C hR cwJ0_637 (Nat.le_trans (by decide) hd) (by decide) rfl rfl (Nat.le_of_ble_eq_true rfl) dJ0_indexOf_7cf53_17 (spJ1_indexOf_4cfef (Nat.le_refl _) hj0 hw) (fun v_ τ_ hw => ?_)
    obtain ⟨r_7, rfl, hw⟩ := hw
    obtain ⟨σ_8, rfl⟩ : ∃ z, z = τ_ := ⟨_, rfl⟩
    refine go_goto C 36 rfl dJ0_indexOf_7cf53_20 ?_
    exact go_iret C hr ⟨_, rfl, hw⟩ dJ0_indexOf_7cf53_36
-- java/lang/String.indexOf(I)I
set_option maxRecDepth 20000 in
set_option maxHeartbeats 4000000 in
theorem spJ0_indexOf_0f7a4 {l : Launch} {G : GT} {d : Nat}  (hd : 4 ≤ d) {j0 : Nat} (hj0 : j0 < 4) {a1 : Int32} {σ : St} {post : Int32 → St → Prop} (hw : wpJ0_indexOf_0f7a4 j0 a1 σ post) : Sp l G d yJ0_indexOf_0f7a4 cJ0_indexOf_0f7a4 2 (some .int) [.ref (G.2.2.2.1 j0), .int a1] σ (fun v τ => ∃ r : Int32, v = some (.int r) ∧ post r τ) := by
  refine Sp.of (by decide) (Nat.le_of_ble_eq_true rfl) fun X C hr hR hnl => ?_
  show Go X G 0 [(0, .ref (G.2.2.2.1 j0)), (1, .int a1)] [] σ
  have hw : wpJ0_indexOf_7cf53 j0 a1 0 σ (fun r_1 σ_2 =>
  post r_1 σ_2) := hw
  refine go_aload_n C 0 rfl rfl dJ0_indexOf_0f7a4_0 ?_
  refine go_iload_n C 1 rfl rfl dJ0_indexOf_0f7a4_1 ?_
  refine go_iconst (v := 0) C rfl dJ0_indexOf_0f7a4_2 ?_
  refine go_callT (as := [.int a1, .int 0]) C hR hj0 cwJ0_633 (Nat.le_trans (by decide) hd) (by decide) rfl rfl (Nat.le_of_ble_eq_true rfl) dJ0_indexOf_0f7a4_3 (spJ0_indexOf_7cf53 (Nat.le_refl _) hj0 hw) (fun v_ τ_ hw => ?_)
  obtain ⟨r_1, rfl, hw⟩ := hw
  obtain ⟨σ_2, rfl⟩ : ∃ z, z = τ_ := ⟨_, rfl⟩
  exact go_iret C hr ⟨_, rfl, hw⟩ dJ0_indexOf_0f7a4_6
-- CradleNames$Names.endingOf(JI)J
set_option maxRecDepth 20000 in
set_option maxHeartbeats 4000000 in
theorem gbX5_endingOf_4 {X : XT} {G : GT} {l : Launch} {d : Nat}  {post : Int64 → St → Prop} (C : Cx X G cX5_endingOf RX5) (hr : Rt X G (some .long) (fun v τ => ∃ r : Int64, v = some (.long r) ∧ post r τ)) (hR : Rm X l d) (hnl : X.2.2.2.2.2.2.2.2.2.2.1 = 4)  (hd : 5 ≤ d) (hN : 75 ≤ G.2.2.2.2.2)   
    : ∀ (n : Nat) (v0 : Int64) (v3 : Int32) (σ : St), wbX5_endingOf_4   post n v0 v3 σ → Go X G 4 [(0, .long v0), (3, .int v3)] [] σ := by
  intro n
  induction n with
  | zero => intro v0 v3 σ hw; exact hw.elim
  | succ n ih =>
    intro v0 v3 σ hw
    have hw : ((v3 < 0 →
      post v0 σ) ∧
    (¬ v3 < 0 →
      wpX5_letterAt v0 v3 σ (fun r_1 σ_2 =>
      wpJ0_indexOf_0f7a4 0 r_1 σ_2 (fun r_3 σ_4 =>
      ((r_3 < 0 →
        ∀ v3_5 : Int32, v3_5 = v3 + (-1) →
        wbX5_endingOf_4 post n v0 v3_5 σ_4) ∧
      (¬ r_3 < 0 →
        post ((v0.toUInt64 >>> ((5 * v3).toInt64.toUInt64 &&& Int64.toUInt64 63)).toInt64) σ_4)))))) := hw
    refine go_iload_n C 1 rfl rfl dX5_endingOf_4 ?_
    refine go_if_lt C 33 rfl dX5_endingOf_5 (fun hc => ?_) (fun hc => ?_)
    · replace hw := hw.1 hc
      refine go_lload_n C 0 rfl rfl dX5_endingOf_33 ?_
      exact go_lret C hr ⟨_, rfl, hw⟩ dX5_endingOf_34
    · replace hw := hw.2 hc
      refine go_lds0 C dX5_endingOf_8 ?_
      refine go_lload_n C 0 rfl rfl dX5_endingOf_10 ?_
      refine go_iload_n C 1 rfl rfl dX5_endingOf_11 ?_
      refine go_callS (as := [.long v0, .int v3]) C hR cwX5_52 (Nat.le_trans (by decide) hd) (by decide) rfl rfl (Nat.le_of_ble_eq_true rfl) dX5_endingOf_12 (spX5_letterAt (Nat.le_refl _) hN hw) (fun v_ τ_ hw => ?_)
      obtain ⟨r_1, rfl, hw⟩ := hw
      obtain ⟨σ_2, rfl⟩ : ∃ z, z = τ_ := ⟨_, rfl⟩
      refine go_callT (as := [.int r_1]) C hR (show 0 < 4 by decide) cwX5_56 (Nat.le_trans (by decide) hd) (by decide) rfl rfl (Nat.le_of_ble_eq_true rfl) dX5_endingOf_15 (spJ0_indexOf_0f7a4 (Nat.le_refl _) (show 0 < 4 by decide) hw) (fun v_ τ_ hw => ?_)
      obtain ⟨r_3, rfl, hw⟩ := hw
      obtain ⟨σ_4, rfl⟩ : ∃ z, z = τ_ := ⟨_, rfl⟩
      refine go_if_lt C 27 rfl dX5_endingOf_18 (fun hc => ?_) (fun hc => ?_)
      · replace hw := hw.1 hc
        obtain ⟨v3_5, ev3_5⟩ : ∃ z : Int32, z = v3 + (-1) := ⟨_, rfl⟩
        replace hw := hw v3_5 ev3_5
        refine go_iinc (v := v3_5) (lv2 := [(3, .int v3_5), (0, .long v0)]) C 1 rfl (by rw [ev3_5]; rfl) (by rw [hnl]; decide) rfl dX5_endingOf_27 ?_
        refine go_goto C 4 rfl dX5_endingOf_30 ?_
        refine go_sub [1, 0] rfl ?_
        exact ih _ _ _ hw
      · replace hw := hw.2 hc
        refine go_lload_n C 0 rfl rfl dX5_endingOf_21 ?_
        refine go_iconst (v := 5) C rfl dX5_endingOf_22 ?_
        refine go_iload_n C 1 rfl rfl dX5_endingOf_23 ?_
        refine go_imul C dX5_endingOf_24 ?_
        refine go_lushr C dX5_endingOf_25 ?_
        exact go_lret C hr ⟨_, rfl, hw⟩ dX5_endingOf_26
set_option maxRecDepth 20000 in
set_option maxHeartbeats 4000000 in
theorem spX5_endingOf {l : Launch} {G : GT} {d : Nat}  (hd : 5 ≤ d)  (hN : 75 ≤ G.2.2.2.2.2)  {a1 : Int64} {a2 : Int32} {σ : St} {post : Int64 → St → Prop} (hw : wpX5_endingOf  a1 a2 σ post) : Sp l G d yX5_endingOf cX5_endingOf 4 (some .long) [.long a1, .int a2] σ (fun v τ => ∃ r : Int64, v = some (.long r) ∧ post r τ) := by
  refine Sp.of (by decide) (Nat.le_of_ble_eq_true rfl) fun X C hr hR hnl => ?_
  show Go X G 0 [(0, .long a1), (2, .int a2)] [] σ
  have hw : ∀ v3_1 : Int32, v3_1 = (a2 - 1) →
  ∃ m_4, wbX5_endingOf_4 post m_4 a1 v3_1 σ := hw
  refine go_iload_n C 1 rfl rfl dX5_endingOf_0 ?_
  refine go_iconst (v := 1) C rfl dX5_endingOf_1 ?_
  refine go_isub C dX5_endingOf_2 ?_
  refine go_topi (fun v3_1 ev3_1 => ?_)
  replace hw := hw v3_1 ev3_1
  refine go_istore_n (lv2 := [(3, .int v3_1), (0, .long a1), (2, .int a2)]) C rfl (by rw [hnl]; decide) rfl dX5_endingOf_3 ?_
  refine go_sub [1, 0] rfl ?_
  obtain ⟨n_0, hw⟩ := hw
  exact (gbX5_endingOf_4 C hr hR hnl hd hN) n_0 _ _ _ hw
-- java/lang/StringLatin1.charAt([BI)C
set_option maxRecDepth 20000 in
set_option maxHeartbeats 4000000 in
theorem spJ1_charAt_3b067 {l : Launch} {G : GT} {d : Nat}  (hd : 3 ≤ d) {j1 : Nat} (hj1 : j1 < 4) {a2 : Int32} {σ : St} {post : Int32 → St → Prop} (hw : wpJ1_charAt_3b067 j1 a2 σ post) : Sp l G d yJ1_charAt_3b067 cJ1_charAt_3b067 2 (some .char) [.ref (G.2.2.2.2.1 j1), .int a2] σ (fun v τ => ∃ r : Int32, v = some (.int r) ∧ post r τ) := by
  refine Sp.of (by decide) (Nat.le_of_ble_eq_true rfl) fun X C hr hR hnl => ?_
  show Go X G 0 [(0, .ref (G.2.2.2.2.1 j1)), (1, .int a2)] [] σ
  have hw : wpJ0_checkIndex_df160 a2 (Int32.ofNat (sLen.getD j1 0)) σ (fun σ_2 =>
  vp_in a2 (sLen.getD j1 0) ∧ (
  post (((((sByt.getD j1 []).getD a2.toNatClampNeg 0) &&& 255).toUInt32 % 65536).toInt32) σ_2)) := hw
  refine go_iload_n C 1 rfl rfl dJ1_charAt_3b067_0 ?_
  refine go_aload_n C 0 rfl rfl dJ1_charAt_3b067_1 ?_
  refine go_sblen C hj1 dJ1_charAt_3b067_2 ?_
  refine go_callS (as := [.int a2, .int (Int32.ofNat (sLen.getD j1 0))]) C hR cwJ1_9 (Nat.le_trans (by decide) hd) (by decide) rfl rfl (Nat.le_of_ble_eq_true rfl) dJ1_charAt_3b067_3 (spJ0_checkIndex_df160 (Nat.le_refl _) hw) (fun v_ τ_ hw => ?_)
  obtain ⟨rfl, hw⟩ := hw
  obtain ⟨σ_2, rfl⟩ : ∃ z, z = τ_ := ⟨_, rfl⟩
  refine go_aload_n C 0 rfl rfl dJ1_charAt_3b067_6 ?_
  refine go_iload_n C 1 rfl rfl dJ1_charAt_3b067_7 ?_
  refine go_sbald C hj1 hw.1 dJ1_charAt_3b067_8 ?_
  replace hw := hw.2
  refine go_sipush (v := 255) C rfl dJ1_charAt_3b067_9 ?_
  refine go_iand C dJ1_charAt_3b067_12 ?_
  refine go_i2c C dJ1_charAt_3b067_13 ?_
  exact go_zret C hr (pk_nc _) ⟨_, rfl, hw⟩ dJ1_charAt_3b067_14
-- java/lang/String.charAt(I)C
set_option maxRecDepth 20000 in
set_option maxHeartbeats 4000000 in
theorem spJ0_charAt_5068e {l : Launch} {G : GT} {d : Nat}  (hd : 4 ≤ d) {j0 : Nat} (hj0 : j0 < 4) {a1 : Int32} {σ : St} {post : Int32 → St → Prop} (hw : wpJ0_charAt_5068e j0 a1 σ post) : Sp l G d yJ0_charAt_5068e cJ0_charAt_5068e 2 (some .char) [.ref (G.2.2.2.1 j0), .int a1] σ (fun v τ => ∃ r : Int32, v = some (.int r) ∧ post r τ) := by
  refine Sp.of (by decide) (Nat.le_of_ble_eq_true rfl) fun X C hr hR hnl => ?_
  show Go X G 0 [(0, .ref (G.2.2.2.1 j0)), (1, .int a1)] [] σ
  have hw : wpJ0_isLatin1_aae02 j0 σ (fun r_1 σ_2 =>
  ((r_1 = 0 →
    False) ∧
  (¬ r_1 = 0 →
    wpJ1_charAt_3b067 j0 a1 σ_2 (fun r_3 σ_4 =>
    narrow .char (.int r_3) = .int r_3 ∧ post r_3 σ_4)))) := hw
  refine go_aload_n C 0 rfl rfl dJ0_charAt_5068e_0 ?_
  refine go_callT (as := []) C hR hj0 cwJ0_492 (Nat.le_trans (by decide) hd) (by decide) rfl rfl (Nat.le_of_ble_eq_true rfl) dJ0_charAt_5068e_1 (spJ0_isLatin1_aae02 (Nat.le_refl _) hj0 hw) (fun v_ τ_ hw => ?_)
  obtain ⟨r_1, rfl, hw⟩ := hw
  obtain ⟨σ_2, rfl⟩ : ∃ z, z = τ_ := ⟨_, rfl⟩
  refine go_if_eq C 16 rfl dJ0_charAt_5068e_4 (fun hc => ?_) (fun hc => ?_)
  · replace hw := hw.1 hc
    refine go_aload_n C 0 rfl rfl dJ0_charAt_5068e_16 ?_
    refine go_sval C hj0 ls_value dJ0_charAt_5068e_17 ?_
    refine go_iload_n C 1 rfl rfl dJ0_charAt_5068e_20 ?_
    exact hw.elim
  · replace hw := hw.2 hc
    refine go_aload_n C 0 rfl rfl dJ0_charAt_5068e_7 ?_
    refine go_sval C hj0 ls_value dJ0_charAt_5068e_8 ?_
    refine go_iload_n C 1 rfl rfl dJ0_charAt_5068e_11 ?_
    refine go_callS (as := [.ref (G.2.2.2.2.1 j0), .int a1]) C hR cwJ0_495 (Nat.le_trans (by decide) hd) (by decide) rfl rfl (Nat.le_of_ble_eq_true rfl) dJ0_charAt_5068e_12 (spJ1_charAt_3b067 (Nat.le_refl _) hj0 hw) (fun v_ τ_ hw => ?_)
    obtain ⟨r_3, rfl, hw⟩ := hw
    obtain ⟨σ_4, rfl⟩ : ∃ z, z = τ_ := ⟨_, rfl⟩
    exact go_zret C hr hw.1 ⟨_, rfl, hw.2⟩ dJ0_charAt_5068e_15
-- CradleNames$Names.hear(I)V
set_option maxRecDepth 20000 in
set_option maxHeartbeats 4000000 in
theorem gbX5_hear_7 {X : XT} {G : GT} {l : Launch} {d : Nat}  {post : St → Prop} (C : Cx X G cX5_hear RX5) (hr : Rt X G none (fun v τ => v = none ∧ post τ)) (hR : Rm X l d) (hnl : X.2.2.2.2.2.2.2.2.2.2.1 = 7)  (hd : 5 ≤ d) (hN : 75 ≤ G.2.2.2.2.2)   
    : ∀ (n : Nat) (v1 : Int32) (v2 : Int32) (v3 : Int32) (v4 : Int32) (σ : St), wbX5_hear_7   post n v1 v2 v3 v4 σ → Go X G 7 [(0, .ref (G.2.2.1 1)), (1, .int v1), (2, .int v2), (3, .int v3), (4, .int v4)] [] σ := by
  intro n
  induction n with
  | zero => intro v1 v2 v3 v4 σ hw; exact hw.elim
  | succ n ih =>
    intro v1 v2 v3 v4 σ hw
    have hw : vp_in v1 16 ∧ (
    (((gI σ 3 v1.toNatClampNeg) ≤ v4 →
      vp_in v1 16 ∧ (
      ∀ σ_1 : St, σ_1 = sI σ 8 v1.toNatClampNeg v2 →
      post σ_1)) ∧
    (¬ (gI σ 3 v1.toNatClampNeg) ≤ v4 →
      vp_in v1 16 ∧ (
      wpX5_letterAt (gL σ 2 v1.toNatClampNeg) v4 σ (fun r_2 σ_3 =>
      ∀ v5_4 : Int32, v5_4 = (r_2 - 97) →
      ((v5_4 < 0 →
        ∀ v4_5 : Int32, v4_5 = v4 + 1 →
        wbX5_hear_7 post n v1 v2 v3 v4_5 σ_3) ∧
      (¬ v5_4 < 0 →
        wpJ0_length_8abf5 1 σ_3 (fun r_6 σ_7 =>
        ((r_6 ≤ v5_4 →
          ∀ v4_8 : Int32, v4_8 = v4 + 1 →
          wbX5_hear_7 post n v1 v2 v3 v4_8 σ_7) ∧
        (¬ r_6 ≤ v5_4 →
          wpJ0_charAt_5068e 1 v5_4 σ_7 (fun r_9 σ_10 =>
          ((r_9 = v3 →
            ∀ v4_11 : Int32, v4_11 = v4 + 1 →
            wbX5_hear_7 post n v1 v2 v3 v4_11 σ_10) ∧
          (¬ r_9 = v3 →
            vp_in ((v1 * 10) + v2) 160 ∧ (
            ∀ σ_12 : St, σ_12 = sI σ_10 7 ((v1 * 10) + v2).toNatClampNeg r_9 →
            ∀ v2_13 : Int32, v2_13 = v2 + 1 →
            ∀ v4_14 : Int32, v4_14 = v4 + 1 →
            wbX5_hear_7 post n v1 v2_13 r_9 v4_14 σ_12)))))))))))))) := hw
    refine go_iload C 4 rfl dX5_hear_7 ?_
    refine go_aload_n C 0 rfl rfl dX5_hear_9 ?_
    refine go_get (v := .ref (G.2.2.1 3)) C (shX5 G) (ltX5 hN) lkX5_15 rfl dX5_hear_10 ?_
    refine go_iload_n C 1 rfl rfl dX5_hear_13 ?_
    refine go_iald C (saX5_lengths G) (laX5_lengths hN) hw.1 dX5_hear_14 ?_
    replace hw := hw.2
    refine go_icmp_ge C 89 rfl dX5_hear_15 (fun hc => ?_) (fun hc => ?_)
    · replace hw := hw.1 hc
      refine go_aload_n C 0 rfl rfl dX5_hear_89 ?_
      refine go_get (v := .ref (G.2.2.1 8)) C (shX5 G) (ltX5 hN) lkX5_31 rfl dX5_hear_90 ?_
      refine go_iload_n C 1 rfl rfl dX5_hear_93 ?_
      refine go_iload_n C 2 rfl rfl dX5_hear_94 ?_
      refine go_iast C (saX5_soundCounts G) (laX5_soundCounts hN) hw.1 dX5_hear_95 (go_nm fun σ_1 eσ_1 => ?_)
      replace hw := hw.2 σ_1 eσ_1
      exact go_vret C hr ⟨rfl, hw⟩ dX5_hear_96
    · replace hw := hw.2 hc
      refine go_aload_n C 0 rfl rfl dX5_hear_18 ?_
      refine go_get (v := .ref (G.2.2.1 2)) C (shX5 G) (ltX5 hN) lkX5_9 rfl dX5_hear_19 ?_
      refine go_iload_n C 1 rfl rfl dX5_hear_22 ?_
      refine go_lald C (saX5_letters G) (laX5_letters hN) hw.1 dX5_hear_23 ?_
      replace hw := hw.2
      refine go_iload C 4 rfl dX5_hear_24 ?_
      refine go_callS (as := [.long (gL σ 2 v1.toNatClampNeg), .int v4]) C hR cwX5_52 (Nat.le_trans (by decide) hd) (by decide) rfl rfl (Nat.le_of_ble_eq_true rfl) dX5_hear_26 (spX5_letterAt (Nat.le_refl _) hN hw) (fun v_ τ_ hw => ?_)
      obtain ⟨r_2, rfl, hw⟩ := hw
      obtain ⟨σ_3, rfl⟩ : ∃ z, z = τ_ := ⟨_, rfl⟩
      refine go_bipush (v := 97) C rfl dX5_hear_29 ?_
      refine go_isub C dX5_hear_31 ?_
      refine go_topi (fun v5_4 ev5_4 => ?_)
      replace hw := hw v5_4 ev5_4
      refine go_istore (lv2 := [(5, .int v5_4), (0, .ref (G.2.2.1 1)), (1, .int v1), (2, .int v2), (3, .int v3), (4, .int v4)]) C (by rw [hnl]; decide) rfl dX5_hear_32 ?_
      refine go_iload C 0 rfl dX5_hear_34 ?_
      refine go_if_lt C 83 rfl dX5_hear_36 (fun hc => ?_) (fun hc => ?_)
      · replace hw := hw.1 hc
        obtain ⟨v4_5, ev4_5⟩ : ∃ z : Int32, z = v4 + 1 := ⟨_, rfl⟩
        replace hw := hw v4_5 ev4_5
        refine go_iinc (v := v4_5) (lv2 := [(4, .int v4_5), (5, .int v5_4), (0, .ref (G.2.2.1 1)), (1, .int v1), (2, .int v2), (3, .int v3)]) C 5 rfl (by rw [ev4_5]; rfl) (by rw [hnl]; decide) rfl dX5_hear_83 ?_
        refine go_goto C 7 rfl dX5_hear_86 ?_
        refine go_sub [2, 3, 4, 5, 0] rfl ?_
        exact ih _ _ _ _ _ hw
      · replace hw := hw.2 hc
        refine go_iload C 0 rfl dX5_hear_39 ?_
        refine go_lds1 C dX5_hear_41 ?_
        refine go_callT (as := []) C hR (show 1 < 4 by decide) cwX5_64 (Nat.le_trans (by decide) hd) (by decide) rfl rfl (Nat.le_of_ble_eq_true rfl) dX5_hear_43 (spJ0_length_8abf5 (Nat.le_refl _) (show 1 < 4 by decide) hw) (fun v_ τ_ hw => ?_)
        obtain ⟨r_6, rfl, hw⟩ := hw
        obtain ⟨σ_7, rfl⟩ : ∃ z, z = τ_ := ⟨_, rfl⟩
        refine go_icmp_ge C 83 rfl dX5_hear_46 (fun hc => ?_) (fun hc => ?_)
        · replace hw := hw.1 hc
          obtain ⟨v4_8, ev4_8⟩ : ∃ z : Int32, z = v4 + 1 := ⟨_, rfl⟩
          replace hw := hw v4_8 ev4_8
          refine go_iinc (v := v4_8) (lv2 := [(4, .int v4_8), (5, .int v5_4), (0, .ref (G.2.2.1 1)), (1, .int v1), (2, .int v2), (3, .int v3)]) C 5 rfl (by rw [ev4_8]; rfl) (by rw [hnl]; decide) rfl dX5_hear_83 ?_
          refine go_goto C 7 rfl dX5_hear_86 ?_
          refine go_sub [2, 3, 4, 5, 0] rfl ?_
          exact ih _ _ _ _ _ hw
        · replace hw := hw.2 hc
          refine go_lds1 C dX5_hear_49 ?_
          refine go_iload C 0 rfl dX5_hear_51 ?_
          refine go_callT (as := [.int v5_4]) C hR (show 1 < 4 by decide) cwX5_68 (Nat.le_trans (by decide) hd) (by decide) rfl rfl (Nat.le_of_ble_eq_true rfl) dX5_hear_53 (spJ0_charAt_5068e (Nat.le_refl _) (show 1 < 4 by decide) hw) (fun v_ τ_ hw => ?_)
          obtain ⟨r_9, rfl, hw⟩ := hw
          obtain ⟨σ_10, rfl⟩ : ∃ z, z = τ_ := ⟨_, rfl⟩
          refine go_istore (lv2 := [(6, .int r_9), (5, .int v5_4), (0, .ref (G.2.2.1 1)), (1, .int v1), (2, .int v2), (3, .int v3), (4, .int v4)]) C (by rw [hnl]; decide) rfl dX5_hear_56 ?_
          refine go_iload C 0 rfl dX5_hear_58 ?_
          refine go_iload_n C 5 rfl rfl dX5_hear_60 ?_
          refine go_icmp_eq C 83 rfl dX5_hear_61 (fun hc => ?_) (fun hc => ?_)
          · replace hw := hw.1 hc
            obtain ⟨v4_11, ev4_11⟩ : ∃ z : Int32, z = v4 + 1 := ⟨_, rfl⟩
            replace hw := hw v4_11 ev4_11
            refine go_iinc (v := v4_11) (lv2 := [(4, .int v4_11), (6, .int r_9), (5, .int v5_4), (0, .ref (G.2.2.1 1)), (1, .int v1), (2, .int v2), (3, .int v3)]) C 6 rfl (by rw [ev4_11]; rfl) (by rw [hnl]; decide) rfl dX5_hear_83 ?_
            refine go_goto C 7 rfl dX5_hear_86 ?_
            refine go_sub [3, 4, 5, 6, 0] rfl ?_
            exact ih _ _ _ _ _ hw
          · replace hw := hw.2 hc
            refine go_aload_n C 2 rfl rfl dX5_hear_64 ?_
            refine go_get (v := .ref (G.2.2.1 7)) C (shX5 G) (ltX5 hN) lkX5_28 rfl dX5_hear_65 ?_
            refine go_iload_n C 3 rfl rfl dX5_hear_68 ?_
            refine go_bipush (v := 10) C rfl dX5_hear_69 ?_
            refine go_imul C dX5_hear_71 ?_
            refine go_iload_n C 4 rfl rfl dX5_hear_72 ?_
            refine go_iadd C dX5_hear_73 ?_
            refine go_iload C 0 rfl dX5_hear_74 ?_
            refine go_iast C (saX5_sounds G) (laX5_sounds hN) hw.1 dX5_hear_76 (go_nm fun σ_12 eσ_12 => ?_)
            replace hw := hw.2 σ_12 eσ_12
            obtain ⟨v2_13, ev2_13⟩ : ∃ z : Int32, z = v2 + 1 := ⟨_, rfl⟩
            replace hw := hw v2_13 ev2_13
            refine go_iinc (v := v2_13) (lv2 := [(2, .int v2_13), (6, .int r_9), (5, .int v5_4), (0, .ref (G.2.2.1 1)), (1, .int v1), (3, .int v3), (4, .int v4)]) C 4 rfl (by rw [ev2_13]; rfl) (by rw [hnl]; decide) rfl dX5_hear_77 ?_
            refine go_iload C 1 rfl dX5_hear_80 ?_
            refine go_istore_n (lv2 := [(3, .int r_9), (2, .int v2_13), (6, .int r_9), (5, .int v5_4), (0, .ref (G.2.2.1 1)), (1, .int v1), (4, .int v4)]) C rfl (by rw [hnl]; decide) rfl dX5_hear_82 ?_
            obtain ⟨v4_14, ev4_14⟩ : ∃ z : Int32, z = v4 + 1 := ⟨_, rfl⟩
            replace hw := hw v4_14 ev4_14
            refine go_iinc (v := v4_14) (lv2 := [(4, .int v4_14), (3, .int r_9), (2, .int v2_13), (6, .int r_9), (5, .int v5_4), (0, .ref (G.2.2.1 1)), (1, .int v1)]) C 6 rfl (by rw [ev4_14]; rfl) (by rw [hnl]; decide) rfl dX5_hear_83 ?_
            refine go_goto C 7 rfl dX5_hear_86 ?_
            refine go_sub [5, 6, 2, 1, 0] rfl ?_
            exact ih _ _ _ _ _ hw
set_option maxRecDepth 20000 in
set_option maxHeartbeats 4000000 in
theorem spX5_hear {l : Launch} {G : GT} {d : Nat}  (hd : 5 ≤ d)  (hN : 75 ≤ G.2.2.2.2.2)  {a1 : Int32} {σ : St} {post : St → Prop} (hw : wpX5_hear  a1 σ post) : Sp l G d yX5_hear cX5_hear 7 none [.ref (G.2.2.1 1), .int a1] σ (fun v τ => v = none ∧ post τ) := by
  refine Sp.of (by decide) (Nat.le_of_ble_eq_true rfl) fun X C hr hR hnl => ?_
  show Go X G 0 [(0, .ref (G.2.2.1 1)), (1, .int a1)] [] σ
  have hw : ∃ m_7, wbX5_hear_7 post m_7 a1 0 0 0 σ := hw
  refine go_iconst (v := 0) C rfl dX5_hear_0 ?_
  refine go_istore_n (lv2 := [(2, .int 0), (0, .ref (G.2.2.1 1)), (1, .int a1)]) C rfl (by rw [hnl]; decide) rfl dX5_hear_1 ?_
  refine go_iconst (v := 0) C rfl dX5_hear_2 ?_
  refine go_istore_n (lv2 := [(3, .int 0), (2, .int 0), (0, .ref (G.2.2.1 1)), (1, .int a1)]) C rfl (by rw [hnl]; decide) rfl dX5_hear_3 ?_
  refine go_iconst (v := 0) C rfl dX5_hear_4 ?_
  refine go_istore (lv2 := [(4, .int 0), (3, .int 0), (2, .int 0), (0, .ref (G.2.2.1 1)), (1, .int a1)]) C (by rw [hnl]; decide) rfl dX5_hear_5 ?_
  refine go_sub [3, 4, 2, 1, 0] rfl ?_
  obtain ⟨n_0, hw⟩ := hw
  exact (gbX5_hear_7 C hr hR hnl hd hN) n_0 _ _ _ _ _ hw
-- CradleNames$Names.add(JIII)I
set_option maxRecDepth 20000 in
set_option maxHeartbeats 4000000 in
theorem spX5_add {l : Launch} {G : GT} {d : Nat}  (hd : 6 ≤ d)  (hN : 75 ≤ G.2.2.2.2.2)  {a1 : Int64} {a2 : Int32} {a3 : Int32} {a4 : Int32} {σ : St} {post : Int32 → St → Prop} (hw : wpX5_add  a1 a2 a3 a4 σ post) : Sp l G d yX5_add cX5_add 6 (some .int) [.ref (G.2.2.1 1), .long a1, .int a2, .int a3, .int a4] σ (fun v τ => ∃ r : Int32, v = some (.int r) ∧ post r τ) := by
  refine Sp.of (by decide) (Nat.le_of_ble_eq_true rfl) fun X C hr hR hnl => ?_
  show Go X G 0 [(0, .ref (G.2.2.1 1)), (1, .long a1), (3, .int a2), (4, .int a3), (5, .int a4)] [] σ
  have hw : (((gI σ 1 0) < 16 →
    vp_in (gI σ 1 0) 16 ∧ (
    ∀ σ_1 : St, σ_1 = sL σ 2 (gI σ 1 0).toNatClampNeg a1 →
    vp_in (gI σ_1 1 0) 16 ∧ (
    ∀ σ_2 : St, σ_2 = sI σ_1 3 (gI σ_1 1 0).toNatClampNeg a2 →
    vp_in (gI σ_2 1 0) 16 ∧ (
    ∀ σ_3 : St, σ_3 = sI σ_2 4 (gI σ_2 1 0).toNatClampNeg a3 →
    vp_in (gI σ_3 1 0) 16 ∧ (
    ∀ σ_4 : St, σ_4 = sI σ_3 5 (gI σ_3 1 0).toNatClampNeg a4 →
    wpX5_endingOf a1 a2 σ_4 (fun r_5 σ_6 =>
    vp_in (gI σ_4 1 0) 16 ∧ (
    ∀ σ_7 : St, σ_7 = sL σ_6 6 (gI σ_4 1 0).toNatClampNeg r_5 →
    wpX5_hear (gI σ_7 1 0) σ_7 (fun σ_9 =>
    ∀ σ_10 : St, σ_10 = sI σ_9 1 0 ((gI σ_9 1 0) + 1) →
    post ((gI σ_10 1 0) - 1) σ_10)))))))) ∧
  (¬ (gI σ 1 0) < 16 →
    post (-1) σ)) := hw
  refine go_aload_n C 0 rfl rfl dX5_add_0 ?_
  refine go_get (v := .int (gI σ 1 0)) C (shX5 G) (ltX5 hN) lkX5_38 rfl dX5_add_1 ?_
  refine go_bipush (v := 16) C rfl dX5_add_4 ?_
  refine go_icmp_lt C 11 rfl dX5_add_6 (fun hc => ?_) (fun hc => ?_)
  · replace hw := hw.1 hc
    refine go_aload_n C 0 rfl rfl dX5_add_11 ?_
    refine go_get (v := .ref (G.2.2.1 2)) C (shX5 G) (ltX5 hN) lkX5_9 rfl dX5_add_12 ?_
    refine go_aload_n C 0 rfl rfl dX5_add_15 ?_
    refine go_get (v := .int (gI σ 1 0)) C (shX5 G) (ltX5 hN) lkX5_38 rfl dX5_add_16 ?_
    refine go_lload_n C 1 rfl rfl dX5_add_19 ?_
    refine go_last C (saX5_letters G) (laX5_letters hN) hw.1 dX5_add_20 (go_nm fun σ_1 eσ_1 => ?_)
    replace hw := hw.2 σ_1 eσ_1
    refine go_aload_n C 0 rfl rfl dX5_add_21 ?_
    refine go_get (v := .ref (G.2.2.1 3)) C (shX5 G) (ltX5 hN) lkX5_15 rfl dX5_add_22 ?_
    refine go_aload_n C 0 rfl rfl dX5_add_25 ?_
    refine go_get (v := .int (gI σ_1 1 0)) C (shX5 G) (ltX5 hN) lkX5_38 rfl dX5_add_26 ?_
    refine go_iload_n C 2 rfl rfl dX5_add_29 ?_
    refine go_iast C (saX5_lengths G) (laX5_lengths hN) hw.1 dX5_add_30 (go_nm fun σ_2 eσ_2 => ?_)
    replace hw := hw.2 σ_2 eσ_2
    refine go_aload_n C 0 rfl rfl dX5_add_31 ?_
    refine go_get (v := .ref (G.2.2.1 4)) C (shX5 G) (ltX5 hN) lkX5_19 rfl dX5_add_32 ?_
    refine go_aload_n C 0 rfl rfl dX5_add_35 ?_
    refine go_get (v := .int (gI σ_2 1 0)) C (shX5 G) (ltX5 hN) lkX5_38 rfl dX5_add_36 ?_
    refine go_iload C 3 rfl dX5_add_39 ?_
    refine go_iast C (saX5_sexes G) (laX5_sexes hN) hw.1 dX5_add_41 (go_nm fun σ_3 eσ_3 => ?_)
    replace hw := hw.2 σ_3 eσ_3
    refine go_aload_n C 0 rfl rfl dX5_add_42 ?_
    refine go_get (v := .ref (G.2.2.1 5)) C (shX5 G) (ltX5 hN) lkX5_22 rfl dX5_add_43 ?_
    refine go_aload_n C 0 rfl rfl dX5_add_46 ?_
    refine go_get (v := .int (gI σ_3 1 0)) C (shX5 G) (ltX5 hN) lkX5_38 rfl dX5_add_47 ?_
    refine go_iload C 4 rfl dX5_add_50 ?_
    refine go_iast C (saX5_toldIn G) (laX5_toldIn hN) hw.1 dX5_add_52 (go_nm fun σ_4 eσ_4 => ?_)
    replace hw := hw.2 σ_4 eσ_4
    refine go_aload_n C 0 rfl rfl dX5_add_53 ?_
    refine go_get (v := .ref (G.2.2.1 6)) C (shX5 G) (ltX5 hN) lkX5_25 rfl dX5_add_54 ?_
    refine go_aload_n C 0 rfl rfl dX5_add_57 ?_
    refine go_get (v := .int (gI σ_4 1 0)) C (shX5 G) (ltX5 hN) lkX5_38 rfl dX5_add_58 ?_
    refine go_lload_n C 1 rfl rfl dX5_add_61 ?_
    refine go_iload_n C 2 rfl rfl dX5_add_62 ?_
    refine go_callS (as := [.long a1, .int a2]) C hR cwX5_42 (Nat.le_trans (by decide) hd) (by decide) rfl rfl (Nat.le_of_ble_eq_true rfl) dX5_add_63 (spX5_endingOf (Nat.le_refl _) hN hw) (fun v_ τ_ hw => ?_)
    obtain ⟨r_5, rfl, hw⟩ := hw
    obtain ⟨σ_6, rfl⟩ : ∃ z, z = τ_ := ⟨_, rfl⟩
    refine go_last C (saX5_endings G) (laX5_endings hN) hw.1 dX5_add_66 (go_nm fun σ_7 eσ_7 => ?_)
    replace hw := hw.2 σ_7 eσ_7
    refine go_aload_n C 0 rfl rfl dX5_add_67 ?_
    refine go_aload_n C 0 rfl rfl dX5_add_68 ?_
    refine go_get (v := .int (gI σ_7 1 0)) C (shX5 G) (ltX5 hN) lkX5_38 rfl dX5_add_69 ?_
    refine go_callV (as := [.int (gI σ_7 1 0)]) C hR (shX5 G) (ltX5 hN) cwX5_46 (Nat.le_trans (by decide) hd) (by decide) rfl rfl (Nat.le_of_ble_eq_true rfl) dX5_add_72 (spX5_hear (Nat.le_refl _) hN hw) (fun v_ τ_ hw => ?_)
    obtain ⟨rfl, hw⟩ := hw
    obtain ⟨σ_9, rfl⟩ : ∃ z, z = τ_ := ⟨_, rfl⟩
    refine go_aload_n C 0 rfl rfl dX5_add_75 ?_
    refine go_dup C rfl dX5_add_76 ?_
    refine go_get (v := .int (gI σ_9 1 0)) C (shX5 G) (ltX5 hN) lkX5_38 rfl dX5_add_77 ?_
    refine go_iconst (v := 1) C rfl dX5_add_80 ?_
    refine go_iadd C dX5_add_81 ?_
    refine go_puti C (shX5 G) (ltX5 hN) lpX5_38 (show 0 < 8 by decide) (pxX5_0 G _ _) dX5_add_82 (go_nm fun σ_10 eσ_10 => ?_)
    replace hw := hw σ_10 eσ_10
    refine go_aload_n C 0 rfl rfl dX5_add_85 ?_
    refine go_get (v := .int (gI σ_10 1 0)) C (shX5 G) (ltX5 hN) lkX5_38 rfl dX5_add_86 ?_
    refine go_iconst (v := 1) C rfl dX5_add_89 ?_
    refine go_isub C dX5_add_90 ?_
    exact go_iret C hr ⟨_, rfl, hw⟩ dX5_add_91
  · replace hw := hw.2 hc
    refine go_iconst (v := (-1)) C rfl dX5_add_9 ?_
    exact go_iret C hr ⟨_, rfl, hw⟩ dX5_add_10
-- CradleNames$Names.lowestOfEnding(I)I
set_option maxRecDepth 20000 in
set_option maxHeartbeats 4000000 in
theorem gbX5_lowestOfEnding_2 {X : XT} {G : GT} {l : Launch} {d : Nat}  {post : Int32 → St → Prop} (C : Cx X G cX5_lowestOfEnding RX5) (hr : Rt X G (some .int) (fun v τ => ∃ r : Int32, v = some (.int r) ∧ post r τ)) (hR : Rm X l d) (hnl : X.2.2.2.2.2.2.2.2.2.2.1 = 3)  (hd : 2 ≤ d) (hN : 75 ≤ G.2.2.2.2.2)   
    : ∀ (n : Nat) (v1 : Int32) (v2 : Int32) (σ : St), wbX5_lowestOfEnding_2   post n v1 v2 σ → Go X G 2 [(0, .ref (G.2.2.1 1)), (1, .int v1), (2, .int v2)] [] σ := by
  intro n
  induction n with
  | zero => intro v1 v2 σ hw; exact hw.elim
  | succ n ih =>
    intro v1 v2 σ hw
    have hw : ((v1 ≤ v2 →
      post v1 σ) ∧
    (¬ v1 ≤ v2 →
      wpX5_sameEnding v2 v1 σ (fun r_1 σ_2 =>
      ((r_1 = 0 →
        ∀ v2_3 : Int32, v2_3 = v2 + 1 →
        wbX5_lowestOfEnding_2 post n v1 v2_3 σ_2) ∧
      (¬ r_1 = 0 →
        post v2 σ_2))))) := hw
    refine go_iload_n C 2 rfl rfl dX5_lowestOfEnding_2 ?_
    refine go_iload_n C 1 rfl rfl dX5_lowestOfEnding_3 ?_
    refine go_icmp_ge C 24 rfl dX5_lowestOfEnding_4 (fun hc => ?_) (fun hc => ?_)
    · replace hw := hw.1 hc
      refine go_iload_n C 1 rfl rfl dX5_lowestOfEnding_24 ?_
      exact go_iret C hr ⟨_, rfl, hw⟩ dX5_lowestOfEnding_25
    · replace hw := hw.2 hc
      refine go_aload_n C 0 rfl rfl dX5_lowestOfEnding_7 ?_
      refine go_iload_n C 2 rfl rfl dX5_lowestOfEnding_8 ?_
      refine go_iload_n C 1 rfl rfl dX5_lowestOfEnding_9 ?_
      refine go_callV (as := [.int v2, .int v1]) C hR (shX5 G) (ltX5 hN) cwX5_72 (Nat.le_trans (by decide) hd) (by decide) rfl rfl (Nat.le_of_ble_eq_true rfl) dX5_lowestOfEnding_10 (spX5_sameEnding (Nat.le_refl _) hN hw) (fun v_ τ_ hw => ?_)
      obtain ⟨r_1, rfl, hw⟩ := hw
      obtain ⟨σ_2, rfl⟩ : ∃ z, z = τ_ := ⟨_, rfl⟩
      refine go_if_eq C 18 rfl dX5_lowestOfEnding_13 (fun hc => ?_) (fun hc => ?_)
      · replace hw := hw.1 hc
        obtain ⟨v2_3, ev2_3⟩ : ∃ z : Int32, z = v2 + 1 := ⟨_, rfl⟩
        replace hw := hw v2_3 ev2_3
        refine go_iinc (v := v2_3) (lv2 := [(2, .int v2_3), (0, .ref (G.2.2.1 1)), (1, .int v1)]) C 2 rfl (by rw [ev2_3]; rfl) (by rw [hnl]; decide) rfl dX5_lowestOfEnding_18 ?_
        refine go_goto C 2 rfl dX5_lowestOfEnding_21 ?_
        refine go_sub [1, 2, 0] rfl ?_
        exact ih _ _ _ hw
      · replace hw := hw.2 hc
        refine go_iload_n C 2 rfl rfl dX5_lowestOfEnding_16 ?_
        exact go_iret C hr ⟨_, rfl, hw⟩ dX5_lowestOfEnding_17
set_option maxRecDepth 20000 in
set_option maxHeartbeats 4000000 in
theorem spX5_lowestOfEnding {l : Launch} {G : GT} {d : Nat}  (hd : 2 ≤ d)  (hN : 75 ≤ G.2.2.2.2.2)  {a1 : Int32} {σ : St} {post : Int32 → St → Prop} (hw : wpX5_lowestOfEnding  a1 σ post) : Sp l G d yX5_lowestOfEnding cX5_lowestOfEnding 3 (some .int) [.ref (G.2.2.1 1), .int a1] σ (fun v τ => ∃ r : Int32, v = some (.int r) ∧ post r τ) := by
  refine Sp.of (by decide) (Nat.le_of_ble_eq_true rfl) fun X C hr hR hnl => ?_
  show Go X G 0 [(0, .ref (G.2.2.1 1)), (1, .int a1)] [] σ
  have hw : ∃ m_2, wbX5_lowestOfEnding_2 post m_2 a1 0 σ := hw
  refine go_iconst (v := 0) C rfl dX5_lowestOfEnding_0 ?_
  refine go_istore_n (lv2 := [(2, .int 0), (0, .ref (G.2.2.1 1)), (1, .int a1)]) C rfl (by rw [hnl]; decide) rfl dX5_lowestOfEnding_1 ?_
  refine go_sub [1, 2, 0] rfl ?_
  obtain ⟨n_0, hw⟩ := hw
  exact (gbX5_lowestOfEnding_2 C hr hR hnl hd hN) n_0 _ _ _ hw
-- CradleNames$Names.akin(II)Z
set_option maxRecDepth 20000 in
set_option maxHeartbeats 4000000 in
theorem gbX5_akin_121 {X : XT} {G : GT} {l : Launch} {d : Nat}  {post : Int32 → St → Prop} (C : Cx X G cX5_akin RX5) (hr : Rt X G (some .boolean) (fun v τ => ∃ r : Int32, v = some (.int r) ∧ post r τ)) (hR : Rm X l d) (hnl : X.2.2.2.2.2.2.2.2.2.2.1 = 8)  (hd : 2 ≤ d) (hN : 75 ≤ G.2.2.2.2.2)   
    : ∀ (v3 : Int32) (v4 : Int32) (v6 : Int32) (v7 : Int32) (σ : St), wbX5_akin_121   post v3 v4 v6 v7 σ → Go X G 121 [(3, .int v3), (4, .int v4), (6, .int v6), (7, .int v7)] [] σ := by
  intro v3 v4 v6 v7 σ hw
  have hw : ((1 < (((if v3 < v4 then v4 else v3) - v6) - v7) →
    post 0 σ) ∧
  (¬ 1 < (((if v3 < v4 then v4 else v3) - v6) - v7) →
    post 1 σ)) := hw
  refine go_iload_n C 0 rfl rfl dX5_akin_121 ?_
  refine go_iload C 1 rfl dX5_akin_122 ?_
  refine go_mmax (d := 0) C (rm_le hR (Nat.le_trans (by decide) hd)) mlX5_82 (Nat.le_of_ble_eq_true rfl) dX5_akin_124 ?_
  refine go_iload C 2 rfl dX5_akin_127 ?_
  refine go_isub C dX5_akin_129 ?_
  refine go_iload C 3 rfl dX5_akin_130 ?_
  refine go_isub C dX5_akin_132 ?_
  refine go_iconst (v := 1) C rfl dX5_akin_133 ?_
  refine go_icmp_gt C 141 rfl dX5_akin_134 (fun hc => ?_) (fun hc => ?_)
  · replace hw := hw.1 hc
    refine go_iconst (v := 0) C rfl dX5_akin_141 ?_
    exact go_zret C hr rfl ⟨_, rfl, hw⟩ dX5_akin_142
  · replace hw := hw.2 hc
    refine go_iconst (v := 1) C rfl dX5_akin_137 ?_
    refine go_goto C 142 rfl dX5_akin_138 ?_
    exact go_zret C hr rfl ⟨_, rfl, hw⟩ dX5_akin_142
set_option maxRecDepth 20000 in
set_option maxHeartbeats 4000000 in
theorem gbX5_akin_69 {X : XT} {G : GT} {l : Launch} {d : Nat}  {post : Int32 → St → Prop} (C : Cx X G cX5_akin RX5) (hr : Rt X G (some .boolean) (fun v τ => ∃ r : Int32, v = some (.int r) ∧ post r τ)) (hR : Rm X l d) (hnl : X.2.2.2.2.2.2.2.2.2.2.1 = 8)  (hd : 2 ≤ d) (hN : 75 ≤ G.2.2.2.2.2)   
    : ∀ (n : Nat) (v1 : Int32) (v2 : Int32) (v3 : Int32) (v4 : Int32) (v5 : Int32) (v6 : Int32) (v7 : Int32) (σ : St), wbX5_akin_69   post n v1 v2 v3 v4 v5 v6 v7 σ → Go X G 69 [(0, .ref (G.2.2.1 1)), (1, .int v1), (2, .int v2), (3, .int v3), (4, .int v4), (5, .int v5), (6, .int v6), (7, .int v7)] [] σ := by
  intro n
  induction n with
  | zero => intro v1 v2 v3 v4 v5 v6 v7 σ hw; exact hw.elim
  | succ n ih =>
    intro v1 v2 v3 v4 v5 v6 v7 σ hw
    have hw : (((v5 - v6) ≤ v7 →
      wbX5_akin_121 post v3 v4 v6 v7 σ) ∧
    (¬ (v5 - v6) ≤ v7 →
      vp_in ((((v1 * 10) + v3) - 1) - v7) 160 ∧ (
      vp_in ((((v2 * 10) + v4) - 1) - v7) 160 ∧ (
      ((¬ (gI σ 7 ((((v1 * 10) + v3) - 1) - v7).toNatClampNeg) = (gI σ 7 ((((v2 * 10) + v4) - 1) - v7).toNatClampNeg) →
        wbX5_akin_121 post v3 v4 v6 v7 σ) ∧
      ((gI σ 7 ((((v1 * 10) + v3) - 1) - v7).toNatClampNeg) = (gI σ 7 ((((v2 * 10) + v4) - 1) - v7).toNatClampNeg) →
        ∀ v7_1 : Int32, v7_1 = v7 + 1 →
        wbX5_akin_69 post n v1 v2 v3 v4 v5 v6 v7_1 σ)))))) := hw
    refine go_iload C 7 rfl dX5_akin_69 ?_
    refine go_iload C 5 rfl dX5_akin_71 ?_
    refine go_iload C 6 rfl dX5_akin_73 ?_
    refine go_isub C dX5_akin_75 ?_
    refine go_icmp_ge C 121 rfl dX5_akin_76 (fun hc => ?_) (fun hc => ?_)
    · replace hw := hw.1 hc
      refine go_sub [3, 4, 6, 7] rfl ?_
      exact (gbX5_akin_121 C hr hR hnl hd hN) _ _ _ _ _ hw
    · replace hw := hw.2 hc
      refine go_aload_n C 0 rfl rfl dX5_akin_79 ?_
      refine go_get (v := .ref (G.2.2.1 7)) C (shX5 G) (ltX5 hN) lkX5_28 rfl dX5_akin_80 ?_
      refine go_iload_n C 1 rfl rfl dX5_akin_83 ?_
      refine go_bipush (v := 10) C rfl dX5_akin_84 ?_
      refine go_imul C dX5_akin_86 ?_
      refine go_iload_n C 3 rfl rfl dX5_akin_87 ?_
      refine go_iadd C dX5_akin_88 ?_
      refine go_iconst (v := 1) C rfl dX5_akin_89 ?_
      refine go_isub C dX5_akin_90 ?_
      refine go_iload C 7 rfl dX5_akin_91 ?_
      refine go_isub C dX5_akin_93 ?_
      refine go_iald C (saX5_sounds G) (laX5_sounds hN) hw.1 dX5_akin_94 ?_
      replace hw := hw.2
      refine go_aload_n C 0 rfl rfl dX5_akin_95 ?_
      refine go_get (v := .ref (G.2.2.1 7)) C (shX5 G) (ltX5 hN) lkX5_28 rfl dX5_akin_96 ?_
      refine go_iload_n C 2 rfl rfl dX5_akin_99 ?_
      refine go_bipush (v := 10) C rfl dX5_akin_100 ?_
      refine go_imul C dX5_akin_102 ?_
      refine go_iload C 4 rfl dX5_akin_103 ?_
      refine go_iadd C dX5_akin_105 ?_
      refine go_iconst (v := 1) C rfl dX5_akin_106 ?_
      refine go_isub C dX5_akin_107 ?_
      refine go_iload C 7 rfl dX5_akin_108 ?_
      refine go_isub C dX5_akin_110 ?_
      refine go_iald C (saX5_sounds G) (laX5_sounds hN) hw.1 dX5_akin_111 ?_
      replace hw := hw.2
      refine go_icmp_ne C 121 rfl dX5_akin_112 (fun hc => ?_) (fun hc => ?_)
      · replace hw := hw.1 hc
        refine go_sub [3, 4, 6, 7] rfl ?_
        exact (gbX5_akin_121 C hr hR hnl hd hN) _ _ _ _ _ hw
      · replace hw := hw.2 hc
        obtain ⟨v7_1, ev7_1⟩ : ∃ z : Int32, z = v7 + 1 := ⟨_, rfl⟩
        replace hw := hw v7_1 ev7_1
        refine go_iinc (v := v7_1) (lv2 := [(7, .int v7_1), (0, .ref (G.2.2.1 1)), (1, .int v1), (2, .int v2), (3, .int v3), (4, .int v4), (5, .int v5), (6, .int v6)]) C 7 rfl (by rw [ev7_1]; rfl) (by rw [hnl]; decide) rfl dX5_akin_115 ?_
        refine go_goto C 69 rfl dX5_akin_118 ?_
        refine go_sub [1, 2, 3, 4, 5, 6, 7, 0] rfl ?_
        exact ih _ _ _ _ _ _ _ _ hw
set_option maxRecDepth 20000 in
set_option maxHeartbeats 4000000 in
theorem gbX5_akin_26 {X : XT} {G : GT} {l : Launch} {d : Nat}  {post : Int32 → St → Prop} (C : Cx X G cX5_akin RX5) (hr : Rt X G (some .boolean) (fun v τ => ∃ r : Int32, v = some (.int r) ∧ post r τ)) (hR : Rm X l d) (hnl : X.2.2.2.2.2.2.2.2.2.2.1 = 8)  (hd : 2 ≤ d) (hN : 75 ≤ G.2.2.2.2.2)   
    : ∀ (n : Nat) (v1 : Int32) (v2 : Int32) (v3 : Int32) (v4 : Int32) (v5 : Int32) (v6 : Int32) (σ : St), wbX5_akin_26   post n v1 v2 v3 v4 v5 v6 σ → Go X G 26 [(0, .ref (G.2.2.1 1)), (1, .int v1), (2, .int v2), (3, .int v3), (4, .int v4), (5, .int v5), (6, .int v6)] [] σ := by
  intro n
  induction n with
  | zero => intro v1 v2 v3 v4 v5 v6 σ hw; exact hw.elim
  | succ n ih =>
    intro v1 v2 v3 v4 v5 v6 σ hw
    have hw : ((v5 ≤ v6 →
      ∃ m_69, wbX5_akin_69 post m_69 v1 v2 v3 v4 v5 v6 0 σ) ∧
    (¬ v5 ≤ v6 →
      vp_in ((v1 * 10) + v6) 160 ∧ (
      vp_in ((v2 * 10) + v6) 160 ∧ (
      ((¬ (gI σ 7 ((v1 * 10) + v6).toNatClampNeg) = (gI σ 7 ((v2 * 10) + v6).toNatClampNeg) →
        ∃ m_69, wbX5_akin_69 post m_69 v1 v2 v3 v4 v5 v6 0 σ) ∧
      ((gI σ 7 ((v1 * 10) + v6).toNatClampNeg) = (gI σ 7 ((v2 * 10) + v6).toNatClampNeg) →
        ∀ v6_1 : Int32, v6_1 = v6 + 1 →
        wbX5_akin_26 post n v1 v2 v3 v4 v5 v6_1 σ)))))) := hw
    refine go_iload C 6 rfl dX5_akin_26 ?_
    refine go_iload C 5 rfl dX5_akin_28 ?_
    refine go_icmp_ge C 66 rfl dX5_akin_30 (fun hc => ?_) (fun hc => ?_)
    · replace hw := hw.1 hc
      refine go_iconst (v := 0) C rfl dX5_akin_66 ?_
      refine go_istore (lv2 := [(7, .int 0), (0, .ref (G.2.2.1 1)), (1, .int v1), (2, .int v2), (3, .int v3), (4, .int v4), (5, .int v5), (6, .int v6)]) C (by rw [hnl]; decide) rfl dX5_akin_67 ?_
      refine go_sub [1, 2, 3, 4, 5, 6, 7, 0] rfl ?_
      obtain ⟨n_0, hw⟩ := hw
      exact (gbX5_akin_69 C hr hR hnl hd hN) n_0 _ _ _ _ _ _ _ _ hw
    · replace hw := hw.2 hc
      refine go_aload_n C 0 rfl rfl dX5_akin_33 ?_
      refine go_get (v := .ref (G.2.2.1 7)) C (shX5 G) (ltX5 hN) lkX5_28 rfl dX5_akin_34 ?_
      refine go_iload_n C 1 rfl rfl dX5_akin_37 ?_
      refine go_bipush (v := 10) C rfl dX5_akin_38 ?_
      refine go_imul C dX5_akin_40 ?_
      refine go_iload C 6 rfl dX5_akin_41 ?_
      refine go_iadd C dX5_akin_43 ?_
      refine go_iald C (saX5_sounds G) (laX5_sounds hN) hw.1 dX5_akin_44 ?_
      replace hw := hw.2
      refine go_aload_n C 0 rfl rfl dX5_akin_45 ?_
      refine go_get (v := .ref (G.2.2.1 7)) C (shX5 G) (ltX5 hN) lkX5_28 rfl dX5_akin_46 ?_
      refine go_iload_n C 2 rfl rfl dX5_akin_49 ?_
      refine go_bipush (v := 10) C rfl dX5_akin_50 ?_
      refine go_imul C dX5_akin_52 ?_
      refine go_iload C 6 rfl dX5_akin_53 ?_
      refine go_iadd C dX5_akin_55 ?_
      refine go_iald C (saX5_sounds G) (laX5_sounds hN) hw.1 dX5_akin_56 ?_
      replace hw := hw.2
      refine go_icmp_ne C 66 rfl dX5_akin_57 (fun hc => ?_) (fun hc => ?_)
      · replace hw := hw.1 hc
        refine go_iconst (v := 0) C rfl dX5_akin_66 ?_
        refine go_istore (lv2 := [(7, .int 0), (0, .ref (G.2.2.1 1)), (1, .int v1), (2, .int v2), (3, .int v3), (4, .int v4), (5, .int v5), (6, .int v6)]) C (by rw [hnl]; decide) rfl dX5_akin_67 ?_
        refine go_sub [1, 2, 3, 4, 5, 6, 7, 0] rfl ?_
        obtain ⟨n_0, hw⟩ := hw
        exact (gbX5_akin_69 C hr hR hnl hd hN) n_0 _ _ _ _ _ _ _ _ hw
      · replace hw := hw.2 hc
        obtain ⟨v6_1, ev6_1⟩ : ∃ z : Int32, z = v6 + 1 := ⟨_, rfl⟩
        replace hw := hw v6_1 ev6_1
        refine go_iinc (v := v6_1) (lv2 := [(6, .int v6_1), (0, .ref (G.2.2.1 1)), (1, .int v1), (2, .int v2), (3, .int v3), (4, .int v4), (5, .int v5)]) C 6 rfl (by rw [ev6_1]; rfl) (by rw [hnl]; decide) rfl dX5_akin_60 ?_
        refine go_goto C 26 rfl dX5_akin_63 ?_
        refine go_sub [1, 2, 3, 4, 5, 6, 0] rfl ?_
        exact ih _ _ _ _ _ _ _ hw
set_option maxRecDepth 20000 in
set_option maxHeartbeats 4000000 in
theorem spX5_akin {l : Launch} {G : GT} {d : Nat}  (hd : 2 ≤ d)  (hN : 75 ≤ G.2.2.2.2.2)  {a1 : Int32} {a2 : Int32} {σ : St} {post : Int32 → St → Prop} (hw : wpX5_akin  a1 a2 σ post) : Sp l G d yX5_akin cX5_akin 8 (some .boolean) [.ref (G.2.2.1 1), .int a1, .int a2] σ (fun v τ => ∃ r : Int32, v = some (.int r) ∧ post r τ) := by
  refine Sp.of (by decide) (Nat.le_of_ble_eq_true rfl) fun X C hr hR hnl => ?_
  show Go X G 0 [(0, .ref (G.2.2.1 1)), (1, .int a1), (2, .int a2)] [] σ
  have hw : vp_in a1 16 ∧ (
  ∀ v3_1 : Int32, v3_1 = (gI σ 8 a1.toNatClampNeg) →
  vp_in a2 16 ∧ (
  ∀ v4_2 : Int32, v4_2 = (gI σ 8 a2.toNatClampNeg) →
  ∀ v5_3 : Int32, v5_3 = (if v4_2 < v3_1 then v4_2 else v3_1) →
  ∃ m_26, wbX5_akin_26 post m_26 a1 a2 v3_1 v4_2 v5_3 0 σ)) := hw
  refine go_aload_n C 0 rfl rfl dX5_akin_0 ?_
  refine go_get (v := .ref (G.2.2.1 8)) C (shX5 G) (ltX5 hN) lkX5_31 rfl dX5_akin_1 ?_
  refine go_iload_n C 1 rfl rfl dX5_akin_4 ?_
  refine go_iald C (saX5_soundCounts G) (laX5_soundCounts hN) hw.1 dX5_akin_5 ?_
  replace hw := hw.2
  refine go_topi (fun v3_1 ev3_1 => ?_)
  replace hw := hw v3_1 ev3_1
  refine go_istore_n (lv2 := [(3, .int v3_1), (0, .ref (G.2.2.1 1)), (1, .int a1), (2, .int a2)]) C rfl (by rw [hnl]; decide) rfl dX5_akin_6 ?_
  refine go_aload_n C 1 rfl rfl dX5_akin_7 ?_
  refine go_get (v := .ref (G.2.2.1 8)) C (shX5 G) (ltX5 hN) lkX5_31 rfl dX5_akin_8 ?_
  refine go_iload_n C 3 rfl rfl dX5_akin_11 ?_
  refine go_iald C (saX5_soundCounts G) (laX5_soundCounts hN) hw.1 dX5_akin_12 ?_
  replace hw := hw.2
  refine go_topi (fun v4_2 ev4_2 => ?_)
  replace hw := hw v4_2 ev4_2
  refine go_istore (lv2 := [(4, .int v4_2), (3, .int v3_1), (0, .ref (G.2.2.1 1)), (1, .int a1), (2, .int a2)]) C (by rw [hnl]; decide) rfl dX5_akin_13 ?_
  refine go_iload_n C 1 rfl rfl dX5_akin_15 ?_
  refine go_iload C 0 rfl dX5_akin_16 ?_
  refine go_mmin (d := 0) C (rm_le hR (Nat.le_trans (by decide) hd)) mlX5_76 (Nat.le_of_ble_eq_true rfl) dX5_akin_18 ?_
  refine go_topi (fun v5_3 ev5_3 => ?_)
  replace hw := hw v5_3 ev5_3
  refine go_istore (lv2 := [(5, .int v5_3), (4, .int v4_2), (3, .int v3_1), (0, .ref (G.2.2.1 1)), (1, .int a1), (2, .int a2)]) C (by rw [hnl]; decide) rfl dX5_akin_21 ?_
  refine go_iconst (v := 0) C rfl dX5_akin_23 ?_
  refine go_istore (lv2 := [(6, .int 0), (5, .int v5_3), (4, .int v4_2), (3, .int v3_1), (0, .ref (G.2.2.1 1)), (1, .int a1), (2, .int a2)]) C (by rw [hnl]; decide) rfl dX5_akin_24 ?_
  refine go_sub [4, 5, 6, 3, 2, 1, 0] rfl ?_
  obtain ⟨n_0, hw⟩ := hw
  exact (gbX5_akin_26 C hr hR hnl hd hN) n_0 _ _ _ _ _ _ _ hw
-- CradleNames$Odds.setDraw(III)V
set_option maxRecDepth 20000 in
set_option maxHeartbeats 4000000 in
theorem spX6_setDraw {l : Launch} {G : GT} {d : Nat}  (hd : 1 ≤ d)  (hN : 75 ≤ G.2.2.2.2.2)  {a1 : Int32} {a2 : Int32} {a3 : Int32} {σ : St} {post : St → Prop} (hw : wpX6_setDraw  a1 a2 a3 σ post) : Sp l G d yX6_setDraw cX6_setDraw 4 none [.ref (G.2.2.1 60), .int a1, .int a2, .int a3] σ (fun v τ => v = none ∧ post τ) := by
  refine Sp.of (by decide) (Nat.le_of_ble_eq_true rfl) fun X C hr hR hnl => ?_
  show Go X G 0 [(0, .ref (G.2.2.1 60)), (1, .int a1), (2, .int a2), (3, .int a3)] [] σ
  have hw : ∀ σ_1 : St, σ_1 = sI σ 60 3 a1 →
  ∀ σ_2 : St, σ_2 = sI σ_1 60 4 a2 →
  ∀ σ_3 : St, σ_3 = sI σ_2 60 5 a3 →
  post σ_3 := hw
  refine go_aload_n C 0 rfl rfl dX6_setDraw_0 ?_
  refine go_iload_n C 1 rfl rfl dX6_setDraw_1 ?_
  refine go_puti C (shX6 G) (ltX6 hN) lpX6_19 (show 3 < 6 by decide) (pxX6_3 G _ _) dX6_setDraw_2 (go_nm fun σ_1 eσ_1 => ?_)
  replace hw := hw σ_1 eσ_1
  refine go_aload_n C 0 rfl rfl dX6_setDraw_5 ?_
  refine go_iload_n C 2 rfl rfl dX6_setDraw_6 ?_
  refine go_puti C (shX6 G) (ltX6 hN) lpX6_23 (show 4 < 6 by decide) (pxX6_4 G _ _) dX6_setDraw_7 (go_nm fun σ_2 eσ_2 => ?_)
  replace hw := hw σ_2 eσ_2
  refine go_aload_n C 0 rfl rfl dX6_setDraw_10 ?_
  refine go_iload_n C 3 rfl rfl dX6_setDraw_11 ?_
  refine go_puti C (shX6 G) (ltX6 hN) lpX6_26 (show 5 < 6 by decide) (pxX6_5 G _ _) dX6_setDraw_12 (go_nm fun σ_3 eσ_3 => ?_)
  replace hw := hw σ_3 eσ_3
  exact go_vret C hr ⟨rfl, hw⟩ dX6_setDraw_15
-- CradleNames$Odds.times([II)V
set_option maxRecDepth 20000 in
set_option maxHeartbeats 4000000 in
theorem gbX6_times_5 {X : XT} {G : GT} {l : Launch} {d : Nat} {q1 : Nat} {n1 : Nat} {post : St → Prop} (C : Cx X G cX6_times RX6) (hr : Rt X G none (fun v τ => v = none ∧ post τ)) (hR : Rm X l d) (hnl : X.2.2.2.2.2.2.2.2.2.2.1 = 5)  (hd : 1 ≤ d) (hN : 75 ≤ G.2.2.2.2.2) (hsq1 : ∀ x, wcc G q1 x = .inl (G.2.1 0, n1, .inl x.1)) (hlq1 : q1 < G.2.2.2.2.2)  
    : ∀ (n : Nat) (v1 : Int32) (v2 : Int64) (v4 : Int32) (σ : St), wbX6_times_5 q1 n1  post n v1 v2 v4 σ → Go X G 5 [(0, .ref (G.2.2.1 q1)), (1, .int v1), (2, .long v2), (4, .int v4)] [] σ := by
  intro n
  induction n with
  | zero => intro v1 v2 v4 σ hw; exact hw.elim
  | succ n ih =>
    intro v1 v2 v4 σ hw
    have hw : ((24 ≤ v4 →
      post σ) ∧
    (¬ 24 ≤ v4 →
      vp_in v4 n1 ∧ (
      ∀ v2_1 : Int64, v2_1 = (v2 + ((gI σ q1 v4.toNatClampNeg).toInt64 * v1.toInt64)) →
      vp_in v4 n1 ∧ (
      ∀ σ_2 : St, σ_2 = sI σ q1 v4.toNatClampNeg ((v2_1 &&& 16777215).toInt32) →
      ∀ v2_3 : Int64, v2_3 = (v2_1 >>> ((24 : Int32).toInt64 &&& 63)) →
      ∀ v4_4 : Int32, v4_4 = v4 + 1 →
      wbX6_times_5 q1 n1 post n v1 v2_3 v4_4 σ_2)))) := hw
    refine go_iload C 3 rfl dX6_times_5 ?_
    refine go_bipush (v := 24) C rfl dX6_times_7 ?_
    refine go_icmp_ge C 44 rfl dX6_times_9 (fun hc => ?_) (fun hc => ?_)
    · replace hw := hw.1 hc
      exact go_vret C hr ⟨rfl, hw⟩ dX6_times_44
    · replace hw := hw.2 hc
      refine go_lload_n C 2 rfl rfl dX6_times_12 ?_
      refine go_aload_n C 0 rfl rfl dX6_times_13 ?_
      refine go_iload C 3 rfl dX6_times_14 ?_
      refine go_iald C hsq1 hlq1 hw.1 dX6_times_16 ?_
      replace hw := hw.2
      refine go_i2l C dX6_times_17 ?_
      refine go_iload_n C 1 rfl rfl dX6_times_18 ?_
      refine go_i2l C dX6_times_19 ?_
      refine go_lmul C dX6_times_20 ?_
      refine go_ladd C dX6_times_21 ?_
      refine go_topl (fun v2_1 ev2_1 => ?_)
      replace hw := hw v2_1 ev2_1
      refine go_lstore_n (lv2 := [(2, .long v2_1), (0, .ref (G.2.2.1 q1)), (1, .int v1), (4, .int v4)]) C rfl (by rw [hnl]; decide) rfl dX6_times_22 ?_
      refine go_aload_n C 1 rfl rfl dX6_times_23 ?_
      refine go_iload C 3 rfl dX6_times_24 ?_
      refine go_lload_n C 0 rfl rfl dX6_times_26 ?_
      refine go_ldc2 (v := 16777215) C kcX6_51 dX6_times_27 ?_
      refine go_land C dX6_times_30 ?_
      refine go_l2i C dX6_times_31 ?_
      refine go_iast C hsq1 hlq1 hw.1 dX6_times_32 (go_nm fun σ_2 eσ_2 => ?_)
      replace hw := hw.2 σ_2 eσ_2
      refine go_lload_n C 0 rfl rfl dX6_times_33 ?_
      refine go_bipush (v := 24) C rfl dX6_times_34 ?_
      refine go_lshr C dX6_times_36 ?_
      refine go_topl (fun v2_3 ev2_3 => ?_)
      replace hw := hw v2_3 ev2_3
      refine go_lstore_n (lv2 := [(2, .long v2_3), (0, .ref (G.2.2.1 q1)), (1, .int v1), (4, .int v4)]) C rfl (by rw [hnl]; decide) rfl dX6_times_37 ?_
      obtain ⟨v4_4, ev4_4⟩ : ∃ z : Int32, z = v4 + 1 := ⟨_, rfl⟩
      replace hw := hw v4_4 ev4_4
      refine go_iinc (v := v4_4) (lv2 := [(4, .int v4_4), (2, .long v2_3), (0, .ref (G.2.2.1 q1)), (1, .int v1)]) C 3 rfl (by rw [ev4_4]; rfl) (by rw [hnl]; decide) rfl dX6_times_38 ?_
      refine go_goto C 5 rfl dX6_times_41 ?_
      refine go_sub [2, 3, 1, 0] rfl ?_
      exact ih _ _ _ _ hw
set_option maxRecDepth 20000 in
set_option maxHeartbeats 4000000 in
theorem spX6_times {l : Launch} {G : GT} {d : Nat}  (hd : 1 ≤ d) {q1 : Nat} {n1 : Nat} (hN : 75 ≤ G.2.2.2.2.2) (hsq1 : ∀ x, wcc G q1 x = .inl (G.2.1 0, n1, .inl x.1)) (hlq1 : q1 < G.2.2.2.2.2) {a2 : Int32} {σ : St} {post : St → Prop} (hw : wpX6_times q1 n1 a2 σ post) : Sp l G d yX6_times cX6_times 5 none [.ref (G.2.2.1 q1), .int a2] σ (fun v τ => v = none ∧ post τ) := by
  refine Sp.of (by decide) (Nat.le_of_ble_eq_true rfl) fun X C hr hR hnl => ?_
  show Go X G 0 [(0, .ref (G.2.2.1 q1)), (1, .int a2)] [] σ
  have hw : ∃ m_5, wbX6_times_5 q1 n1 post m_5 a2 0 0 σ := hw
  refine go_lconst (v := 0) C rfl dX6_times_0 ?_
  refine go_lstore_n (lv2 := [(2, .long 0), (0, .ref (G.2.2.1 q1)), (1, .int a2)]) C rfl (by rw [hnl]; decide) rfl dX6_times_1 ?_
  refine go_iconst (v := 0) C rfl dX6_times_2 ?_
  refine go_istore (lv2 := [(4, .int 0), (2, .long 0), (0, .ref (G.2.2.1 q1)), (1, .int a2)]) C (by rw [hnl]; decide) rfl dX6_times_3 ?_
  refine go_sub [2, 3, 1, 0] rfl ?_
  obtain ⟨n_0, hw⟩ := hw
  exact (gbX6_times_5 C hr hR hnl hd hN hsq1 hlq1) n_0 _ _ _ _ hw
-- CradleNames$Odds.over([II)V
set_option maxRecDepth 20000 in
set_option maxHeartbeats 4000000 in
theorem gbX6_over_11 {X : XT} {G : GT} {l : Launch} {d : Nat} {q1 : Nat} {n1 : Nat} {post : St → Prop} (C : Cx X G cX6_over RX6) (hr : Rt X G none (fun v τ => v = none ∧ post τ)) (hR : Rm X l d) (hnl : X.2.2.2.2.2.2.2.2.2.2.1 = 5)  (hd : 1 ≤ d) (hN : 75 ≤ G.2.2.2.2.2) (hsq1 : ∀ x, wcc G q1 x = .inl (G.2.1 0, n1, .inl x.1)) (hlq1 : q1 < G.2.2.2.2.2)  
    : ∀ (n : Nat) (v1 : Int32) (v2 : Int64) (v4 : Int32) (σ : St), wbX6_over_11 q1 n1  post n v1 v2 v4 σ → Go X G 11 [(0, .ref (G.2.2.1 q1)), (1, .int v1), (2, .long v2), (4, .int v4)] [] σ := by
  intro n
  induction n with
  | zero => intro v1 v2 v4 σ hw; exact hw.elim
  | succ n ih =>
    intro v1 v2 v4 σ hw
    have hw : ((v4 < 0 →
      post σ) ∧
    (¬ v4 < 0 →
      vp_in v4 n1 ∧ (
      ∀ v2_1 : Int64, v2_1 = ((v2 <<< ((24 : Int32).toInt64 &&& 63)) + (gI σ q1 v4.toNatClampNeg).toInt64) →
      ¬ v1.toInt64 = 0 ∧ (
      vp_in v4 n1 ∧ (
      ∀ σ_2 : St, σ_2 = sI σ q1 v4.toNatClampNeg ((v2_1 / v1.toInt64).toInt32) →
      ¬ v1.toInt64 = 0 ∧ (
      ∀ v2_3 : Int64, v2_3 = (v2_1 - v2_1 / v1.toInt64 * v1.toInt64) →
      ∀ v4_4 : Int32, v4_4 = v4 + (-1) →
      wbX6_over_11 q1 n1 post n v1 v2_3 v4_4 σ_2)))))) := hw
    refine go_iload C 3 rfl dX6_over_11 ?_
    refine go_if_lt C 47 rfl dX6_over_13 (fun hc => ?_) (fun hc => ?_)
    · replace hw := hw.1 hc
      exact go_vret C hr ⟨rfl, hw⟩ dX6_over_47
    · replace hw := hw.2 hc
      refine go_lload_n C 2 rfl rfl dX6_over_16 ?_
      refine go_bipush (v := 24) C rfl dX6_over_17 ?_
      refine go_lshl C dX6_over_19 ?_
      refine go_aload_n C 0 rfl rfl dX6_over_20 ?_
      refine go_iload C 3 rfl dX6_over_21 ?_
      refine go_iald C hsq1 hlq1 hw.1 dX6_over_23 ?_
      replace hw := hw.2
      refine go_i2l C dX6_over_24 ?_
      refine go_ladd C dX6_over_25 ?_
      refine go_topl (fun v2_1 ev2_1 => ?_)
      replace hw := hw v2_1 ev2_1
      refine go_lstore_n (lv2 := [(2, .long v2_1), (0, .ref (G.2.2.1 q1)), (1, .int v1), (4, .int v4)]) C rfl (by rw [hnl]; decide) rfl dX6_over_26 ?_
      refine go_aload_n C 1 rfl rfl dX6_over_27 ?_
      refine go_iload C 3 rfl dX6_over_28 ?_
      refine go_lload_n C 0 rfl rfl dX6_over_30 ?_
      refine go_iload_n C 2 rfl rfl dX6_over_31 ?_
      refine go_i2l C dX6_over_32 ?_
      refine go_ldiv C hw.1 dX6_over_33 ?_
      replace hw := hw.2
      refine go_l2i C dX6_over_34 ?_
      refine go_iast C hsq1 hlq1 hw.1 dX6_over_35 (go_nm fun σ_2 eσ_2 => ?_)
      replace hw := hw.2 σ_2 eσ_2
      refine go_lload_n C 0 rfl rfl dX6_over_36 ?_
      refine go_iload_n C 2 rfl rfl dX6_over_37 ?_
      refine go_i2l C dX6_over_38 ?_
      refine go_lrem C hw.1 dX6_over_39 ?_
      replace hw := hw.2
      refine go_topl (fun v2_3 ev2_3 => ?_)
      replace hw := hw v2_3 ev2_3
      refine go_lstore_n (lv2 := [(2, .long v2_3), (0, .ref (G.2.2.1 q1)), (1, .int v1), (4, .int v4)]) C rfl (by rw [hnl]; decide) rfl dX6_over_40 ?_
      obtain ⟨v4_4, ev4_4⟩ : ∃ z : Int32, z = v4 + (-1) := ⟨_, rfl⟩
      replace hw := hw v4_4 ev4_4
      refine go_iinc (v := v4_4) (lv2 := [(4, .int v4_4), (2, .long v2_3), (0, .ref (G.2.2.1 q1)), (1, .int v1)]) C 3 rfl (by rw [ev4_4]; rfl) (by rw [hnl]; decide) rfl dX6_over_41 ?_
      refine go_goto C 11 rfl dX6_over_44 ?_
      refine go_sub [2, 3, 1, 0] rfl ?_
      exact ih _ _ _ _ hw
set_option maxRecDepth 20000 in
set_option maxHeartbeats 4000000 in
theorem spX6_over {l : Launch} {G : GT} {d : Nat}  (hd : 1 ≤ d) {q1 : Nat} {n1 : Nat} (hN : 75 ≤ G.2.2.2.2.2) (hsq1 : ∀ x, wcc G q1 x = .inl (G.2.1 0, n1, .inl x.1)) (hlq1 : q1 < G.2.2.2.2.2) {a2 : Int32} {σ : St} {post : St → Prop} (hw : wpX6_over q1 n1 a2 σ post) : Sp l G d yX6_over cX6_over 5 none [.ref (G.2.2.1 q1), .int a2] σ (fun v τ => v = none ∧ post τ) := by
  refine Sp.of (by decide) (Nat.le_of_ble_eq_true rfl) fun X C hr hR hnl => ?_
  show Go X G 0 [(0, .ref (G.2.2.1 q1)), (1, .int a2)] [] σ
  have hw : ((¬ a2 = 0 →
    ∃ m_11, wbX6_over_11 q1 n1 post m_11 a2 0 23 σ) ∧
  (a2 = 0 →
    post σ)) := hw
  refine go_iload_n C 1 rfl rfl dX6_over_0 ?_
  refine go_if_ne C 5 rfl dX6_over_1 (fun hc => ?_) (fun hc => ?_)
  · replace hw := hw.1 hc
    refine go_lconst (v := 0) C rfl dX6_over_5 ?_
    refine go_lstore_n (lv2 := [(2, .long 0), (0, .ref (G.2.2.1 q1)), (1, .int a2)]) C rfl (by rw [hnl]; decide) rfl dX6_over_6 ?_
    refine go_bipush (v := 23) C rfl dX6_over_7 ?_
    refine go_istore (lv2 := [(4, .int 23), (2, .long 0), (0, .ref (G.2.2.1 q1)), (1, .int a2)]) C (by rw [hnl]; decide) rfl dX6_over_9 ?_
    refine go_sub [2, 3, 1, 0] rfl ?_
    obtain ⟨n_0, hw⟩ := hw
    exact (gbX6_over_11 C hr hR hnl hd hN hsq1 hlq1) n_0 _ _ _ _ hw
  · replace hw := hw.2 hc
    exact go_vret C hr ⟨rfl, hw⟩ dX6_over_4
-- CradleNames$Odds.addTerm()V
set_option maxRecDepth 20000 in
set_option maxHeartbeats 4000000 in
theorem gbX6_addTerm_4 {X : XT} {G : GT} {l : Launch} {d : Nat}  {post : St → Prop} (C : Cx X G cX6_addTerm RX6) (hr : Rt X G none (fun v τ => v = none ∧ post τ)) (hR : Rm X l d) (hnl : X.2.2.2.2.2.2.2.2.2.2.1 = 3)  (hd : 1 ≤ d) (hN : 75 ≤ G.2.2.2.2.2)   
    : ∀ (n : Nat) (v1 : Int32) (v2 : Int32) (σ : St), wbX6_addTerm_4   post n v1 v2 σ → Go X G 4 [(0, .ref (G.2.2.1 60)), (1, .int v1), (2, .int v2)] [] σ := by
  intro n
  induction n with
  | zero => intro v1 v2 σ hw; exact hw.elim
  | succ n ih =>
    intro v1 v2 σ hw
    have hw : ((24 ≤ v2 →
      post σ) ∧
    (¬ 24 ≤ v2 →
      vp_in v2 24 ∧ (
      vp_in v2 24 ∧ (
      ∀ v1_1 : Int32, v1_1 = (v1 + ((gI σ 62 v2.toNatClampNeg) + (gI σ 61 v2.toNatClampNeg))) →
      vp_in v2 24 ∧ (
      ∀ σ_2 : St, σ_2 = sI σ 62 v2.toNatClampNeg (v1_1 &&& 16777215) →
      ∀ v1_3 : Int32, v1_3 = (v1_1 >>> (24 &&& 31)) →
      ∀ v2_4 : Int32, v2_4 = v2 + 1 →
      wbX6_addTerm_4 post n v1_3 v2_4 σ_2))))) := hw
    refine go_iload_n C 2 rfl rfl dX6_addTerm_4 ?_
    refine go_bipush (v := 24) C rfl dX6_addTerm_5 ?_
    refine go_icmp_ge C 47 rfl dX6_addTerm_7 (fun hc => ?_) (fun hc => ?_)
    · replace hw := hw.1 hc
      exact go_vret C hr ⟨rfl, hw⟩ dX6_addTerm_47
    · replace hw := hw.2 hc
      refine go_iload_n C 1 rfl rfl dX6_addTerm_10 ?_
      refine go_aload_n C 0 rfl rfl dX6_addTerm_11 ?_
      refine go_get (v := .ref (G.2.2.1 62)) C (shX6 G) (ltX6 hN) lkX6_13 rfl dX6_addTerm_12 ?_
      refine go_iload_n C 2 rfl rfl dX6_addTerm_15 ?_
      refine go_iald C (saX6_sum G) (laX6_sum hN) hw.1 dX6_addTerm_16 ?_
      replace hw := hw.2
      refine go_aload_n C 0 rfl rfl dX6_addTerm_17 ?_
      refine go_get (v := .ref (G.2.2.1 61)) C (shX6 G) (ltX6 hN) lkX6_9 rfl dX6_addTerm_18 ?_
      refine go_iload_n C 2 rfl rfl dX6_addTerm_21 ?_
      refine go_iald C (saX6_term G) (laX6_term hN) hw.1 dX6_addTerm_22 ?_
      replace hw := hw.2
      refine go_iadd C dX6_addTerm_23 ?_
      refine go_iadd C dX6_addTerm_24 ?_
      refine go_topi (fun v1_1 ev1_1 => ?_)
      replace hw := hw v1_1 ev1_1
      refine go_istore_n (lv2 := [(1, .int v1_1), (0, .ref (G.2.2.1 60)), (2, .int v2)]) C rfl (by rw [hnl]; decide) rfl dX6_addTerm_25 ?_
      refine go_aload_n C 1 rfl rfl dX6_addTerm_26 ?_
      refine go_get (v := .ref (G.2.2.1 62)) C (shX6 G) (ltX6 hN) lkX6_13 rfl dX6_addTerm_27 ?_
      refine go_iload_n C 2 rfl rfl dX6_addTerm_30 ?_
      refine go_iload_n C 0 rfl rfl dX6_addTerm_31 ?_
      refine go_ldc (v := 16777215) C kcX6_53 dX6_addTerm_32 ?_
      refine go_iand C dX6_addTerm_34 ?_
      refine go_iast C (saX6_sum G) (laX6_sum hN) hw.1 dX6_addTerm_35 (go_nm fun σ_2 eσ_2 => ?_)
      replace hw := hw.2 σ_2 eσ_2
      refine go_iload_n C 0 rfl rfl dX6_addTerm_36 ?_
      refine go_bipush (v := 24) C rfl dX6_addTerm_37 ?_
      refine go_ishr C dX6_addTerm_39 ?_
      refine go_topi (fun v1_3 ev1_3 => ?_)
      replace hw := hw v1_3 ev1_3
      refine go_istore_n (lv2 := [(1, .int v1_3), (0, .ref (G.2.2.1 60)), (2, .int v2)]) C rfl (by rw [hnl]; decide) rfl dX6_addTerm_40 ?_
      obtain ⟨v2_4, ev2_4⟩ : ∃ z : Int32, z = v2 + 1 := ⟨_, rfl⟩
      replace hw := hw v2_4 ev2_4
      refine go_iinc (v := v2_4) (lv2 := [(2, .int v2_4), (1, .int v1_3), (0, .ref (G.2.2.1 60))]) C 2 rfl (by rw [ev2_4]; rfl) (by rw [hnl]; decide) rfl dX6_addTerm_41 ?_
      refine go_goto C 4 rfl dX6_addTerm_44 ?_
      refine go_sub [2, 1, 0] rfl ?_
      exact ih _ _ _ hw
set_option maxRecDepth 20000 in
set_option maxHeartbeats 4000000 in
theorem spX6_addTerm {l : Launch} {G : GT} {d : Nat}  (hd : 1 ≤ d)  (hN : 75 ≤ G.2.2.2.2.2)   {σ : St} {post : St → Prop} (hw : wpX6_addTerm   σ post) : Sp l G d yX6_addTerm cX6_addTerm 3 none [.ref (G.2.2.1 60)] σ (fun v τ => v = none ∧ post τ) := by
  refine Sp.of (by decide) (Nat.le_of_ble_eq_true rfl) fun X C hr hR hnl => ?_
  show Go X G 0 [(0, .ref (G.2.2.1 60))] [] σ
  have hw : ∃ m_4, wbX6_addTerm_4 post m_4 0 0 σ := hw
  refine go_iconst (v := 0) C rfl dX6_addTerm_0 ?_
  refine go_istore_n (lv2 := [(1, .int 0), (0, .ref (G.2.2.1 60))]) C rfl (by rw [hnl]; decide) rfl dX6_addTerm_1 ?_
  refine go_iconst (v := 0) C rfl dX6_addTerm_2 ?_
  refine go_istore_n (lv2 := [(2, .int 0), (1, .int 0), (0, .ref (G.2.2.1 60))]) C rfl (by rw [hnl]; decide) rfl dX6_addTerm_3 ?_
  refine go_sub [2, 1, 0] rfl ?_
  obtain ⟨n_0, hw⟩ := hw
  exact (gbX6_addTerm_4 C hr hR hnl hd hN) n_0 _ _ _ hw
-- java/util/Arrays.fill([II)V
set_option maxRecDepth 20000 in
set_option maxHeartbeats 4000000 in
theorem gbJ7_fill_53178_5 {X : XT} {G : GT} {l : Launch} {d : Nat} {q1 : Nat} {n1 : Nat} {post : St → Prop} (C : Cx X G cJ7_fill_53178 RJ7) (hr : Rt X G none (fun v τ => v = none ∧ post τ)) (hR : Rm X l d) (hnl : X.2.2.2.2.2.2.2.2.2.2.1 = 4)  (hd : 1 ≤ d) (hsq1 : ∀ x, wcc G q1 x = .inl (G.2.1 0, n1, .inl x.1)) (hlq1 : q1 < G.2.2.2.2.2)  
    : ∀ (n : Nat) (v1 : Int32) (v2 : Int32) (v3 : Int32) (σ : St), wbJ7_fill_53178_5 q1 n1  post n v1 v2 v3 σ → Go X G 5 [(0, .ref (G.2.2.1 q1)), (1, .int v1), (2, .int v2), (3, .int v3)] [] σ := by
  intro n
  induction n with
  | zero => intro v1 v2 v3 σ hw; exact hw.elim
  | succ n ih =>
    intro v1 v2 v3 σ hw
    have hw : ((v3 ≤ v2 →
      post σ) ∧
    (¬ v3 ≤ v2 →
      vp_in v2 n1 ∧ (
      ∀ σ_1 : St, σ_1 = sI σ q1 v2.toNatClampNeg v1 →
      ∀ v2_2 : Int32, v2_2 = v2 + 1 →
      wbJ7_fill_53178_5 q1 n1 post n v1 v2_2 v3 σ_1))) := hw
    refine go_iload_n C 2 rfl rfl dJ7_fill_53178_5 ?_
    refine go_iload_n C 3 rfl rfl dJ7_fill_53178_6 ?_
    refine go_icmp_ge C 20 rfl dJ7_fill_53178_7 (fun hc => ?_) (fun hc => ?_)
    · replace hw := hw.1 hc
      exact go_vret C hr ⟨rfl, hw⟩ dJ7_fill_53178_20
    · replace hw := hw.2 hc
      refine go_aload_n C 0 rfl rfl dJ7_fill_53178_10 ?_
      refine go_iload_n C 2 rfl rfl dJ7_fill_53178_11 ?_
      refine go_iload_n C 1 rfl rfl dJ7_fill_53178_12 ?_
      refine go_iast C hsq1 hlq1 hw.1 dJ7_fill_53178_13 (go_nm fun σ_1 eσ_1 => ?_)
      replace hw := hw.2 σ_1 eσ_1
      obtain ⟨v2_2, ev2_2⟩ : ∃ z : Int32, z = v2 + 1 := ⟨_, rfl⟩
      replace hw := hw v2_2 ev2_2
      refine go_iinc (v := v2_2) (lv2 := [(2, .int v2_2), (0, .ref (G.2.2.1 q1)), (1, .int v1), (3, .int v3)]) C 2 rfl (by rw [ev2_2]; rfl) (by rw [hnl]; decide) rfl dJ7_fill_53178_14 ?_
      refine go_goto C 5 rfl dJ7_fill_53178_17 ?_
      refine go_sub [1, 2, 0, 3] rfl ?_
      exact ih _ _ _ _ hw
set_option maxRecDepth 20000 in
set_option maxHeartbeats 4000000 in
theorem spJ7_fill_53178 {l : Launch} {G : GT} {d : Nat}  (hd : 1 ≤ d) {q1 : Nat} {n1 : Nat} (hsq1 : ∀ x, wcc G q1 x = .inl (G.2.1 0, n1, .inl x.1)) (hlq1 : q1 < G.2.2.2.2.2) {a2 : Int32} {σ : St} {post : St → Prop} (hw : wpJ7_fill_53178 q1 n1 a2 σ post) : Sp l G d yJ7_fill_53178 cJ7_fill_53178 4 none [.ref (G.2.2.1 q1), .int a2] σ (fun v τ => v = none ∧ post τ) := by
  refine Sp.of (by decide) (Nat.le_of_ble_eq_true rfl) fun X C hr hR hnl => ?_
  show Go X G 0 [(0, .ref (G.2.2.1 q1)), (1, .int a2)] [] σ
  have hw : ∀ v3_1 : Int32, v3_1 = (Int32.ofNat n1) →
  ∃ m_5, wbJ7_fill_53178_5 q1 n1 post m_5 a2 0 v3_1 σ := hw
  refine go_iconst (v := 0) C rfl dJ7_fill_53178_0 ?_
  refine go_istore_n (lv2 := [(2, .int 0), (0, .ref (G.2.2.1 q1)), (1, .int a2)]) C rfl (by rw [hnl]; decide) rfl dJ7_fill_53178_1 ?_
  refine go_aload_n C 1 rfl rfl dJ7_fill_53178_2 ?_
  refine go_alen (t0 := 0) (v := (Int32.ofNat n1)) C hsq1 hlq1 rfl rfl dJ7_fill_53178_3 ?_
  refine go_topi (fun v3_1 ev3_1 => ?_)
  replace hw := hw v3_1 ev3_1
  refine go_istore_n (lv2 := [(3, .int v3_1), (2, .int 0), (0, .ref (G.2.2.1 q1)), (1, .int a2)]) C rfl (by rw [hnl]; decide) rfl dJ7_fill_53178_4 ?_
  refine go_sub [2, 3, 1, 0] rfl ?_
  obtain ⟨n_0, hw⟩ := hw
  exact (gbJ7_fill_53178_5 C hr hR hnl hd hsq1 hlq1) n_0 _ _ _ _ hw
-- CradleNames$Odds.power([II)V
set_option maxRecDepth 20000 in
set_option maxHeartbeats 4000000 in
theorem gbX6_power_11 {X : XT} {G : GT} {l : Launch} {d : Nat} {q1 : Nat} {n1 : Nat} {post : St → Prop} (C : Cx X G cX6_power RX6) (hr : Rt X G none (fun v τ => v = none ∧ post τ)) (hR : Rm X l d) (hnl : X.2.2.2.2.2.2.2.2.2.2.1 = 4)  (hd : 2 ≤ d) (hN : 75 ≤ G.2.2.2.2.2) (hsq1 : ∀ x, wcc G q1 x = .inl (G.2.1 0, n1, .inl x.1)) (hlq1 : q1 < G.2.2.2.2.2)  
    : ∀ (n : Nat) (v2 : Int32) (v3 : Int32) (σ : St), wbX6_power_11 q1 n1  post n v2 v3 σ → Go X G 11 [(0, .ref (G.2.2.1 60)), (1, .ref (G.2.2.1 q1)), (2, .int v2), (3, .int v3)] [] σ := by
  intro n
  induction n with
  | zero => intro v2 v3 σ hw; exact hw.elim
  | succ n ih =>
    intro v2 v3 σ hw
    have hw : (((gI σ 60 3) ≤ v3 →
      post σ) ∧
    (¬ (gI σ 60 3) ≤ v3 →
      wpX6_times q1 n1 v2 σ (fun σ_2 =>
      ∀ v3_3 : Int32, v3_3 = v3 + 1 →
      wbX6_power_11 q1 n1 post n v2 v3_3 σ_2))) := hw
    refine go_iload_n C 3 rfl rfl dX6_power_11 ?_
    refine go_aload_n C 0 rfl rfl dX6_power_12 ?_
    refine go_get (v := .int (gI σ 60 3)) C (shX6 G) (ltX6 hN) lkX6_19 rfl dX6_power_13 ?_
    refine go_icmp_ge C 30 rfl dX6_power_16 (fun hc => ?_) (fun hc => ?_)
    · replace hw := hw.1 hc
      exact go_vret C hr ⟨rfl, hw⟩ dX6_power_30
    · replace hw := hw.2 hc
      refine go_aload_n C 1 rfl rfl dX6_power_19 ?_
      refine go_iload_n C 2 rfl rfl dX6_power_20 ?_
      refine go_callS (as := [.ref (G.2.2.1 q1), .int v2]) C hR cwX6_41 (Nat.le_trans (by decide) hd) (by decide) rfl rfl (Nat.le_of_ble_eq_true rfl) dX6_power_21 (spX6_times (Nat.le_refl _) hN hsq1 hlq1 hw) (fun v_ τ_ hw => ?_)
      obtain ⟨rfl, hw⟩ := hw
      obtain ⟨σ_2, rfl⟩ : ∃ z, z = τ_ := ⟨_, rfl⟩
      obtain ⟨v3_3, ev3_3⟩ : ∃ z : Int32, z = v3 + 1 := ⟨_, rfl⟩
      replace hw := hw v3_3 ev3_3
      refine go_iinc (v := v3_3) (lv2 := [(3, .int v3_3), (0, .ref (G.2.2.1 60)), (1, .ref (G.2.2.1 q1)), (2, .int v2)]) C 3 rfl (by rw [ev3_3]; rfl) (by rw [hnl]; decide) rfl dX6_power_24 ?_
      refine go_goto C 11 rfl dX6_power_27 ?_
      refine go_sub [1, 2, 3, 0] rfl ?_
      exact ih _ _ _ hw
set_option maxRecDepth 20000 in
set_option maxHeartbeats 4000000 in
theorem spX6_power {l : Launch} {G : GT} {d : Nat}  (hd : 2 ≤ d) {q1 : Nat} {n1 : Nat} (hN : 75 ≤ G.2.2.2.2.2) (hsq1 : ∀ x, wcc G q1 x = .inl (G.2.1 0, n1, .inl x.1)) (hlq1 : q1 < G.2.2.2.2.2) {a2 : Int32} {σ : St} {post : St → Prop} (hw : wpX6_power q1 n1 a2 σ post) : Sp l G d yX6_power cX6_power 4 none [.ref (G.2.2.1 60), .ref (G.2.2.1 q1), .int a2] σ (fun v τ => v = none ∧ post τ) := by
  refine Sp.of (by decide) (Nat.le_of_ble_eq_true rfl) fun X C hr hR hnl => ?_
  show Go X G 0 [(0, .ref (G.2.2.1 60)), (1, .ref (G.2.2.1 q1)), (2, .int a2)] [] σ
  have hw : wpJ7_fill_53178 q1 n1 0 σ (fun σ_2 =>
  vp_in 0 n1 ∧ (
  ∀ σ_3 : St, σ_3 = sI σ_2 q1 (0 : Int32).toNatClampNeg 1 →
  ∃ m_11, wbX6_power_11 q1 n1 post m_11 a2 0 σ_3)) := hw
  refine go_aload_n C 1 rfl rfl dX6_power_0 ?_
  refine go_iconst (v := 0) C rfl dX6_power_1 ?_
  refine go_callS (as := [.ref (G.2.2.1 q1), .int 0]) C hR cwX6_29 (Nat.le_trans (by decide) hd) (by decide) rfl rfl (Nat.le_of_ble_eq_true rfl) dX6_power_2 (spJ7_fill_53178 (Nat.le_refl _) hsq1 hlq1 hw) (fun v_ τ_ hw => ?_)
  obtain ⟨rfl, hw⟩ := hw
  obtain ⟨σ_2, rfl⟩ : ∃ z, z = τ_ := ⟨_, rfl⟩
  refine go_aload_n C 1 rfl rfl dX6_power_5 ?_
  refine go_iconst (v := 0) C rfl dX6_power_6 ?_
  refine go_iconst (v := 1) C rfl dX6_power_7 ?_
  refine go_iast C hsq1 hlq1 hw.1 dX6_power_8 (go_nm fun σ_3 eσ_3 => ?_)
  replace hw := hw.2 σ_3 eσ_3
  refine go_iconst (v := 0) C rfl dX6_power_9 ?_
  refine go_istore_n (lv2 := [(3, .int 0), (0, .ref (G.2.2.1 60)), (1, .ref (G.2.2.1 q1)), (2, .int a2)]) C rfl (by rw [hnl]; decide) rfl dX6_power_10 ?_
  refine go_sub [1, 2, 3, 0] rfl ?_
  obtain ⟨n_0, hw⟩ := hw
  exact (gbX6_power_11 C hr hR hnl hd hN hsq1 hlq1) n_0 _ _ _ hw
-- CradleNames$Odds.sumIsAtMostWhole()Z
set_option maxRecDepth 20000 in
set_option maxHeartbeats 4000000 in
theorem gbX6_sumIsAtMostWhole_3 {X : XT} {G : GT} {l : Launch} {d : Nat}  {post : Int32 → St → Prop} (C : Cx X G cX6_sumIsAtMostWhole RX6) (hr : Rt X G (some .boolean) (fun v τ => ∃ r : Int32, v = some (.int r) ∧ post r τ)) (hR : Rm X l d) (hnl : X.2.2.2.2.2.2.2.2.2.2.1 = 2)  (hd : 1 ≤ d) (hN : 75 ≤ G.2.2.2.2.2)   
    : ∀ (n : Nat) (v1 : Int32) (σ : St), wbX6_sumIsAtMostWhole_3   post n v1 σ → Go X G 3 [(0, .ref (G.2.2.1 60)), (1, .int v1)] [] σ := by
  intro n
  induction n with
  | zero => intro v1 σ hw; exact hw.elim
  | succ n ih =>
    intro v1 σ hw
    have hw : ((v1 < 0 →
      post 1 σ) ∧
    (¬ v1 < 0 →
      vp_in v1 24 ∧ (
      vp_in v1 24 ∧ (
      (((gI σ 62 v1.toNatClampNeg) = (gI σ 63 v1.toNatClampNeg) →
        ∀ v1_1 : Int32, v1_1 = v1 + (-1) →
        wbX6_sumIsAtMostWhole_3 post n v1_1 σ) ∧
      (¬ (gI σ 62 v1.toNatClampNeg) = (gI σ 63 v1.toNatClampNeg) →
        vp_in v1 24 ∧ (
        vp_in v1 24 ∧ (
        (((gI σ 63 v1.toNatClampNeg) ≤ (gI σ 62 v1.toNatClampNeg) →
          post 0 σ) ∧
        (¬ (gI σ 63 v1.toNatClampNeg) ≤ (gI σ 62 v1.toNatClampNeg) →
          post 1 σ)))))))))) := hw
    refine go_iload_n C 1 rfl rfl dX6_sumIsAtMostWhole_3 ?_
    refine go_if_lt C 49 rfl dX6_sumIsAtMostWhole_4 (fun hc => ?_) (fun hc => ?_)
    · replace hw := hw.1 hc
      refine go_iconst (v := 1) C rfl dX6_sumIsAtMostWhole_49 ?_
      exact go_zret C hr rfl ⟨_, rfl, hw⟩ dX6_sumIsAtMostWhole_50
    · replace hw := hw.2 hc
      refine go_aload_n C 0 rfl rfl dX6_sumIsAtMostWhole_7 ?_
      refine go_get (v := .ref (G.2.2.1 62)) C (shX6 G) (ltX6 hN) lkX6_13 rfl dX6_sumIsAtMostWhole_8 ?_
      refine go_iload_n C 1 rfl rfl dX6_sumIsAtMostWhole_11 ?_
      refine go_iald C (saX6_sum G) (laX6_sum hN) hw.1 dX6_sumIsAtMostWhole_12 ?_
      replace hw := hw.2
      refine go_aload_n C 0 rfl rfl dX6_sumIsAtMostWhole_13 ?_
      refine go_get (v := .ref (G.2.2.1 63)) C (shX6 G) (ltX6 hN) lkX6_16 rfl dX6_sumIsAtMostWhole_14 ?_
      refine go_iload_n C 1 rfl rfl dX6_sumIsAtMostWhole_17 ?_
      refine go_iald C (saX6_whole G) (laX6_whole hN) hw.1 dX6_sumIsAtMostWhole_18 ?_
      replace hw := hw.2
      refine go_icmp_eq C 43 rfl dX6_sumIsAtMostWhole_19 (fun hc => ?_) (fun hc => ?_)
      · replace hw := hw.1 hc
        obtain ⟨v1_1, ev1_1⟩ : ∃ z : Int32, z = v1 + (-1) := ⟨_, rfl⟩
        replace hw := hw v1_1 ev1_1
        refine go_iinc (v := v1_1) (lv2 := [(1, .int v1_1), (0, .ref (G.2.2.1 60))]) C 1 rfl (by rw [ev1_1]; rfl) (by rw [hnl]; decide) rfl dX6_sumIsAtMostWhole_43 ?_
        refine go_goto C 3 rfl dX6_sumIsAtMostWhole_46 ?_
        refine go_sub [1, 0] rfl ?_
        exact ih _ _ hw
      · replace hw := hw.2 hc
        refine go_aload_n C 0 rfl rfl dX6_sumIsAtMostWhole_22 ?_
        refine go_get (v := .ref (G.2.2.1 62)) C (shX6 G) (ltX6 hN) lkX6_13 rfl dX6_sumIsAtMostWhole_23 ?_
        refine go_iload_n C 1 rfl rfl dX6_sumIsAtMostWhole_26 ?_
        refine go_iald C (saX6_sum G) (laX6_sum hN) hw.1 dX6_sumIsAtMostWhole_27 ?_
        replace hw := hw.2
        refine go_aload_n C 0 rfl rfl dX6_sumIsAtMostWhole_28 ?_
        refine go_get (v := .ref (G.2.2.1 63)) C (shX6 G) (ltX6 hN) lkX6_16 rfl dX6_sumIsAtMostWhole_29 ?_
        refine go_iload_n C 1 rfl rfl dX6_sumIsAtMostWhole_32 ?_
        refine go_iald C (saX6_whole G) (laX6_whole hN) hw.1 dX6_sumIsAtMostWhole_33 ?_
        replace hw := hw.2
        refine go_icmp_ge C 41 rfl dX6_sumIsAtMostWhole_34 (fun hc => ?_) (fun hc => ?_)
        · replace hw := hw.1 hc
          refine go_iconst (v := 0) C rfl dX6_sumIsAtMostWhole_41 ?_
          exact go_zret C hr rfl ⟨_, rfl, hw⟩ dX6_sumIsAtMostWhole_42
        · replace hw := hw.2 hc
          refine go_iconst (v := 1) C rfl dX6_sumIsAtMostWhole_37 ?_
          refine go_goto C 42 rfl dX6_sumIsAtMostWhole_38 ?_
          exact go_zret C hr rfl ⟨_, rfl, hw⟩ dX6_sumIsAtMostWhole_42
set_option maxRecDepth 20000 in
set_option maxHeartbeats 4000000 in
theorem spX6_sumIsAtMostWhole {l : Launch} {G : GT} {d : Nat}  (hd : 1 ≤ d)  (hN : 75 ≤ G.2.2.2.2.2)   {σ : St} {post : Int32 → St → Prop} (hw : wpX6_sumIsAtMostWhole   σ post) : Sp l G d yX6_sumIsAtMostWhole cX6_sumIsAtMostWhole 2 (some .boolean) [.ref (G.2.2.1 60)] σ (fun v τ => ∃ r : Int32, v = some (.int r) ∧ post r τ) := by
  refine Sp.of (by decide) (Nat.le_of_ble_eq_true rfl) fun X C hr hR hnl => ?_
  show Go X G 0 [(0, .ref (G.2.2.1 60))] [] σ
  have hw : ∃ m_3, wbX6_sumIsAtMostWhole_3 post m_3 23 σ := hw
  refine go_bipush (v := 23) C rfl dX6_sumIsAtMostWhole_0 ?_
  refine go_istore_n (lv2 := [(1, .int 23), (0, .ref (G.2.2.1 60))]) C rfl (by rw [hnl]; decide) rfl dX6_sumIsAtMostWhole_2 ?_
  refine go_sub [1, 0] rfl ?_
  obtain ⟨n_0, hw⟩ := hw
  exact (gbX6_sumIsAtMostWhole_3 C hr hR hnl hd hN) n_0 _ _ hw
-- CradleNames$Odds.isRare(III)Z
set_option maxRecDepth 20000 in
set_option maxHeartbeats 4000000 in
theorem gbX6_isRare_90 {X : XT} {G : GT} {l : Launch} {d : Nat}  {post : Int32 → St → Prop} (C : Cx X G cX6_isRare RX6) (hr : Rt X G (some .boolean) (fun v τ => ∃ r : Int32, v = some (.int r) ∧ post r τ)) (hR : Rm X l d) (hnl : X.2.2.2.2.2.2.2.2.2.2.1 = 5)  (hd : 3 ≤ d) (hN : 75 ≤ G.2.2.2.2.2)  {K65 : Int32 → Int32 → Int32 → Int32 → St → Prop} (hK65 : ∀ (v1 : Int32) (v2 : Int32) (v3 : Int32) (v4 : Int32) (σ : St), K65 v1 v2 v3 v4 σ → Go X G 65 [(0, .ref (G.2.2.1 60)), (1, .int v1), (2, .int v2), (3, .int v3), (4, .int v4)] [] σ)
    : ∀ (v1 : Int32) (v2 : Int32) (v3 : Int32) (v4 : Int32) (σ : St), wbX6_isRare_90  K65 post v1 v2 v3 v4 σ → Go X G 90 [(0, .ref (G.2.2.1 60)), (1, .int v1), (2, .int v2), (3, .int v3), (4, .int v4)] [] σ := by
  intro v1 v2 v3 v4 σ hw
  have hw : wpX6_times 61 24 (((gI σ 60 3) - v4) * (gI σ 60 4)) σ (fun σ_2 =>
  wpX6_over 61 24 ((v4 + 1) * (gI σ_2 60 5)) σ_2 (fun σ_4 =>
  ∀ v4_5 : Int32, v4_5 = v4 + 1 →
  K65 v1 v2 v3 v4_5 σ_4)) := hw
  refine go_aload_n C 0 rfl rfl dX6_isRare_90 ?_
  refine go_get (v := .ref (G.2.2.1 61)) C (shX6 G) (ltX6 hN) lkX6_9 rfl dX6_isRare_91 ?_
  refine go_aload_n C 0 rfl rfl dX6_isRare_94 ?_
  refine go_get (v := .int (gI σ 60 3)) C (shX6 G) (ltX6 hN) lkX6_19 rfl dX6_isRare_95 ?_
  refine go_iload C 4 rfl dX6_isRare_98 ?_
  refine go_isub C dX6_isRare_100 ?_
  refine go_aload_n C 0 rfl rfl dX6_isRare_101 ?_
  refine go_get (v := .int (gI σ 60 4)) C (shX6 G) (ltX6 hN) lkX6_23 rfl dX6_isRare_102 ?_
  refine go_imul C dX6_isRare_105 ?_
  refine go_callS (as := [.ref (G.2.2.1 61), .int (((gI σ 60 3) - v4) * (gI σ 60 4))]) C hR cwX6_41 (Nat.le_trans (by decide) hd) (by decide) rfl rfl (Nat.le_of_ble_eq_true rfl) dX6_isRare_106 (spX6_times (Nat.le_refl _) hN (saX6_term G) (laX6_term hN) hw) (fun v_ τ_ hw => ?_)
  obtain ⟨rfl, hw⟩ := hw
  obtain ⟨σ_2, rfl⟩ : ∃ z, z = τ_ := ⟨_, rfl⟩
  refine go_aload_n C 0 rfl rfl dX6_isRare_109 ?_
  refine go_get (v := .ref (G.2.2.1 61)) C (shX6 G) (ltX6 hN) lkX6_9 rfl dX6_isRare_110 ?_
  refine go_iload C 4 rfl dX6_isRare_113 ?_
  refine go_iconst (v := 1) C rfl dX6_isRare_115 ?_
  refine go_iadd C dX6_isRare_116 ?_
  refine go_aload_n C 0 rfl rfl dX6_isRare_117 ?_
  refine go_get (v := .int (gI σ_2 60 5)) C (shX6 G) (ltX6 hN) lkX6_26 rfl dX6_isRare_118 ?_
  refine go_imul C dX6_isRare_121 ?_
  refine go_callS (as := [.ref (G.2.2.1 61), .int ((v4 + 1) * (gI σ_2 60 5))]) C hR cwX6_44 (Nat.le_trans (by decide) hd) (by decide) rfl rfl (Nat.le_of_ble_eq_true rfl) dX6_isRare_122 (spX6_over (Nat.le_refl _) hN (saX6_term G) (laX6_term hN) hw) (fun v_ τ_ hw => ?_)
  obtain ⟨rfl, hw⟩ := hw
  obtain ⟨σ_4, rfl⟩ : ∃ z, z = τ_ := ⟨_, rfl⟩
  obtain ⟨v4_5, ev4_5⟩ : ∃ z : Int32, z = v4 + 1 := ⟨_, rfl⟩
  replace hw := hw v4_5 ev4_5
  refine go_iinc (v := v4_5) (lv2 := [(4, .int v4_5), (0, .ref (G.2.2.1 60)), (1, .int v1), (2, .int v2), (3, .int v3)]) C 4 rfl (by rw [ev4_5]; rfl) (by rw [hnl]; decide) rfl dX6_isRare_125 ?_
  refine go_goto C 65 rfl dX6_isRare_128 ?_
  refine go_sub [1, 2, 3, 4, 0] rfl ?_
  exact hK65 _ _ _ _ _ hw
set_option maxRecDepth 20000 in
set_option maxHeartbeats 4000000 in
theorem gbX6_isRare_65 {X : XT} {G : GT} {l : Launch} {d : Nat}  {post : Int32 → St → Prop} (C : Cx X G cX6_isRare RX6) (hr : Rt X G (some .boolean) (fun v τ => ∃ r : Int32, v = some (.int r) ∧ post r τ)) (hR : Rm X l d) (hnl : X.2.2.2.2.2.2.2.2.2.2.1 = 5)  (hd : 3 ≤ d) (hN : 75 ≤ G.2.2.2.2.2)  {K131 : Int32 → St → Prop} (hK131 : ∀ (v3 : Int32) (σ : St), K131 v3 σ → Go X G 131 [(0, .ref (G.2.2.1 60)), (3, .int v3)] [] σ)
    : ∀ (n : Nat) (v1 : Int32) (v2 : Int32) (v3 : Int32) (v4 : Int32) (σ : St), wbX6_isRare_65  K131 post n v1 v2 v3 v4 σ → Go X G 65 [(0, .ref (G.2.2.1 60)), (1, .int v1), (2, .int v2), (3, .int v3), (4, .int v4)] [] σ := by
  intro n
  induction n with
  | zero => intro v1 v2 v3 v4 σ hw; exact hw.elim
  | succ n ih =>
    intro v1 v2 v3 v4 σ hw
    have hw : ((v2 < v4 →
      K131 v3 σ) ∧
    (¬ v2 < v4 →
      (((gI σ 60 3) < v4 →
        K131 v3 σ) ∧
      (¬ (gI σ 60 3) < v4 →
        ((v4 < v1 →
          wbX6_isRare_90 (wbX6_isRare_65 K131 post n) post v1 v2 v3 v4 σ) ∧
        (¬ v4 < v1 →
          wpX6_addTerm  σ (fun σ_2 =>
          wbX6_isRare_90 (wbX6_isRare_65 K131 post n) post v1 v2 v3 v4 σ_2))))))) := hw
    refine go_iload C 4 rfl dX6_isRare_65 ?_
    refine go_iload_n C 2 rfl rfl dX6_isRare_67 ?_
    refine go_icmp_gt C 131 rfl dX6_isRare_68 (fun hc => ?_) (fun hc => ?_)
    · replace hw := hw.1 hc
      refine go_sub [0, 3] rfl ?_
      exact hK131 _ _ hw
    · replace hw := hw.2 hc
      refine go_iload C 4 rfl dX6_isRare_71 ?_
      refine go_aload_n C 0 rfl rfl dX6_isRare_73 ?_
      refine go_get (v := .int (gI σ 60 3)) C (shX6 G) (ltX6 hN) lkX6_19 rfl dX6_isRare_74 ?_
      refine go_icmp_gt C 131 rfl dX6_isRare_77 (fun hc => ?_) (fun hc => ?_)
      · replace hw := hw.1 hc
        refine go_sub [0, 3] rfl ?_
        exact hK131 _ _ hw
      · replace hw := hw.2 hc
        refine go_iload C 4 rfl dX6_isRare_80 ?_
        refine go_iload_n C 1 rfl rfl dX6_isRare_82 ?_
        refine go_icmp_lt C 90 rfl dX6_isRare_83 (fun hc => ?_) (fun hc => ?_)
        · replace hw := hw.1 hc
          exact (gbX6_isRare_90 C hr hR hnl hd hN ih) _ _ _ _ _ hw
        · replace hw := hw.2 hc
          refine go_aload_n C 0 rfl rfl dX6_isRare_86 ?_
          refine go_callV (as := []) C hR (shX6 G) (ltX6 hN) cwX6_38 (Nat.le_trans (by decide) hd) (by decide) rfl rfl (Nat.le_of_ble_eq_true rfl) dX6_isRare_87 (spX6_addTerm (Nat.le_refl _) hN hw) (fun v_ τ_ hw => ?_)
          obtain ⟨rfl, hw⟩ := hw
          obtain ⟨σ_2, rfl⟩ : ∃ z, z = τ_ := ⟨_, rfl⟩
          exact (gbX6_isRare_90 C hr hR hnl hd hN ih) _ _ _ _ _ hw
set_option maxRecDepth 20000 in
set_option maxHeartbeats 4000000 in
theorem gbX6_isRare_131 {X : XT} {G : GT} {l : Launch} {d : Nat}  {post : Int32 → St → Prop} (C : Cx X G cX6_isRare RX6) (hr : Rt X G (some .boolean) (fun v τ => ∃ r : Int32, v = some (.int r) ∧ post r τ)) (hR : Rm X l d) (hnl : X.2.2.2.2.2.2.2.2.2.2.1 = 5)  (hd : 3 ≤ d) (hN : 75 ≤ G.2.2.2.2.2)   
    : ∀ (v3 : Int32) (σ : St), wbX6_isRare_131   post v3 σ → Go X G 131 [(0, .ref (G.2.2.1 60)), (3, .int v3)] [] σ := by
  intro v3 σ hw
  have hw : wpX6_times 62 24 v3 σ (fun σ_2 =>
  wpX6_power 63 24 ((gI σ_2 60 4) + (gI σ_2 60 5)) σ_2 (fun σ_4 =>
  wpX6_sumIsAtMostWhole  σ_4 (fun r_5 σ_6 =>
  (r_5 = 0 ∨ r_5 = 1) ∧ post r_5 σ_6))) := hw
  refine go_aload_n C 0 rfl rfl dX6_isRare_131 ?_
  refine go_get (v := .ref (G.2.2.1 62)) C (shX6 G) (ltX6 hN) lkX6_13 rfl dX6_isRare_132 ?_
  refine go_iload_n C 1 rfl rfl dX6_isRare_135 ?_
  refine go_callS (as := [.ref (G.2.2.1 62), .int v3]) C hR cwX6_41 (Nat.le_trans (by decide) hd) (by decide) rfl rfl (Nat.le_of_ble_eq_true rfl) dX6_isRare_136 (spX6_times (Nat.le_refl _) hN (saX6_sum G) (laX6_sum hN) hw) (fun v_ τ_ hw => ?_)
  obtain ⟨rfl, hw⟩ := hw
  obtain ⟨σ_2, rfl⟩ : ∃ z, z = τ_ := ⟨_, rfl⟩
  refine go_aload_n C 0 rfl rfl dX6_isRare_139 ?_
  refine go_aload_n C 0 rfl rfl dX6_isRare_140 ?_
  refine go_get (v := .ref (G.2.2.1 63)) C (shX6 G) (ltX6 hN) lkX6_16 rfl dX6_isRare_141 ?_
  refine go_aload_n C 0 rfl rfl dX6_isRare_144 ?_
  refine go_get (v := .int (gI σ_2 60 4)) C (shX6 G) (ltX6 hN) lkX6_23 rfl dX6_isRare_145 ?_
  refine go_aload_n C 0 rfl rfl dX6_isRare_148 ?_
  refine go_get (v := .int (gI σ_2 60 5)) C (shX6 G) (ltX6 hN) lkX6_26 rfl dX6_isRare_149 ?_
  refine go_iadd C dX6_isRare_152 ?_
  refine go_callV (as := [.ref (G.2.2.1 63), .int ((gI σ_2 60 4) + (gI σ_2 60 5))]) C hR (shX6 G) (ltX6 hN) cwX6_35 (Nat.le_trans (by decide) hd) (by decide) rfl rfl (Nat.le_of_ble_eq_true rfl) dX6_isRare_153 (spX6_power (Nat.le_refl _) hN (saX6_whole G) (laX6_whole hN) hw) (fun v_ τ_ hw => ?_)
  obtain ⟨rfl, hw⟩ := hw
  obtain ⟨σ_4, rfl⟩ : ∃ z, z = τ_ := ⟨_, rfl⟩
  refine go_aload_n C 0 rfl rfl dX6_isRare_156 ?_
  refine go_callV (as := []) C hR (shX6 G) (ltX6 hN) cwX6_47 (Nat.le_trans (by decide) hd) (by decide) rfl rfl (Nat.le_of_ble_eq_true rfl) dX6_isRare_157 (spX6_sumIsAtMostWhole (Nat.le_refl _) hN hw) (fun v_ τ_ hw => ?_)
  obtain ⟨r_5, rfl, hw⟩ := hw
  obtain ⟨σ_6, rfl⟩ : ∃ z, z = τ_ := ⟨_, rfl⟩
  exact go_zret C hr (bool_nar hw.1) ⟨_, rfl, hw.2⟩ dX6_isRare_160
set_option maxRecDepth 20000 in
set_option maxHeartbeats 4000000 in
theorem spX6_isRare {l : Launch} {G : GT} {d : Nat}  (hd : 3 ≤ d)  (hN : 75 ≤ G.2.2.2.2.2)  {a1 : Int32} {a2 : Int32} {a3 : Int32} {σ : St} {post : Int32 → St → Prop} (hw : wpX6_isRare  a1 a2 a3 σ post) : Sp l G d yX6_isRare cX6_isRare 5 (some .boolean) [.ref (G.2.2.1 60), .int a1, .int a2, .int a3] σ (fun v τ => ∃ r : Int32, v = some (.int r) ∧ post r τ) := by
  refine Sp.of (by decide) (Nat.le_of_ble_eq_true rfl) fun X C hr hR hnl => ?_
  show Go X G 0 [(0, .ref (G.2.2.1 60)), (1, .int a1), (2, .int a2), (3, .int a3)] [] σ
  have hw : wpJ7_fill_53178 62 24 0 σ (fun σ_2 =>
  ((¬ (gI σ_2 60 5) = 0 →
    wpX6_power 61 24 (gI σ_2 60 5) σ_2 (fun σ_4 =>
    ∃ m_65, wbX6_isRare_65 (wbX6_isRare_131 post) post m_65 a1 a2 a3 0 σ_4)) ∧
  ((gI σ_2 60 5) = 0 →
    wpX6_power 61 24 (gI σ_2 60 4) σ_2 (fun σ_6 =>
    (((gI σ_6 60 3) < a1 →
      wbX6_isRare_131 post a3 σ_6) ∧
    (¬ (gI σ_6 60 3) < a1 →
      ((a2 < (gI σ_6 60 3) →
        wbX6_isRare_131 post a3 σ_6) ∧
      (¬ a2 < (gI σ_6 60 3) →
        wpX6_addTerm  σ_6 (fun σ_8 =>
        wbX6_isRare_131 post a3 σ_8))))))))) := hw
  refine go_aload_n C 0 rfl rfl dX6_isRare_0 ?_
  refine go_get (v := .ref (G.2.2.1 62)) C (shX6 G) (ltX6 hN) lkX6_13 rfl dX6_isRare_1 ?_
  refine go_iconst (v := 0) C rfl dX6_isRare_4 ?_
  refine go_callS (as := [.ref (G.2.2.1 62), .int 0]) C hR cwX6_29 (Nat.le_trans (by decide) hd) (by decide) rfl rfl (Nat.le_of_ble_eq_true rfl) dX6_isRare_5 (spJ7_fill_53178 (Nat.le_refl _) (saX6_sum G) (laX6_sum hN) hw) (fun v_ τ_ hw => ?_)
  obtain ⟨rfl, hw⟩ := hw
  obtain ⟨σ_2, rfl⟩ : ∃ z, z = τ_ := ⟨_, rfl⟩
  refine go_aload_n C 0 rfl rfl dX6_isRare_8 ?_
  refine go_get (v := .int (gI σ_2 60 5)) C (shX6 G) (ltX6 hN) lkX6_26 rfl dX6_isRare_9 ?_
  refine go_if_ne C 50 rfl dX6_isRare_12 (fun hc => ?_) (fun hc => ?_)
  · replace hw := hw.1 hc
    refine go_aload_n C 0 rfl rfl dX6_isRare_50 ?_
    refine go_aload_n C 0 rfl rfl dX6_isRare_51 ?_
    refine go_get (v := .ref (G.2.2.1 61)) C (shX6 G) (ltX6 hN) lkX6_9 rfl dX6_isRare_52 ?_
    refine go_aload_n C 0 rfl rfl dX6_isRare_55 ?_
    refine go_get (v := .int (gI σ_2 60 5)) C (shX6 G) (ltX6 hN) lkX6_26 rfl dX6_isRare_56 ?_
    refine go_callV (as := [.ref (G.2.2.1 61), .int (gI σ_2 60 5)]) C hR (shX6 G) (ltX6 hN) cwX6_35 (Nat.le_trans (by decide) hd) (by decide) rfl rfl (Nat.le_of_ble_eq_true rfl) dX6_isRare_59 (spX6_power (Nat.le_refl _) hN (saX6_term G) (laX6_term hN) hw) (fun v_ τ_ hw => ?_)
    obtain ⟨rfl, hw⟩ := hw
    obtain ⟨σ_4, rfl⟩ : ∃ z, z = τ_ := ⟨_, rfl⟩
    refine go_iconst (v := 0) C rfl dX6_isRare_62 ?_
    refine go_istore (lv2 := [(4, .int 0), (0, .ref (G.2.2.1 60)), (1, .int a1), (2, .int a2), (3, .int a3)]) C (by rw [hnl]; decide) rfl dX6_isRare_63 ?_
    refine go_sub [1, 2, 3, 4, 0] rfl ?_
    obtain ⟨n_0, hw⟩ := hw
    exact (gbX6_isRare_65 C hr hR hnl hd hN (gbX6_isRare_131 C hr hR hnl hd hN)) n_0 _ _ _ _ _ hw
  · replace hw := hw.2 hc
    refine go_aload_n C 0 rfl rfl dX6_isRare_15 ?_
    refine go_aload_n C 0 rfl rfl dX6_isRare_16 ?_
    refine go_get (v := .ref (G.2.2.1 61)) C (shX6 G) (ltX6 hN) lkX6_9 rfl dX6_isRare_17 ?_
    refine go_aload_n C 0 rfl rfl dX6_isRare_20 ?_
    refine go_get (v := .int (gI σ_2 60 4)) C (shX6 G) (ltX6 hN) lkX6_23 rfl dX6_isRare_21 ?_
    refine go_callV (as := [.ref (G.2.2.1 61), .int (gI σ_2 60 4)]) C hR (shX6 G) (ltX6 hN) cwX6_35 (Nat.le_trans (by decide) hd) (by decide) rfl rfl (Nat.le_of_ble_eq_true rfl) dX6_isRare_24 (spX6_power (Nat.le_refl _) hN (saX6_term G) (laX6_term hN) hw) (fun v_ τ_ hw => ?_)
    obtain ⟨rfl, hw⟩ := hw
    obtain ⟨σ_6, rfl⟩ : ∃ z, z = τ_ := ⟨_, rfl⟩
    refine go_iload_n C 1 rfl rfl dX6_isRare_27 ?_
    refine go_aload_n C 0 rfl rfl dX6_isRare_28 ?_
    refine go_get (v := .int (gI σ_6 60 3)) C (shX6 G) (ltX6 hN) lkX6_19 rfl dX6_isRare_29 ?_
    refine go_icmp_gt C 131 rfl dX6_isRare_32 (fun hc => ?_) (fun hc => ?_)
    · replace hw := hw.1 hc
      refine go_sub [0, 3] rfl ?_
      exact (gbX6_isRare_131 C hr hR hnl hd hN) _ _ hw
    · replace hw := hw.2 hc
      refine go_aload_n C 0 rfl rfl dX6_isRare_35 ?_
      refine go_get (v := .int (gI σ_6 60 3)) C (shX6 G) (ltX6 hN) lkX6_19 rfl dX6_isRare_36 ?_
      refine go_iload_n C 2 rfl rfl dX6_isRare_39 ?_
      refine go_icmp_gt C 131 rfl dX6_isRare_40 (fun hc => ?_) (fun hc => ?_)
      · replace hw := hw.1 hc
        refine go_sub [0, 3] rfl ?_
        exact (gbX6_isRare_131 C hr hR hnl hd hN) _ _ hw
      · replace hw := hw.2 hc
        refine go_aload_n C 0 rfl rfl dX6_isRare_43 ?_
        refine go_callV (as := []) C hR (shX6 G) (ltX6 hN) cwX6_38 (Nat.le_trans (by decide) hd) (by decide) rfl rfl (Nat.le_of_ble_eq_true rfl) dX6_isRare_44 (spX6_addTerm (Nat.le_refl _) hN hw) (fun v_ τ_ hw => ?_)
        obtain ⟨rfl, hw⟩ := hw
        obtain ⟨σ_8, rfl⟩ : ∃ z, z = τ_ := ⟨_, rfl⟩
        refine go_goto C 131 rfl dX6_isRare_47 ?_
        refine go_sub [0, 3] rfl ?_
        exact (gbX6_isRare_131 C hr hR hnl hd hN) _ _ hw
-- CradleNames$Press.spot(III)I
set_option maxRecDepth 20000 in
set_option maxHeartbeats 4000000 in
theorem spX7_spot {l : Launch} {G : GT} {d : Nat}  (hd : 1 ≤ d)  (hN : 75 ≤ G.2.2.2.2.2)  {a1 : Int32} {a2 : Int32} {a3 : Int32} {σ : St} {post : Int32 → St → Prop} (hw : wpX7_spot  a1 a2 a3 σ post) : Sp l G d yX7_spot cX7_spot 3 (some .int) [.int a1, .int a2, .int a3] σ (fun v τ => ∃ r : Int32, v = some (.int r) ∧ post r τ) := by
  refine Sp.of (by decide) (Nat.le_of_ble_eq_true rfl) fun X C hr hR hnl => ?_
  show Go X G 0 [(0, .int a1), (1, .int a2), (2, .int a3)] [] σ
  have hw : post ((((a1 * 2) + a2) * 16) + a3) σ := hw
  refine go_iload_n C 0 rfl rfl dX7_spot_0 ?_
  refine go_iconst (v := 2) C rfl dX7_spot_1 ?_
  refine go_imul C dX7_spot_2 ?_
  refine go_iload_n C 1 rfl rfl dX7_spot_3 ?_
  refine go_iadd C dX7_spot_4 ?_
  refine go_bipush (v := 16) C rfl dX7_spot_5 ?_
  refine go_imul C dX7_spot_7 ?_
  refine go_iload_n C 2 rfl rfl dX7_spot_8 ?_
  refine go_iadd C dX7_spot_9 ?_
  exact go_iret C hr ⟨_, rfl, hw⟩ dX7_spot_10
-- CradleNames$Press.add(IIII)I
set_option maxRecDepth 20000 in
set_option maxHeartbeats 4000000 in
theorem spX7_add {l : Launch} {G : GT} {d : Nat}  (hd : 1 ≤ d)  (hN : 75 ≤ G.2.2.2.2.2)  {a1 : Int32} {a2 : Int32} {a3 : Int32} {a4 : Int32} {σ : St} {post : Int32 → St → Prop} (hw : wpX7_add  a1 a2 a3 a4 σ post) : Sp l G d yX7_add cX7_add 5 (some .int) [.ref (G.2.2.1 64), .int a1, .int a2, .int a3, .int a4] σ (fun v τ => ∃ r : Int32, v = some (.int r) ∧ post r τ) := by
  refine Sp.of (by decide) (Nat.le_of_ble_eq_true rfl) fun X C hr hR hnl => ?_
  show Go X G 0 [(0, .ref (G.2.2.1 64)), (1, .int a1), (2, .int a2), (3, .int a3), (4, .int a4)] [] σ
  have hw : ((150 ≤ (gI σ 64 0) →
    post (gI σ 64 0) σ) ∧
  (¬ 150 ≤ (gI σ 64 0) →
    vp_in (gI σ 64 0) 150 ∧ (
    ∀ σ_1 : St, σ_1 = sI σ 65 (gI σ 64 0).toNatClampNeg a1 →
    vp_in (gI σ_1 64 0) 150 ∧ (
    ∀ σ_2 : St, σ_2 = sI σ_1 66 (gI σ_1 64 0).toNatClampNeg a2 →
    vp_in (gI σ_2 64 0) 150 ∧ (
    ∀ σ_3 : St, σ_3 = sI σ_2 67 (gI σ_2 64 0).toNatClampNeg a3 →
    vp_in (gI σ_3 64 0) 150 ∧ (
    ∀ σ_4 : St, σ_4 = sI σ_3 68 (gI σ_3 64 0).toNatClampNeg a4 →
    ∀ σ_5 : St, σ_5 = sI σ_4 64 0 ((gI σ_4 64 0) + 1) →
    post (gI σ_5 64 0) σ_5)))))) := hw
  refine go_aload_n C 0 rfl rfl dX7_add_0 ?_
  refine go_get (v := .int (gI σ 64 0)) C (shX7 G) (ltX7 hN) lkX7_28 rfl dX7_add_1 ?_
  refine go_sipush (v := 150) C rfl dX7_add_4 ?_
  refine go_icmp_ge C 61 rfl dX7_add_7 (fun hc => ?_) (fun hc => ?_)
  · replace hw := hw.1 hc
    refine go_aload_n C 0 rfl rfl dX7_add_61 ?_
    refine go_get (v := .int (gI σ 64 0)) C (shX7 G) (ltX7 hN) lkX7_28 rfl dX7_add_62 ?_
    exact go_iret C hr ⟨_, rfl, hw⟩ dX7_add_65
  · replace hw := hw.2 hc
    refine go_aload_n C 0 rfl rfl dX7_add_10 ?_
    refine go_get (v := .ref (G.2.2.1 65)) C (shX7 G) (ltX7 hN) lkX7_9 rfl dX7_add_11 ?_
    refine go_aload_n C 0 rfl rfl dX7_add_14 ?_
    refine go_get (v := .int (gI σ 64 0)) C (shX7 G) (ltX7 hN) lkX7_28 rfl dX7_add_15 ?_
    refine go_iload_n C 1 rfl rfl dX7_add_18 ?_
    refine go_iast C (saX7_ofYear G) (laX7_ofYear hN) hw.1 dX7_add_19 (go_nm fun σ_1 eσ_1 => ?_)
    replace hw := hw.2 σ_1 eσ_1
    refine go_aload_n C 0 rfl rfl dX7_add_20 ?_
    refine go_get (v := .ref (G.2.2.1 66)) C (shX7 G) (ltX7 hN) lkX7_15 rfl dX7_add_21 ?_
    refine go_aload_n C 0 rfl rfl dX7_add_24 ?_
    refine go_get (v := .int (gI σ_1 64 0)) C (shX7 G) (ltX7 hN) lkX7_28 rfl dX7_add_25 ?_
    refine go_iload_n C 2 rfl rfl dX7_add_28 ?_
    refine go_iast C (saX7_ofSpot G) (laX7_ofSpot hN) hw.1 dX7_add_29 (go_nm fun σ_2 eσ_2 => ?_)
    replace hw := hw.2 σ_2 eσ_2
    refine go_aload_n C 0 rfl rfl dX7_add_30 ?_
    refine go_get (v := .ref (G.2.2.1 67)) C (shX7 G) (ltX7 hN) lkX7_18 rfl dX7_add_31 ?_
    refine go_aload_n C 0 rfl rfl dX7_add_34 ?_
    refine go_get (v := .int (gI σ_2 64 0)) C (shX7 G) (ltX7 hN) lkX7_28 rfl dX7_add_35 ?_
    refine go_iload_n C 3 rfl rfl dX7_add_38 ?_
    refine go_iast C (saX7_numbers G) (laX7_numbers hN) hw.1 dX7_add_39 (go_nm fun σ_3 eσ_3 => ?_)
    replace hw := hw.2 σ_3 eσ_3
    refine go_aload_n C 0 rfl rfl dX7_add_40 ?_
    refine go_get (v := .ref (G.2.2.1 68)) C (shX7 G) (ltX7 hN) lkX7_21 rfl dX7_add_41 ?_
    refine go_aload_n C 0 rfl rfl dX7_add_44 ?_
    refine go_get (v := .int (gI σ_3 64 0)) C (shX7 G) (ltX7 hN) lkX7_28 rfl dX7_add_45 ?_
    refine go_iload C 4 rfl dX7_add_48 ?_
    refine go_iast C (saX7_toldAt G) (laX7_toldAt hN) hw.1 dX7_add_50 (go_nm fun σ_4 eσ_4 => ?_)
    replace hw := hw.2 σ_4 eσ_4
    refine go_aload_n C 0 rfl rfl dX7_add_51 ?_
    refine go_dup C rfl dX7_add_52 ?_
    refine go_get (v := .int (gI σ_4 64 0)) C (shX7 G) (ltX7 hN) lkX7_28 rfl dX7_add_53 ?_
    refine go_iconst (v := 1) C rfl dX7_add_56 ?_
    refine go_iadd C dX7_add_57 ?_
    refine go_puti C (shX7 G) (ltX7 hN) lpX7_28 (show 0 < 7 by decide) (pxX7_0 G _ _) dX7_add_58 (go_nm fun σ_5 eσ_5 => ?_)
    replace hw := hw σ_5 eσ_5
    refine go_aload_n C 0 rfl rfl dX7_add_61 ?_
    refine go_get (v := .int (gI σ_5 64 0)) C (shX7 G) (ltX7 hN) lkX7_28 rfl dX7_add_62 ?_
    exact go_iret C hr ⟨_, rfl, hw⟩ dX7_add_65
-- CradleNames$Press.forgetRuns()V
set_option maxRecDepth 20000 in
set_option maxHeartbeats 4000000 in
theorem spX7_forgetRuns {l : Launch} {G : GT} {d : Nat}  (hd : 1 ≤ d)  (hN : 75 ≤ G.2.2.2.2.2)   {σ : St} {post : St → Prop} (hw : wpX7_forgetRuns   σ post) : Sp l G d yX7_forgetRuns cX7_forgetRuns 1 none [.ref (G.2.2.1 64)] σ (fun v τ => v = none ∧ post τ) := by
  refine Sp.of (by decide) (Nat.le_of_ble_eq_true rfl) fun X C hr hR hnl => ?_
  show Go X G 0 [(0, .ref (G.2.2.1 64))] [] σ
  have hw : ∀ σ_1 : St, σ_1 = sI σ 64 6 0 →
  post σ_1 := hw
  refine go_aload_n C 0 rfl rfl dX7_forgetRuns_0 ?_
  refine go_iconst (v := 0) C rfl dX7_forgetRuns_1 ?_
  refine go_puti C (shX7 G) (ltX7 hN) lpX7_32 (show 6 < 7 by decide) (pxX7_6 G _ _) dX7_forgetRuns_2 (go_nm fun σ_1 eσ_1 => ?_)
  replace hw := hw σ_1 eσ_1
  exact go_vret C hr ⟨rfl, hw⟩ dX7_forgetRuns_5
-- CradleNames$Press.hasRun(I)Z
set_option maxRecDepth 20000 in
set_option maxHeartbeats 4000000 in
theorem spX7_hasRun {l : Launch} {G : GT} {d : Nat}  (hd : 1 ≤ d)  (hN : 75 ≤ G.2.2.2.2.2)  {a1 : Int32} {σ : St} {post : Int32 → St → Prop} (hw : wpX7_hasRun  a1 σ post) : Sp l G d yX7_hasRun cX7_hasRun 2 (some .boolean) [.ref (G.2.2.1 64), .int a1] σ (fun v τ => ∃ r : Int32, v = some (.int r) ∧ post r τ) := by
  refine Sp.of (by decide) (Nat.le_of_ble_eq_true rfl) fun X C hr hR hnl => ?_
  show Go X G 0 [(0, .ref (G.2.2.1 64)), (1, .int a1)] [] σ
  have hw : ((¬ (((gI σ 64 6) >>> (a1 &&& 31)) &&& 1) = 1 →
    post 0 σ) ∧
  ((((gI σ 64 6) >>> (a1 &&& 31)) &&& 1) = 1 →
    post 1 σ)) := hw
  refine go_aload_n C 0 rfl rfl dX7_hasRun_0 ?_
  refine go_get (v := .int (gI σ 64 6)) C (shX7 G) (ltX7 hN) lkX7_32 rfl dX7_hasRun_1 ?_
  refine go_iload_n C 1 rfl rfl dX7_hasRun_4 ?_
  refine go_ishr C dX7_hasRun_5 ?_
  refine go_iconst (v := 1) C rfl dX7_hasRun_6 ?_
  refine go_iand C dX7_hasRun_7 ?_
  refine go_iconst (v := 1) C rfl dX7_hasRun_8 ?_
  refine go_icmp_ne C 16 rfl dX7_hasRun_9 (fun hc => ?_) (fun hc => ?_)
  · replace hw := hw.1 hc
    refine go_iconst (v := 0) C rfl dX7_hasRun_16 ?_
    exact go_zret C hr rfl ⟨_, rfl, hw⟩ dX7_hasRun_17
  · replace hw := hw.2 hc
    refine go_iconst (v := 1) C rfl dX7_hasRun_12 ?_
    refine go_goto C 17 rfl dX7_hasRun_13 ?_
    exact go_zret C hr rfl ⟨_, rfl, hw⟩ dX7_hasRun_17
-- CradleNames$Press.keepRun(ILCradleNames$Book;)V
set_option maxRecDepth 20000 in
set_option maxHeartbeats 4000000 in
theorem gbX7_keepRun_11 {X : XT} {G : GT} {l : Launch} {d : Nat} {k2 : Nat} {post : St → Prop} (C : Cx X G cX7_keepRun RX7) (hr : Rt X G none (fun v τ => v = none ∧ post τ)) (hR : Rm X l d) (hnl : X.2.2.2.2.2.2.2.2.2.2.1 = 7)  (hd : 2 ≤ d) (hN : 75 ≤ G.2.2.2.2.2) (hk2 : k2 < 2) {K2 : Int32 → Int32 → St → Prop} (hK2 : ∀ (v1 : Int32) (v3 : Int32) (σ : St), K2 v1 v3 σ → Go X G 2 [(0, .ref (G.2.2.1 64)), (1, .int v1), (2, .ref (G.2.2.1 (21 + 4 * k2))), (3, .int v3)] [] σ)
    : ∀ (n : Nat) (v1 : Int32) (v3 : Int32) (v4 : Int32) (σ : St), wbX7_keepRun_11 k2 K2 post n v1 v3 v4 σ → Go X G 11 [(0, .ref (G.2.2.1 64)), (1, .int v1), (2, .ref (G.2.2.1 (21 + 4 * k2))), (3, .int v3), (4, .int v4)] [] σ := by
  intro n
  induction n with
  | zero => intro v1 v3 v4 σ hw; exact hw.elim
  | succ n ih =>
    intro v1 v3 v4 σ hw
    have hw : ((6 ≤ v4 →
      ∀ v3_1 : Int32, v3_1 = v3 + 1 →
      K2 v1 v3_1 σ) ∧
    (¬ 6 ≤ v4 →
      ∀ v5_2 : Int32, v5_2 = (v4 / 2) →
      ∀ v6_3 : Int32, v6_3 = (v4 - v4 / 2 * 2) →
      wpX4_row v5_2 0 v6_3 σ (fun r_4 σ_5 =>
      vp_in ((v3 * 12) + r_4) 732 ∧ (
      wpX4_row v5_2 1 v6_3 σ_5 (fun r_6 σ_7 =>
      vp_in ((v3 * 12) + r_6) 732 ∧ (
      vp_in ((((v1 * 61) + v3) * 6) + v4) 2196 ∧ (
      ∀ σ_8 : St, σ_8 = sL σ_7 69 ((((v1 * 61) + v3) * 6) + v4).toNatClampNeg ((gL σ_5 (21 + 4 * k2 + 1) ((v3 * 12) + r_4).toNatClampNeg) + (gL σ_7 (21 + 4 * k2 + 1) ((v3 * 12) + r_6).toNatClampNeg)) →
      ∀ v4_9 : Int32, v4_9 = v4 + 1 →
      wbX7_keepRun_11 k2 K2 post n v1 v3 v4_9 σ_8))))))) := hw
    refine go_iload C 4 rfl dX7_keepRun_11 ?_
    refine go_bipush (v := 6) C rfl dX7_keepRun_13 ?_
    refine go_icmp_ge C 90 rfl dX7_keepRun_15 (fun hc => ?_) (fun hc => ?_)
    · replace hw := hw.1 hc
      obtain ⟨v3_1, ev3_1⟩ : ∃ z : Int32, z = v3 + 1 := ⟨_, rfl⟩
      replace hw := hw v3_1 ev3_1
      refine go_iinc (v := v3_1) (lv2 := [(3, .int v3_1), (0, .ref (G.2.2.1 64)), (1, .int v1), (2, .ref (G.2.2.1 (21 + 4 * k2))), (4, .int v4)]) C 3 rfl (by rw [ev3_1]; rfl) (by rw [hnl]; decide) rfl dX7_keepRun_90 ?_
      refine go_goto C 2 rfl dX7_keepRun_93 ?_
      refine go_sub [1, 2, 3, 0] rfl ?_
      exact hK2 _ _ _ hw
    · replace hw := hw.2 hc
      refine go_iload C 4 rfl dX7_keepRun_18 ?_
      refine go_iconst (v := 2) C rfl dX7_keepRun_20 ?_
      refine go_idiv C (by decide) dX7_keepRun_21 ?_
      refine go_topi (fun v5_2 ev5_2 => ?_)
      replace hw := hw v5_2 ev5_2
      refine go_istore (lv2 := [(5, .int v5_2), (0, .ref (G.2.2.1 64)), (1, .int v1), (2, .ref (G.2.2.1 (21 + 4 * k2))), (3, .int v3), (4, .int v4)]) C (by rw [hnl]; decide) rfl dX7_keepRun_22 ?_
      refine go_iload C 5 rfl dX7_keepRun_24 ?_
      refine go_iconst (v := 2) C rfl dX7_keepRun_26 ?_
      refine go_irem C (by decide) dX7_keepRun_27 ?_
      refine go_topi (fun v6_3 ev6_3 => ?_)
      replace hw := hw v6_3 ev6_3
      refine go_istore (lv2 := [(6, .int v6_3), (5, .int v5_2), (0, .ref (G.2.2.1 64)), (1, .int v1), (2, .ref (G.2.2.1 (21 + 4 * k2))), (3, .int v3), (4, .int v4)]) C (by rw [hnl]; decide) rfl dX7_keepRun_28 ?_
      refine go_aload_n C 2 rfl rfl dX7_keepRun_30 ?_
      refine go_get (v := .ref (G.2.2.1 69)) C (shX7 G) (ltX7 hN) lkX7_24 rfl dX7_keepRun_31 ?_
      refine go_iload_n C 3 rfl rfl dX7_keepRun_34 ?_
      refine go_bipush (v := 61) C rfl dX7_keepRun_35 ?_
      refine go_imul C dX7_keepRun_37 ?_
      refine go_iload_n C 5 rfl rfl dX7_keepRun_38 ?_
      refine go_iadd C dX7_keepRun_39 ?_
      refine go_bipush (v := 6) C rfl dX7_keepRun_40 ?_
      refine go_imul C dX7_keepRun_42 ?_
      refine go_iload C 6 rfl dX7_keepRun_43 ?_
      refine go_iadd C dX7_keepRun_45 ?_
      refine go_aload_n C 4 rfl rfl dX7_keepRun_46 ?_
      refine go_get (v := .ref (G.2.2.1 (21 + 4 * k2 + 1))) C (shX0 G hk2) (ltX0 hN hk2) lkX7_35 rfl dX7_keepRun_47 ?_
      refine go_iload_n C 5 rfl rfl dX7_keepRun_50 ?_
      refine go_bipush (v := 12) C rfl dX7_keepRun_51 ?_
      refine go_imul C dX7_keepRun_53 ?_
      refine go_iload C 1 rfl dX7_keepRun_54 ?_
      refine go_iconst (v := 0) C rfl dX7_keepRun_56 ?_
      refine go_iload C 0 rfl dX7_keepRun_57 ?_
      refine go_callS (as := [.int v5_2, .int 0, .int v6_3]) C hR cwX7_40 (Nat.le_trans (by decide) hd) (by decide) rfl rfl (Nat.le_of_ble_eq_true rfl) dX7_keepRun_59 (spX4_row (Nat.le_refl _) hN hw) (fun v_ τ_ hw => ?_)
      obtain ⟨r_4, rfl, hw⟩ := hw
      obtain ⟨σ_5, rfl⟩ : ∃ z, z = τ_ := ⟨_, rfl⟩
      refine go_iadd C dX7_keepRun_62 ?_
      refine go_lald C (saX0_rows G hk2) (laX0_rows hN hk2) hw.1 dX7_keepRun_63 ?_
      replace hw := hw.2
      refine go_aload_n C 4 rfl rfl dX7_keepRun_64 ?_
      refine go_get (v := .ref (G.2.2.1 (21 + 4 * k2 + 1))) C (shX0 G hk2) (ltX0 hN hk2) lkX7_35 rfl dX7_keepRun_65 ?_
      refine go_iload_n C 5 rfl rfl dX7_keepRun_68 ?_
      refine go_bipush (v := 12) C rfl dX7_keepRun_69 ?_
      refine go_imul C dX7_keepRun_71 ?_
      refine go_iload C 1 rfl dX7_keepRun_72 ?_
      refine go_iconst (v := 1) C rfl dX7_keepRun_74 ?_
      refine go_iload C 0 rfl dX7_keepRun_75 ?_
      refine go_callS (as := [.int v5_2, .int 1, .int v6_3]) C hR cwX7_40 (Nat.le_trans (by decide) hd) (by decide) rfl rfl (Nat.le_of_ble_eq_true rfl) dX7_keepRun_77 (spX4_row (Nat.le_refl _) hN hw) (fun v_ τ_ hw => ?_)
      obtain ⟨r_6, rfl, hw⟩ := hw
      obtain ⟨σ_7, rfl⟩ : ∃ z, z = τ_ := ⟨_, rfl⟩
      refine go_iadd C dX7_keepRun_80 ?_
      refine go_lald C (saX0_rows G hk2) (laX0_rows hN hk2) hw.1 dX7_keepRun_81 ?_
      replace hw := hw.2
      refine go_ladd C dX7_keepRun_82 ?_
      refine go_last C (saX7_runs G) (laX7_runs hN) hw.1 dX7_keepRun_83 (go_nm fun σ_8 eσ_8 => ?_)
      replace hw := hw.2 σ_8 eσ_8
      obtain ⟨v4_9, ev4_9⟩ : ∃ z : Int32, z = v4 + 1 := ⟨_, rfl⟩
      replace hw := hw v4_9 ev4_9
      refine go_iinc (v := v4_9) (lv2 := [(4, .int v4_9), (6, .int v6_3), (5, .int v5_2), (0, .ref (G.2.2.1 64)), (1, .int v1), (2, .ref (G.2.2.1 (21 + 4 * k2))), (3, .int v3)]) C 6 rfl (by rw [ev4_9]; rfl) (by rw [hnl]; decide) rfl dX7_keepRun_84 ?_
      refine go_goto C 11 rfl dX7_keepRun_87 ?_
      refine go_sub [3, 4, 5, 6, 0] rfl ?_
      exact ih _ _ _ _ hw
set_option maxRecDepth 20000 in
set_option maxHeartbeats 4000000 in
theorem gbX7_keepRun_2 {X : XT} {G : GT} {l : Launch} {d : Nat} {k2 : Nat} {post : St → Prop} (C : Cx X G cX7_keepRun RX7) (hr : Rt X G none (fun v τ => v = none ∧ post τ)) (hR : Rm X l d) (hnl : X.2.2.2.2.2.2.2.2.2.2.1 = 7)  (hd : 2 ≤ d) (hN : 75 ≤ G.2.2.2.2.2) (hk2 : k2 < 2)  
    : ∀ (n : Nat) (v1 : Int32) (v3 : Int32) (σ : St), wbX7_keepRun_2 k2  post n v1 v3 σ → Go X G 2 [(0, .ref (G.2.2.1 64)), (1, .int v1), (2, .ref (G.2.2.1 (21 + 4 * k2))), (3, .int v3)] [] σ := by
  intro n
  induction n with
  | zero => intro v1 v3 σ hw; exact hw.elim
  | succ n ih =>
    intro v1 v3 σ hw
    have hw : ((61 ≤ v3 →
      ∀ σ_1 : St, σ_1 = sI σ 64 6 ((gI σ 64 6) ||| (1 <<< (v1 &&& 31))) →
      post σ_1) ∧
    (¬ 61 ≤ v3 →
      ∃ m_11, wbX7_keepRun_11 k2 (wbX7_keepRun_2 k2 post n) post m_11 v1 v3 0 σ)) := hw
    refine go_iload_n C 3 rfl rfl dX7_keepRun_2 ?_
    refine go_bipush (v := 61) C rfl dX7_keepRun_3 ?_
    refine go_icmp_ge C 96 rfl dX7_keepRun_5 (fun hc => ?_) (fun hc => ?_)
    · replace hw := hw.1 hc
      refine go_aload_n C 0 rfl rfl dX7_keepRun_96 ?_
      refine go_dup C rfl dX7_keepRun_97 ?_
      refine go_get (v := .int (gI σ 64 6)) C (shX7 G) (ltX7 hN) lkX7_32 rfl dX7_keepRun_98 ?_
      refine go_iconst (v := 1) C rfl dX7_keepRun_101 ?_
      refine go_iload_n C 1 rfl rfl dX7_keepRun_102 ?_
      refine go_ishl C dX7_keepRun_103 ?_
      refine go_ior C dX7_keepRun_104 ?_
      refine go_puti C (shX7 G) (ltX7 hN) lpX7_32 (show 6 < 7 by decide) (pxX7_6 G _ _) dX7_keepRun_105 (go_nm fun σ_1 eσ_1 => ?_)
      replace hw := hw σ_1 eσ_1
      exact go_vret C hr ⟨rfl, hw⟩ dX7_keepRun_108
    · replace hw := hw.2 hc
      refine go_iconst (v := 0) C rfl dX7_keepRun_8 ?_
      refine go_istore (lv2 := [(4, .int 0), (0, .ref (G.2.2.1 64)), (1, .int v1), (2, .ref (G.2.2.1 (21 + 4 * k2))), (3, .int v3)]) C (by rw [hnl]; decide) rfl dX7_keepRun_9 ?_
      refine go_sub [1, 2, 3, 4, 0] rfl ?_
      obtain ⟨n_0, hw⟩ := hw
      exact (gbX7_keepRun_11 C hr hR hnl hd hN hk2 ih) n_0 _ _ _ _ hw
set_option maxRecDepth 20000 in
set_option maxHeartbeats 4000000 in
theorem spX7_keepRun {l : Launch} {G : GT} {d : Nat}  (hd : 2 ≤ d) {k2 : Nat} (hN : 75 ≤ G.2.2.2.2.2) (hk2 : k2 < 2) {a1 : Int32} {σ : St} {post : St → Prop} (hw : wpX7_keepRun k2 a1 σ post) : Sp l G d yX7_keepRun cX7_keepRun 7 none [.ref (G.2.2.1 64), .int a1, .ref (G.2.2.1 (21 + 4 * k2))] σ (fun v τ => v = none ∧ post τ) := by
  refine Sp.of (by decide) (Nat.le_of_ble_eq_true rfl) fun X C hr hR hnl => ?_
  show Go X G 0 [(0, .ref (G.2.2.1 64)), (1, .int a1), (2, .ref (G.2.2.1 (21 + 4 * k2)))] [] σ
  have hw : ∃ m_2, wbX7_keepRun_2 k2 post m_2 a1 0 σ := hw
  refine go_iconst (v := 0) C rfl dX7_keepRun_0 ?_
  refine go_istore_n (lv2 := [(3, .int 0), (0, .ref (G.2.2.1 64)), (1, .int a1), (2, .ref (G.2.2.1 (21 + 4 * k2)))]) C rfl (by rw [hnl]; decide) rfl dX7_keepRun_1 ?_
  refine go_sub [1, 2, 3, 0] rfl ?_
  obtain ⟨n_0, hw⟩ := hw
  exact (gbX7_keepRun_2 C hr hR hnl hd hN hk2) n_0 _ _ _ hw
