-- CradleNames$Names.knows(J)Z
def wbX5_knows_2   (post : Int32 → St → Prop) : Nat → Int64 → Int32 → St → Prop
  | 0, _, _, _ => False
  | n + 1, v1, v3, σ =>
    (((gI σ 1 0) ≤ v3 →
      post 0 σ) ∧
    (¬ (gI σ 1 0) ≤ v3 →
      vp_in v3 16 ∧ (
      ((¬ (gL σ 2 v3.toNatClampNeg) = v1 →
        ∀ v3_1 : Int32, v3_1 = v3 + 1 →
        wbX5_knows_2 post n v1 v3_1 σ) ∧
      ((gL σ 2 v3.toNatClampNeg) = v1 →
        post 1 σ)))))
def wpX5_knows  (a1 : Int64) (σ : St) (post : Int32 → St → Prop) : Prop :=
  ∃ n, wbX5_knows_2 post n a1 0 σ
set_option maxRecDepth 20000 in
set_option maxHeartbeats 4000000 in
theorem gbX5_knows_2 {X : XT} {G : GT} {l : Launch} {d : Nat}  {post : Int32 → St → Prop} (C : Cx X G cX5_knows RX5) (hr : Rt X G (some .boolean) (fun v τ => ∃ r : Int32, v = some (.int r) ∧ post r τ)) (hR : Rm X l d) (hnl : X.2.2.2.2.2.2.2.2.2.2.1 = 4)  (hd : 1 ≤ d)   
    : ∀ (n : Nat) (v1 : Int64) (v3 : Int32) (σ : St), wbX5_knows_2   post n v1 v3 σ → Go X G 2 [(0, .ref (G.2.2.1 1)), (1, .long v1), (3, .int v3)] [] σ := by
  intro n
  induction n with
  | zero => intro v1 v3 σ hw; exact hw.elim
  | succ n ih =>
    intro v1 v3 σ hw
    have hw : (((gI σ 1 0) ≤ v3 →
      post 0 σ) ∧
    (¬ (gI σ 1 0) ≤ v3 →
      vp_in v3 16 ∧ (
      ((¬ (gL σ 2 v3.toNatClampNeg) = v1 →
        ∀ v3_1 : Int32, v3_1 = v3 + 1 →
        wbX5_knows_2 post n v1 v3_1 σ) ∧
      ((gL σ 2 v3.toNatClampNeg) = v1 →
        post 1 σ))))) := hw
    refine go_iload_n C 2 rfl rfl dX5_knows_2 ?_
    refine go_aload_n C 0 rfl rfl dX5_knows_3 ?_
    refine go_get (v := .int (gI σ 1 0)) C (shX5 G) ltX5 lkX5_38 rfl dX5_knows_4 ?_
    refine go_icmp_ge C 29 rfl dX5_knows_7 (fun hc => ?_) (fun hc => ?_)
    · replace hw := hw.1 hc
      refine go_iconst (v := 0) C rfl dX5_knows_29 ?_
      exact go_zret C hr rfl ⟨_, rfl, hw⟩ dX5_knows_30
    · replace hw := hw.2 hc
      refine go_aload_n C 0 rfl rfl dX5_knows_10 ?_
      refine go_get (v := .ref (G.2.2.1 2)) C (shX5 G) ltX5 lkX5_9 rfl dX5_knows_11 ?_
      refine go_iload_n C 2 rfl rfl dX5_knows_14 ?_
      refine go_lald C (saX5_letters G) laX5_letters hw.1 dX5_knows_15 ?_
      replace hw := hw.2
      refine go_lload_n C 1 rfl rfl dX5_knows_16 ?_
      refine go_lc_ne C 23 rfl dX5_knows_17 dX5_knows_18 (fun hc => ?_) (fun hc => ?_)
      · replace hw := hw.1 hc
        obtain ⟨v3_1, ev3_1⟩ : ∃ z : Int32, z = v3 + 1 := ⟨_, rfl⟩
        replace hw := hw v3_1 ev3_1
        refine go_iinc (v := v3_1) (lv2 := [(3, .int v3_1), (0, .ref (G.2.2.1 1)), (1, .long v1)]) C 2 rfl (by rw [ev3_1]; rfl) (by rw [hnl]; decide) rfl dX5_knows_23 ?_
        refine go_goto C 2 rfl dX5_knows_26 ?_
        refine go_sub [1, 2, 0] rfl ?_
        exact ih _ _ _ hw
      · replace hw := hw.2 hc
        refine go_iconst (v := 1) C rfl dX5_knows_21 ?_
        exact go_zret C hr rfl ⟨_, rfl, hw⟩ dX5_knows_22
set_option maxRecDepth 20000 in
set_option maxHeartbeats 4000000 in
theorem spX5_knows {l : Launch} {G : GT} {d : Nat}  (hd : 1 ≤ d)   {a1 : Int64} {σ : St} {post : Int32 → St → Prop} (hw : wpX5_knows  a1 σ post) : Sp l G d yX5_knows cX5_knows 4 (some .boolean) [.ref (G.2.2.1 1), .long a1] σ (fun v τ => ∃ r : Int32, v = some (.int r) ∧ post r τ) := by
  refine Sp.of (by decide) (by decide) fun X C hr hR hnl => ?_
  show Go X G 0 [(0, .ref (G.2.2.1 1)), (1, .long a1)] [] σ
  have hw : ∃ n, wbX5_knows_2 post n a1 0 σ := hw
  refine go_iconst (v := 0) C rfl dX5_knows_0 ?_
  refine go_istore_n (lv2 := [(3, .int 0), (0, .ref (G.2.2.1 1)), (1, .long a1)]) C rfl (by rw [hnl]; decide) rfl dX5_knows_1 ?_
  refine go_sub [1, 2, 0] rfl ?_
  obtain ⟨n_0, hw⟩ := hw
  exact (gbX5_knows_2 C hr hR hnl hd) n_0 _ _ _ hw
-- CradleNames$Names.letterAt(JI)C
def wpX5_letterAt  (a1 : Int64) (a2 : Int32) (σ : St) (post : Int32 → St → Prop) : Prop :=
  post (((96 + ((a1.toUInt64 >>> ((5 * a2).toInt64.toUInt64 &&& Int64.toUInt64 63)).toInt64 &&& 31).toInt32).toUInt32 % 65536).toInt32) σ
set_option maxRecDepth 20000 in
set_option maxHeartbeats 4000000 in
theorem spX5_letterAt {l : Launch} {G : GT} {d : Nat}  (hd : 1 ≤ d)   {a1 : Int64} {a2 : Int32} {σ : St} {post : Int32 → St → Prop} (hw : wpX5_letterAt  a1 a2 σ post) : Sp l G d yX5_letterAt cX5_letterAt 3 (some .char) [.long a1, .int a2] σ (fun v τ => ∃ r : Int32, v = some (.int r) ∧ post r τ) := by
  refine Sp.of (by decide) (by decide) fun X C hr hR hnl => ?_
  show Go X G 0 [(0, .long a1), (2, .int a2)] [] σ
  have hw : post (((96 + ((a1.toUInt64 >>> ((5 * a2).toInt64.toUInt64 &&& Int64.toUInt64 63)).toInt64 &&& 31).toInt32).toUInt32 % 65536).toInt32) σ := hw
  refine go_bipush (v := 96) C rfl dX5_letterAt_0 ?_
  refine go_lload_n C 0 rfl rfl dX5_letterAt_2 ?_
  refine go_iconst (v := 5) C rfl dX5_letterAt_3 ?_
  refine go_iload_n C 1 rfl rfl dX5_letterAt_4 ?_
  refine go_imul C dX5_letterAt_5 ?_
  refine go_lushr C dX5_letterAt_6 ?_
  refine go_ldc2 (v := 31) C kcX5_34 dX5_letterAt_7 ?_
  refine go_land C dX5_letterAt_10 ?_
  refine go_l2i C dX5_letterAt_11 ?_
  refine go_iadd C dX5_letterAt_12 ?_
  refine go_i2c C dX5_letterAt_13 ?_
  exact go_zret C hr (pk_nc _) ⟨_, rfl, hw⟩ dX5_letterAt_14
-- java/lang/String.isLatin1()Z
def wpJ0_isLatin1_aae02 (j0 : Nat)  (σ : St) (post : Int32 → St → Prop) : Prop :=
  ((1 = 0 →
    post 0 σ) ∧
  (¬ 1 = 0 →
    ((¬ 0 = 0 →
      post 0 σ) ∧
    (0 = 0 →
      post 1 σ))))
set_option maxRecDepth 20000 in
set_option maxHeartbeats 4000000 in
theorem spJ0_isLatin1_aae02 {l : Launch} {G : GT} {d : Nat}  (hd : 1 ≤ d) {j0 : Nat} (hj0 : j0 < 4)  {σ : St} {post : Int32 → St → Prop} (hw : wpJ0_isLatin1_aae02 j0  σ post) : Sp l G d yJ0_isLatin1_aae02 cJ0_isLatin1_aae02 1 (some .boolean) [.ref (G.2.2.2.1 j0)] σ (fun v τ => ∃ r : Int32, v = some (.int r) ∧ post r τ) := by
  refine Sp.of (by decide) (by decide) fun X C hr hR hnl => ?_
  show Go X G 0 [(0, .ref (G.2.2.2.1 j0))] [] σ
  have hw : ((1 = 0 →
    post 0 σ) ∧
  (¬ 1 = 0 →
    ((¬ 0 = 0 →
      post 0 σ) ∧
    (0 = 0 →
      post 1 σ)))) := hw
  refine go_scmp C ls_COMPACT_STRINGS dJ0_isLatin1_aae02_0 ?_
  refine go_if_eq C 17 rfl dJ0_isLatin1_aae02_3 (fun hc => ?_) (fun hc => ?_)
  · replace hw := hw.1 hc
    refine go_iconst (v := 0) C rfl dJ0_isLatin1_aae02_17 ?_
    exact go_zret C hr rfl ⟨_, rfl, hw⟩ dJ0_isLatin1_aae02_18
  · replace hw := hw.2 hc
    refine go_aload_n C 0 rfl rfl dJ0_isLatin1_aae02_6 ?_
    refine go_scod C hj0 ls_coder dJ0_isLatin1_aae02_7 ?_
    refine go_if_ne C 17 rfl dJ0_isLatin1_aae02_10 (fun hc => ?_) (fun hc => ?_)
    · replace hw := hw.1 hc
      refine go_iconst (v := 0) C rfl dJ0_isLatin1_aae02_17 ?_
      exact go_zret C hr rfl ⟨_, rfl, hw⟩ dJ0_isLatin1_aae02_18
    · replace hw := hw.2 hc
      refine go_iconst (v := 1) C rfl dJ0_isLatin1_aae02_13 ?_
      refine go_goto C 18 rfl dJ0_isLatin1_aae02_14 ?_
      exact go_zret C hr rfl ⟨_, rfl, hw⟩ dJ0_isLatin1_aae02_18
-- java/lang/String.coder()B
def wpJ0_coder_7d493 (j0 : Nat)  (σ : St) (post : Int32 → St → Prop) : Prop :=
  ((1 = 0 →
    narrow .byte (.int 1) = .int 1 ∧ post 1 σ) ∧
  (¬ 1 = 0 →
    narrow .byte (.int 0) = .int 0 ∧ post 0 σ))
set_option maxRecDepth 20000 in
set_option maxHeartbeats 4000000 in
theorem spJ0_coder_7d493 {l : Launch} {G : GT} {d : Nat}  (hd : 1 ≤ d) {j0 : Nat} (hj0 : j0 < 4)  {σ : St} {post : Int32 → St → Prop} (hw : wpJ0_coder_7d493 j0  σ post) : Sp l G d yJ0_coder_7d493 cJ0_coder_7d493 1 (some .byte) [.ref (G.2.2.2.1 j0)] σ (fun v τ => ∃ r : Int32, v = some (.int r) ∧ post r τ) := by
  refine Sp.of (by decide) (by decide) fun X C hr hR hnl => ?_
  show Go X G 0 [(0, .ref (G.2.2.2.1 j0))] [] σ
  have hw : ((1 = 0 →
    narrow .byte (.int 1) = .int 1 ∧ post 1 σ) ∧
  (¬ 1 = 0 →
    narrow .byte (.int 0) = .int 0 ∧ post 0 σ)) := hw
  refine go_scmp C ls_COMPACT_STRINGS dJ0_coder_7d493_0 ?_
  refine go_if_eq C 13 rfl dJ0_coder_7d493_3 (fun hc => ?_) (fun hc => ?_)
  · replace hw := hw.1 hc
    refine go_iconst (v := 1) C rfl dJ0_coder_7d493_13 ?_
    exact go_zret C hr hw.1 ⟨_, rfl, hw.2⟩ dJ0_coder_7d493_14
  · replace hw := hw.2 hc
    refine go_aload_n C 0 rfl rfl dJ0_coder_7d493_6 ?_
    refine go_scod C hj0 ls_coder dJ0_coder_7d493_7 ?_
    refine go_goto C 14 rfl dJ0_coder_7d493_10 ?_
    exact go_zret C hr hw.1 ⟨_, rfl, hw.2⟩ dJ0_coder_7d493_14
-- java/lang/String.length()I
def wpJ0_length_8abf5 (j0 : Nat)  (σ : St) (post : Int32 → St → Prop) : Prop :=
  wpJ0_coder_7d493 j0 σ (fun r_1 σ_2 =>
  post ((Int32.ofNat (sLen.getD j0 0)) >>> (r_1 &&& 31)) σ_2)
set_option maxRecDepth 20000 in
set_option maxHeartbeats 4000000 in
theorem spJ0_length_8abf5 {l : Launch} {G : GT} {d : Nat}  (hd : 2 ≤ d) {j0 : Nat} (hj0 : j0 < 4)  {σ : St} {post : Int32 → St → Prop} (hw : wpJ0_length_8abf5 j0  σ post) : Sp l G d yJ0_length_8abf5 cJ0_length_8abf5 1 (some .int) [.ref (G.2.2.2.1 j0)] σ (fun v τ => ∃ r : Int32, v = some (.int r) ∧ post r τ) := by
  refine Sp.of (by decide) (by decide) fun X C hr hR hnl => ?_
  show Go X G 0 [(0, .ref (G.2.2.2.1 j0))] [] σ
  have hw : wpJ0_coder_7d493 j0 σ (fun r_1 σ_2 =>
  post ((Int32.ofNat (sLen.getD j0 0)) >>> (r_1 &&& 31)) σ_2) := hw
  refine go_aload_n C 0 rfl rfl dJ0_length_8abf5_0 ?_
  refine go_sval C hj0 ls_value dJ0_length_8abf5_1 ?_
  refine go_sblen C hj0 dJ0_length_8abf5_4 ?_
  refine go_aload_n C 0 rfl rfl dJ0_length_8abf5_5 ?_
  refine go_callT (as := []) C hR hj0 cwJ0_335 (Nat.le_trans (by decide) hd) (by decide) rfl rfl (by decide) dJ0_length_8abf5_6 (spJ0_coder_7d493 (Nat.le_refl _) hj0 hw) (fun v_ τ_ hw => ?_)
  obtain ⟨r_1, rfl, hw⟩ := hw
  obtain ⟨σ_2, rfl⟩ : ∃ z, z = τ_ := ⟨_, rfl⟩
  refine go_ishr C dJ0_length_8abf5_9 ?_
  exact go_iret C hr ⟨_, rfl, hw⟩ dJ0_length_8abf5_10
-- java/lang/StringLatin1.canEncode(I)Z
def wpJ1_canEncode_9a6ad  (a1 : Int32) (σ : St) (post : Int32 → St → Prop) : Prop :=
  ((a1 < 0 →
    post 0 σ) ∧
  (¬ a1 < 0 →
    ((255 < a1 →
      post 0 σ) ∧
    (¬ 255 < a1 →
      post 1 σ))))
set_option maxRecDepth 20000 in
set_option maxHeartbeats 4000000 in
theorem spJ1_canEncode_9a6ad {l : Launch} {G : GT} {d : Nat}  (hd : 1 ≤ d)   {a1 : Int32} {σ : St} {post : Int32 → St → Prop} (hw : wpJ1_canEncode_9a6ad  a1 σ post) : Sp l G d yJ1_canEncode_9a6ad cJ1_canEncode_9a6ad 1 (some .boolean) [.int a1] σ (fun v τ => ∃ r : Int32, v = some (.int r) ∧ post r τ) := by
  refine Sp.of (by decide) (by decide) fun X C hr hR hnl => ?_
  show Go X G 0 [(0, .int a1)] [] σ
  have hw : ((a1 < 0 →
    post 0 σ) ∧
  (¬ a1 < 0 →
    ((255 < a1 →
      post 0 σ) ∧
    (¬ 255 < a1 →
      post 1 σ)))) := hw
  refine go_iload_n C 0 rfl rfl dJ1_canEncode_9a6ad_0 ?_
  refine go_if_lt C 15 rfl dJ1_canEncode_9a6ad_1 (fun hc => ?_) (fun hc => ?_)
  · replace hw := hw.1 hc
    refine go_iconst (v := 0) C rfl dJ1_canEncode_9a6ad_15 ?_
    exact go_zret C hr rfl ⟨_, rfl, hw⟩ dJ1_canEncode_9a6ad_16
  · replace hw := hw.2 hc
    refine go_iload_n C 0 rfl rfl dJ1_canEncode_9a6ad_4 ?_
    refine go_sipush (v := 255) C rfl dJ1_canEncode_9a6ad_5 ?_
    refine go_icmp_gt C 15 rfl dJ1_canEncode_9a6ad_8 (fun hc => ?_) (fun hc => ?_)
    · replace hw := hw.1 hc
      refine go_iconst (v := 0) C rfl dJ1_canEncode_9a6ad_15 ?_
      exact go_zret C hr rfl ⟨_, rfl, hw⟩ dJ1_canEncode_9a6ad_16
    · replace hw := hw.2 hc
      refine go_iconst (v := 1) C rfl dJ1_canEncode_9a6ad_11 ?_
      refine go_goto C 16 rfl dJ1_canEncode_9a6ad_12 ?_
      exact go_zret C hr rfl ⟨_, rfl, hw⟩ dJ1_canEncode_9a6ad_16
-- java/lang/StringLatin1.indexOfChar([BIII)I
def wbJ1_indexOfChar_4cfef_7 (j1 : Nat)  (post : Int32 → St → Prop) : Nat → Int32 → Int32 → Int32 → St → Prop
  | 0, _, _, _, _ => False
  | n + 1, v3, v4, v5, σ =>
    ((v3 ≤ v5 →
      post (-1) σ) ∧
    (¬ v3 ≤ v5 →
      vp_in v5 (sLen.getD j1 0) ∧ (
      ((¬ ((sByt.getD j1 []).getD v5.toNatClampNeg 0) = v4 →
        ∀ v5_1 : Int32, v5_1 = v5 + 1 →
        wbJ1_indexOfChar_4cfef_7 j1 post n v3 v4 v5_1 σ) ∧
      (((sByt.getD j1 []).getD v5.toNatClampNeg 0) = v4 →
        post v5 σ)))))
def wpJ1_indexOfChar_4cfef (j1 : Nat) (a2 : Int32) (a3 : Int32) (a4 : Int32) (σ : St) (post : Int32 → St → Prop) : Prop :=
  ∀ v4_1 : Int32, v4_1 = a2.toInt8.toInt32 →
  ∃ n, wbJ1_indexOfChar_4cfef_7 j1 post n a4 v4_1 a3 σ
set_option maxRecDepth 20000 in
set_option maxHeartbeats 4000000 in
theorem gbJ1_indexOfChar_4cfef_7 {X : XT} {G : GT} {l : Launch} {d : Nat} {j1 : Nat} {post : Int32 → St → Prop} (C : Cx X G cJ1_indexOfChar_4cfef RJ1) (hr : Rt X G (some .int) (fun v τ => ∃ r : Int32, v = some (.int r) ∧ post r τ)) (hR : Rm X l d) (hnl : X.2.2.2.2.2.2.2.2.2.2.1 = 6)  (hd : 1 ≤ d) (hj1 : j1 < 4)  
    : ∀ (n : Nat) (v3 : Int32) (v4 : Int32) (v5 : Int32) (σ : St), wbJ1_indexOfChar_4cfef_7 j1  post n v3 v4 v5 σ → Go X G 7 [(0, .ref (G.2.2.2.2 j1)), (3, .int v3), (4, .int v4), (5, .int v5)] [] σ := by
  intro n
  induction n with
  | zero => intro v3 v4 v5 σ hw; exact hw.elim
  | succ n ih =>
    intro v3 v4 v5 σ hw
    have hw : ((v3 ≤ v5 →
      post (-1) σ) ∧
    (¬ v3 ≤ v5 →
      vp_in v5 (sLen.getD j1 0) ∧ (
      ((¬ ((sByt.getD j1 []).getD v5.toNatClampNeg 0) = v4 →
        ∀ v5_1 : Int32, v5_1 = v5 + 1 →
        wbJ1_indexOfChar_4cfef_7 j1 post n v3 v4 v5_1 σ) ∧
      (((sByt.getD j1 []).getD v5.toNatClampNeg 0) = v4 →
        post v5 σ))))) := hw
    refine go_iload C 3 rfl dJ1_indexOfChar_4cfef_7 ?_
    refine go_iload_n C 1 rfl rfl dJ1_indexOfChar_4cfef_9 ?_
    refine go_icmp_ge C 31 rfl dJ1_indexOfChar_4cfef_10 (fun hc => ?_) (fun hc => ?_)
    · replace hw := hw.1 hc
      refine go_iconst (v := (-1)) C rfl dJ1_indexOfChar_4cfef_31 ?_
      exact go_iret C hr ⟨_, rfl, hw⟩ dJ1_indexOfChar_4cfef_32
    · replace hw := hw.2 hc
      refine go_aload_n C 0 rfl rfl dJ1_indexOfChar_4cfef_13 ?_
      refine go_iload C 3 rfl dJ1_indexOfChar_4cfef_14 ?_
      refine go_sbald C hj1 hw.1 dJ1_indexOfChar_4cfef_16 ?_
      replace hw := hw.2
      refine go_iload C 2 rfl dJ1_indexOfChar_4cfef_17 ?_
      refine go_icmp_ne C 25 rfl dJ1_indexOfChar_4cfef_19 (fun hc => ?_) (fun hc => ?_)
      · replace hw := hw.1 hc
        obtain ⟨v5_1, ev5_1⟩ : ∃ z : Int32, z = v5 + 1 := ⟨_, rfl⟩
        replace hw := hw v5_1 ev5_1
        refine go_iinc (v := v5_1) (lv2 := [(5, .int v5_1), (0, .ref (G.2.2.2.2 j1)), (3, .int v3), (4, .int v4)]) C 3 rfl (by rw [ev5_1]; rfl) (by rw [hnl]; decide) rfl dJ1_indexOfChar_4cfef_25 ?_
        refine go_goto C 7 rfl dJ1_indexOfChar_4cfef_28 ?_
        refine go_sub [1, 2, 3, 0] rfl ?_
        exact ih _ _ _ _ hw
      · replace hw := hw.2 hc
        refine go_iload C 3 rfl dJ1_indexOfChar_4cfef_22 ?_
        exact go_iret C hr ⟨_, rfl, hw⟩ dJ1_indexOfChar_4cfef_24
set_option maxRecDepth 20000 in
set_option maxHeartbeats 4000000 in
theorem spJ1_indexOfChar_4cfef {l : Launch} {G : GT} {d : Nat}  (hd : 1 ≤ d) {j1 : Nat} (hj1 : j1 < 4) {a2 : Int32} {a3 : Int32} {a4 : Int32} {σ : St} {post : Int32 → St → Prop} (hw : wpJ1_indexOfChar_4cfef j1 a2 a3 a4 σ post) : Sp l G d yJ1_indexOfChar_4cfef cJ1_indexOfChar_4cfef 6 (some .int) [.ref (G.2.2.2.2 j1), .int a2, .int a3, .int a4] σ (fun v τ => ∃ r : Int32, v = some (.int r) ∧ post r τ) := by
  refine Sp.of (by decide) (by decide) fun X C hr hR hnl => ?_
  show Go X G 0 [(0, .ref (G.2.2.2.2 j1)), (1, .int a2), (2, .int a3), (3, .int a4)] [] σ
  have hw : ∀ v4_1 : Int32, v4_1 = a2.toInt8.toInt32 →
  ∃ n, wbJ1_indexOfChar_4cfef_7 j1 post n a4 v4_1 a3 σ := hw
  refine go_iload_n C 1 rfl rfl dJ1_indexOfChar_4cfef_0 ?_
  refine go_i2b C dJ1_indexOfChar_4cfef_1 ?_
  refine go_topi (fun v4_1 ev4_1 => ?_)
  replace hw := hw v4_1 ev4_1
  refine go_istore (lv2 := [(4, .int v4_1), (0, .ref (G.2.2.2.2 j1)), (1, .int a2), (2, .int a3), (3, .int a4)]) C (by rw [hnl]; decide) rfl dJ1_indexOfChar_4cfef_2 ?_
  refine go_iload_n C 3 rfl rfl dJ1_indexOfChar_4cfef_4 ?_
  refine go_istore (lv2 := [(5, .int a3), (4, .int v4_1), (0, .ref (G.2.2.2.2 j1)), (1, .int a2), (2, .int a3), (3, .int a4)]) C (by rw [hnl]; decide) rfl dJ1_indexOfChar_4cfef_5 ?_
  refine go_sub [2, 5, 1, 0] rfl ?_
  obtain ⟨n_0, hw⟩ := hw
  exact (gbJ1_indexOfChar_4cfef_7 C hr hR hnl hd hj1) n_0 _ _ _ _ hw
-- java/lang/StringLatin1.indexOf([BIII)I
def wpJ1_indexOf_4cfef (j1 : Nat) (a2 : Int32) (a3 : Int32) (a4 : Int32) (σ : St) (post : Int32 → St → Prop) : Prop :=
  wpJ1_canEncode_9a6ad a2 σ (fun r_1 σ_2 =>
  ((¬ r_1 = 0 →
    wpJ9_max_7cf53 a3 0 σ_2 (fun r_3 σ_4 =>
    wpJ9_min_7cf53 a4 (Int32.ofNat (sLen.getD j1 0)) σ_4 (fun r_5 σ_6 =>
    ((r_3 < r_5 →
      wpJ1_indexOfChar_4cfef j1 a2 r_3 r_5 σ_6 (fun r_7 σ_8 =>
      post r_7 σ_8)) ∧
    (¬ r_3 < r_5 →
      post (-1) σ_6))))) ∧
  (r_1 = 0 →
    post (-1) σ_2)))
set_option maxRecDepth 20000 in
set_option maxHeartbeats 4000000 in
theorem spJ1_indexOf_4cfef {l : Launch} {G : GT} {d : Nat}  (hd : 2 ≤ d) {j1 : Nat} (hj1 : j1 < 4) {a2 : Int32} {a3 : Int32} {a4 : Int32} {σ : St} {post : Int32 → St → Prop} (hw : wpJ1_indexOf_4cfef j1 a2 a3 a4 σ post) : Sp l G d yJ1_indexOf_4cfef cJ1_indexOf_4cfef 4 (some .int) [.ref (G.2.2.2.2 j1), .int a2, .int a3, .int a4] σ (fun v τ => ∃ r : Int32, v = some (.int r) ∧ post r τ) := by
  refine Sp.of (by decide) (by decide) fun X C hr hR hnl => ?_
  show Go X G 0 [(0, .ref (G.2.2.2.2 j1)), (1, .int a2), (2, .int a3), (3, .int a4)] [] σ
  have hw : wpJ1_canEncode_9a6ad a2 σ (fun r_1 σ_2 =>
  ((¬ r_1 = 0 →
    wpJ9_max_7cf53 a3 0 σ_2 (fun r_3 σ_4 =>
    wpJ9_min_7cf53 a4 (Int32.ofNat (sLen.getD j1 0)) σ_4 (fun r_5 σ_6 =>
    ((r_3 < r_5 →
      wpJ1_indexOfChar_4cfef j1 a2 r_3 r_5 σ_6 (fun r_7 σ_8 =>
      post r_7 σ_8)) ∧
    (¬ r_3 < r_5 →
      post (-1) σ_6))))) ∧
  (r_1 = 0 →
    post (-1) σ_2))) := hw
  refine go_iload_n C 1 rfl rfl dJ1_indexOf_4cfef_0 ?_
  refine go_callS (as := [.int a2]) C hR cwJ1_88 (Nat.le_trans (by decide) hd) (by decide) rfl rfl (by decide) dJ1_indexOf_4cfef_1 (spJ1_canEncode_9a6ad (Nat.le_refl _) hw) (fun v_ τ_ hw => ?_)
  obtain ⟨r_1, rfl, hw⟩ := hw
  obtain ⟨σ_2, rfl⟩ : ∃ z, z = τ_ := ⟨_, rfl⟩
  refine go_if_ne C 9 rfl dJ1_indexOf_4cfef_4 (fun hc => ?_) (fun hc => ?_)
  · replace hw := hw.1 hc
    refine go_iload_n C 2 rfl rfl dJ1_indexOf_4cfef_9 ?_
    refine go_iconst (v := 0) C rfl dJ1_indexOf_4cfef_10 ?_
    refine go_callS (as := [.int a3, .int 0]) C hR cwJ1_92 (Nat.le_trans (by decide) hd) (by decide) rfl rfl (by decide) dJ1_indexOf_4cfef_11 (spJ9_max_7cf53 (Nat.le_refl _) hw) (fun v_ τ_ hw => ?_)
    obtain ⟨r_3, rfl, hw⟩ := hw
    obtain ⟨σ_4, rfl⟩ : ∃ z, z = τ_ := ⟨_, rfl⟩
    refine go_istore_n (lv2 := [(2, .int r_3), (0, .ref (G.2.2.2.2 j1)), (1, .int a2), (3, .int a4)]) C rfl (by rw [hnl]; decide) rfl dJ1_indexOf_4cfef_14 ?_
    refine go_iload_n C 3 rfl rfl dJ1_indexOf_4cfef_15 ?_
    refine go_aload_n C 1 rfl rfl dJ1_indexOf_4cfef_16 ?_
    refine go_sblen C hj1 dJ1_indexOf_4cfef_17 ?_
    refine go_callS (as := [.int a4, .int (Int32.ofNat (sLen.getD j1 0))]) C hR cwJ1_38 (Nat.le_trans (by decide) hd) (by decide) rfl rfl (by decide) dJ1_indexOf_4cfef_18 (spJ9_min_7cf53 (Nat.le_refl _) hw) (fun v_ τ_ hw => ?_)
    obtain ⟨r_5, rfl, hw⟩ := hw
    obtain ⟨σ_6, rfl⟩ : ∃ z, z = τ_ := ⟨_, rfl⟩
    refine go_istore_n (lv2 := [(3, .int r_5), (2, .int r_3), (0, .ref (G.2.2.2.2 j1)), (1, .int a2)]) C rfl (by rw [hnl]; decide) rfl dJ1_indexOf_4cfef_21 ?_
    refine go_iload_n C 1 rfl rfl dJ1_indexOf_4cfef_22 ?_
    refine go_iload_n C 0 rfl rfl dJ1_indexOf_4cfef_23 ?_
    refine go_icmp_lt C 29 rfl dJ1_indexOf_4cfef_24 (fun hc => ?_) (fun hc => ?_)
    · replace hw := hw.1 hc
      refine go_aload_n C 2 rfl rfl dJ1_indexOf_4cfef_29 ?_
      refine go_iload_n C 3 rfl rfl dJ1_indexOf_4cfef_30 ?_
      refine go_iload_n C 1 rfl rfl dJ1_indexOf_4cfef_31 ?_
      refine go_iload_n C 0 rfl rfl dJ1_indexOf_4cfef_32 ?_
      refine go_callS (as := [.ref (G.2.2.2.2 j1), .int a2, .int r_3, .int r_5]) C hR cwJ1_95 (Nat.le_trans (by decide) hd) (by decide) rfl rfl (by decide) dJ1_indexOf_4cfef_33 (spJ1_indexOfChar_4cfef (Nat.le_refl _) hj1 hw) (fun v_ τ_ hw => ?_)
      obtain ⟨r_7, rfl, hw⟩ := hw
      obtain ⟨σ_8, rfl⟩ : ∃ z, z = τ_ := ⟨_, rfl⟩
      exact go_iret C hr ⟨_, rfl, hw⟩ dJ1_indexOf_4cfef_36
    · replace hw := hw.2 hc
      refine go_iconst (v := (-1)) C rfl dJ1_indexOf_4cfef_27 ?_
      exact go_iret C hr ⟨_, rfl, hw⟩ dJ1_indexOf_4cfef_28
  · replace hw := hw.2 hc
    refine go_iconst (v := (-1)) C rfl dJ1_indexOf_4cfef_7 ?_
    exact go_iret C hr ⟨_, rfl, hw⟩ dJ1_indexOf_4cfef_8
-- java/lang/String.indexOf(II)I
def wpJ0_indexOf_7cf53 (j0 : Nat) (a1 : Int32) (a2 : Int32) (σ : St) (post : Int32 → St → Prop) : Prop :=
  wpJ0_isLatin1_aae02 j0 σ (fun r_1 σ_2 =>
  ((r_1 = 0 →
    wpJ0_length_8abf5 j0 σ_2 (fun r_3 σ_4 =>
    False)) ∧
  (¬ r_1 = 0 →
    wpJ0_length_8abf5 j0 σ_2 (fun r_5 σ_6 =>
    wpJ1_indexOf_4cfef j0 a1 a2 r_5 σ_6 (fun r_7 σ_8 =>
    post r_7 σ_8)))))
set_option maxRecDepth 20000 in
set_option maxHeartbeats 4000000 in
theorem spJ0_indexOf_7cf53 {l : Launch} {G : GT} {d : Nat}  (hd : 3 ≤ d) {j0 : Nat} (hj0 : j0 < 4) {a1 : Int32} {a2 : Int32} {σ : St} {post : Int32 → St → Prop} (hw : wpJ0_indexOf_7cf53 j0 a1 a2 σ post) : Sp l G d yJ0_indexOf_7cf53 cJ0_indexOf_7cf53 3 (some .int) [.ref (G.2.2.2.1 j0), .int a1, .int a2] σ (fun v τ => ∃ r : Int32, v = some (.int r) ∧ post r τ) := by
  refine Sp.of (by decide) (by decide) fun X C hr hR hnl => ?_
  show Go X G 0 [(0, .ref (G.2.2.2.1 j0)), (1, .int a1), (2, .int a2)] [] σ
  have hw : wpJ0_isLatin1_aae02 j0 σ (fun r_1 σ_2 =>
  ((r_1 = 0 →
    wpJ0_length_8abf5 j0 σ_2 (fun r_3 σ_4 =>
    False)) ∧
  (¬ r_1 = 0 →
    wpJ0_length_8abf5 j0 σ_2 (fun r_5 σ_6 =>
    wpJ1_indexOf_4cfef j0 a1 a2 r_5 σ_6 (fun r_7 σ_8 =>
    post r_7 σ_8))))) := hw
  refine go_aload_n C 0 rfl rfl dJ0_indexOf_7cf53_0 ?_
  refine go_callT (as := []) C hR hj0 cwJ0_492 (Nat.le_trans (by decide) hd) (by decide) rfl rfl (by decide) dJ0_indexOf_7cf53_1 (spJ0_isLatin1_aae02 (Nat.le_refl _) hj0 hw) (fun v_ τ_ hw => ?_)
  obtain ⟨r_1, rfl, hw⟩ := hw
  obtain ⟨σ_2, rfl⟩ : ∃ z, z = τ_ := ⟨_, rfl⟩
  refine go_if_eq C 23 rfl dJ0_indexOf_7cf53_4 (fun hc => ?_) (fun hc => ?_)
  · replace hw := hw.1 hc
    refine go_aload_n C 0 rfl rfl dJ0_indexOf_7cf53_23 ?_
    refine go_sval C hj0 ls_value dJ0_indexOf_7cf53_24 ?_
    refine go_iload_n C 1 rfl rfl dJ0_indexOf_7cf53_27 ?_
    refine go_iload_n C 2 rfl rfl dJ0_indexOf_7cf53_28 ?_
    refine go_aload_n C 0 rfl rfl dJ0_indexOf_7cf53_29 ?_
    refine go_callT (as := []) C hR hj0 cwJ0_505 (Nat.le_trans (by decide) hd) (by decide) rfl rfl (by decide) dJ0_indexOf_7cf53_30 (spJ0_length_8abf5 (Nat.le_refl _) hj0 hw) (fun v_ τ_ hw => ?_)
    obtain ⟨r_3, rfl, hw⟩ := hw
    obtain ⟨σ_4, rfl⟩ : ∃ z, z = τ_ := ⟨_, rfl⟩
    exact hw.elim
  · replace hw := hw.2 hc
    refine go_aload_n C 0 rfl rfl dJ0_indexOf_7cf53_7 ?_
    refine go_sval C hj0 ls_value dJ0_indexOf_7cf53_8 ?_
    refine go_iload_n C 1 rfl rfl dJ0_indexOf_7cf53_11 ?_
    refine go_iload_n C 2 rfl rfl dJ0_indexOf_7cf53_12 ?_
    refine go_aload_n C 0 rfl rfl dJ0_indexOf_7cf53_13 ?_
    refine go_callT (as := []) C hR hj0 cwJ0_505 (Nat.le_trans (by decide) hd) (by decide) rfl rfl (by decide) dJ0_indexOf_7cf53_14 (spJ0_length_8abf5 (Nat.le_refl _) hj0 hw) (fun v_ τ_ hw => ?_)
    obtain ⟨r_5, rfl, hw⟩ := hw
    obtain ⟨σ_6, rfl⟩ : ∃ z, z = τ_ := ⟨_, rfl⟩
    refine go_callS (as := [.ref (G.2.2.2.2 j0), .int a1, .int a2, .int r_5]) C hR cwJ0_637 (Nat.le_trans (by decide) hd) (by decide) rfl rfl (by decide) dJ0_indexOf_7cf53_17 (spJ1_indexOf_4cfef (Nat.le_refl _) hj0 hw) (fun v_ τ_ hw => ?_)
    obtain ⟨r_7, rfl, hw⟩ := hw
    obtain ⟨σ_8, rfl⟩ : ∃ z, z = τ_ := ⟨_, rfl⟩
    refine go_goto C 36 rfl dJ0_indexOf_7cf53_20 ?_
    exact go_iret C hr ⟨_, rfl, hw⟩ dJ0_indexOf_7cf53_36
-- java/lang/String.indexOf(I)I
def wpJ0_indexOf_0f7a4 (j0 : Nat) (a1 : Int32) (σ : St) (post : Int32 → St → Prop) : Prop :=
  wpJ0_indexOf_7cf53 j0 a1 0 σ (fun r_1 σ_2 =>
  post r_1 σ_2)
set_option maxRecDepth 20000 in
set_option maxHeartbeats 4000000 in
theorem spJ0_indexOf_0f7a4 {l : Launch} {G : GT} {d : Nat}  (hd : 4 ≤ d) {j0 : Nat} (hj0 : j0 < 4) {a1 : Int32} {σ : St} {post : Int32 → St → Prop} (hw : wpJ0_indexOf_0f7a4 j0 a1 σ post) : Sp l G d yJ0_indexOf_0f7a4 cJ0_indexOf_0f7a4 2 (some .int) [.ref (G.2.2.2.1 j0), .int a1] σ (fun v τ => ∃ r : Int32, v = some (.int r) ∧ post r τ) := by
  refine Sp.of (by decide) (by decide) fun X C hr hR hnl => ?_
  show Go X G 0 [(0, .ref (G.2.2.2.1 j0)), (1, .int a1)] [] σ
  have hw : wpJ0_indexOf_7cf53 j0 a1 0 σ (fun r_1 σ_2 =>
  post r_1 σ_2) := hw
  refine go_aload_n C 0 rfl rfl dJ0_indexOf_0f7a4_0 ?_
  refine go_iload_n C 1 rfl rfl dJ0_indexOf_0f7a4_1 ?_
  refine go_iconst (v := 0) C rfl dJ0_indexOf_0f7a4_2 ?_
  refine go_callT (as := [.int a1, .int 0]) C hR hj0 cwJ0_633 (Nat.le_trans (by decide) hd) (by decide) rfl rfl (by decide) dJ0_indexOf_0f7a4_3 (spJ0_indexOf_7cf53 (Nat.le_refl _) hj0 hw) (fun v_ τ_ hw => ?_)
  obtain ⟨r_1, rfl, hw⟩ := hw
  obtain ⟨σ_2, rfl⟩ : ∃ z, z = τ_ := ⟨_, rfl⟩
  exact go_iret C hr ⟨_, rfl, hw⟩ dJ0_indexOf_0f7a4_6
-- CradleNames$Names.endingOf(JI)J
def wbX5_endingOf_4   (post : Int64 → St → Prop) : Nat → Int64 → Int32 → St → Prop
  | 0, _, _, _ => False
  | n + 1, v0, v3, σ =>
    ((v3 < 0 →
      post v0 σ) ∧
    (¬ v3 < 0 →
      wpX5_letterAt v0 v3 σ (fun r_1 σ_2 =>
      wpJ0_indexOf_0f7a4 0 r_1 σ_2 (fun r_3 σ_4 =>
      ((r_3 < 0 →
        ∀ v3_5 : Int32, v3_5 = v3 + (-1) →
        wbX5_endingOf_4 post n v0 v3_5 σ_4) ∧
      (¬ r_3 < 0 →
        post ((v0.toUInt64 >>> ((5 * v3).toInt64.toUInt64 &&& Int64.toUInt64 63)).toInt64) σ_4))))))
def wpX5_endingOf  (a1 : Int64) (a2 : Int32) (σ : St) (post : Int64 → St → Prop) : Prop :=
  ∀ v3_1 : Int32, v3_1 = (a2 - 1) →
  ∃ n, wbX5_endingOf_4 post n a1 v3_1 σ
set_option maxRecDepth 20000 in
set_option maxHeartbeats 4000000 in
theorem gbX5_endingOf_4 {X : XT} {G : GT} {l : Launch} {d : Nat}  {post : Int64 → St → Prop} (C : Cx X G cX5_endingOf RX5) (hr : Rt X G (some .long) (fun v τ => ∃ r : Int64, v = some (.long r) ∧ post r τ)) (hR : Rm X l d) (hnl : X.2.2.2.2.2.2.2.2.2.2.1 = 4)  (hd : 5 ≤ d)   
    : ∀ (n : Nat) (v0 : Int64) (v3 : Int32) (σ : St), wbX5_endingOf_4   post n v0 v3 σ → Go X G 4 [(0, .long v0), (3, .int v3)] [] σ := by
  intro n
  induction n with
  | zero => intro v0 v3 σ hw; exact hw.elim
  | succ n ih =>
    intro v0 v3 σ hw
    have hw : ((v3 < 0 →
      post v0 σ) ∧
    (¬ v3 < 0 →
      wpX5_letterAt v0 v3 σ (fun r_1 σ_2 =>
      wpJ0_indexOf_0f7a4 0 r_1 σ_2 (fun r_3 σ_4 =>
      ((r_3 < 0 →
        ∀ v3_5 : Int32, v3_5 = v3 + (-1) →
        wbX5_endingOf_4 post n v0 v3_5 σ_4) ∧
      (¬ r_3 < 0 →
        post ((v0.toUInt64 >>> ((5 * v3).toInt64.toUInt64 &&& Int64.toUInt64 63)).toInt64) σ_4)))))) := hw
    refine go_iload_n C 1 rfl rfl dX5_endingOf_4 ?_
    refine go_if_lt C 33 rfl dX5_endingOf_5 (fun hc => ?_) (fun hc => ?_)
    · replace hw := hw.1 hc
      refine go_lload_n C 0 rfl rfl dX5_endingOf_33 ?_
      exact go_lret C hr ⟨_, rfl, hw⟩ dX5_endingOf_34
    · replace hw := hw.2 hc
      refine go_lds0 C dX5_endingOf_8 ?_
      refine go_lload_n C 0 rfl rfl dX5_endingOf_10 ?_
      refine go_iload_n C 1 rfl rfl dX5_endingOf_11 ?_
      refine go_callS (as := [.long v0, .int v3]) C hR cwX5_52 (Nat.le_trans (by decide) hd) (by decide) rfl rfl (by decide) dX5_endingOf_12 (spX5_letterAt (Nat.le_refl _) hw) (fun v_ τ_ hw => ?_)
      obtain ⟨r_1, rfl, hw⟩ := hw
      obtain ⟨σ_2, rfl⟩ : ∃ z, z = τ_ := ⟨_, rfl⟩
      refine go_callT (as := [.int r_1]) C hR (show 0 < 4 by decide) cwX5_56 (Nat.le_trans (by decide) hd) (by decide) rfl rfl (by decide) dX5_endingOf_15 (spJ0_indexOf_0f7a4 (Nat.le_refl _) (show 0 < 4 by decide) hw) (fun v_ τ_ hw => ?_)
      obtain ⟨r_3, rfl, hw⟩ := hw
      obtain ⟨σ_4, rfl⟩ : ∃ z, z = τ_ := ⟨_, rfl⟩
      refine go_if_lt C 27 rfl dX5_endingOf_18 (fun hc => ?_) (fun hc => ?_)
      · replace hw := hw.1 hc
        obtain ⟨v3_5, ev3_5⟩ : ∃ z : Int32, z = v3 + (-1) := ⟨_, rfl⟩
        replace hw := hw v3_5 ev3_5
        refine go_iinc (v := v3_5) (lv2 := [(3, .int v3_5), (0, .long v0)]) C 1 rfl (by rw [ev3_5]; rfl) (by rw [hnl]; decide) rfl dX5_endingOf_27 ?_
        refine go_goto C 4 rfl dX5_endingOf_30 ?_
        refine go_sub [1, 0] rfl ?_
        exact ih _ _ _ hw
      · replace hw := hw.2 hc
        refine go_lload_n C 0 rfl rfl dX5_endingOf_21 ?_
        refine go_iconst (v := 5) C rfl dX5_endingOf_22 ?_
        refine go_iload_n C 1 rfl rfl dX5_endingOf_23 ?_
        refine go_imul C dX5_endingOf_24 ?_
        refine go_lushr C dX5_endingOf_25 ?_
        exact go_lret C hr ⟨_, rfl, hw⟩ dX5_endingOf_26
set_option maxRecDepth 20000 in
set_option maxHeartbeats 4000000 in
theorem spX5_endingOf {l : Launch} {G : GT} {d : Nat}  (hd : 5 ≤ d)   {a1 : Int64} {a2 : Int32} {σ : St} {post : Int64 → St → Prop} (hw : wpX5_endingOf  a1 a2 σ post) : Sp l G d yX5_endingOf cX5_endingOf 4 (some .long) [.long a1, .int a2] σ (fun v τ => ∃ r : Int64, v = some (.long r) ∧ post r τ) := by
  refine Sp.of (by decide) (by decide) fun X C hr hR hnl => ?_
  show Go X G 0 [(0, .long a1), (2, .int a2)] [] σ
  have hw : ∀ v3_1 : Int32, v3_1 = (a2 - 1) →
  ∃ n, wbX5_endingOf_4 post n a1 v3_1 σ := hw
  refine go_iload_n C 1 rfl rfl dX5_endingOf_0 ?_
  refine go_iconst (v := 1) C rfl dX5_endingOf_1 ?_
  refine go_isub C dX5_endingOf_2 ?_
  refine go_topi (fun v3_1 ev3_1 => ?_)
  replace hw := hw v3_1 ev3_1
  refine go_istore_n (lv2 := [(3, .int v3_1), (0, .long a1), (2, .int a2)]) C rfl (by rw [hnl]; decide) rfl dX5_endingOf_3 ?_
  refine go_sub [1, 0] rfl ?_
  obtain ⟨n_0, hw⟩ := hw
  exact (gbX5_endingOf_4 C hr hR hnl hd) n_0 _ _ _ hw
-- java/lang/StringLatin1.charAt([BI)C
def wpJ1_charAt_3b067 (j1 : Nat) (a2 : Int32) (σ : St) (post : Int32 → St → Prop) : Prop :=
  wpJ0_checkIndex_df160 a2 (Int32.ofNat (sLen.getD j1 0)) σ (fun σ_2 =>
  vp_in a2 (sLen.getD j1 0) ∧ (
  post (((((sByt.getD j1 []).getD a2.toNatClampNeg 0) &&& 255).toUInt32 % 65536).toInt32) σ_2))
set_option maxRecDepth 20000 in
set_option maxHeartbeats 4000000 in
theorem spJ1_charAt_3b067 {l : Launch} {G : GT} {d : Nat}  (hd : 3 ≤ d) {j1 : Nat} (hj1 : j1 < 4) {a2 : Int32} {σ : St} {post : Int32 → St → Prop} (hw : wpJ1_charAt_3b067 j1 a2 σ post) : Sp l G d yJ1_charAt_3b067 cJ1_charAt_3b067 2 (some .char) [.ref (G.2.2.2.2 j1), .int a2] σ (fun v τ => ∃ r : Int32, v = some (.int r) ∧ post r τ) := by
  refine Sp.of (by decide) (by decide) fun X C hr hR hnl => ?_
  show Go X G 0 [(0, .ref (G.2.2.2.2 j1)), (1, .int a2)] [] σ
  have hw : wpJ0_checkIndex_df160 a2 (Int32.ofNat (sLen.getD j1 0)) σ (fun σ_2 =>
  vp_in a2 (sLen.getD j1 0) ∧ (
  post (((((sByt.getD j1 []).getD a2.toNatClampNeg 0) &&& 255).toUInt32 % 65536).toInt32) σ_2)) := hw
  refine go_iload_n C 1 rfl rfl dJ1_charAt_3b067_0 ?_
  refine go_aload_n C 0 rfl rfl dJ1_charAt_3b067_1 ?_
  refine go_sblen C hj1 dJ1_charAt_3b067_2 ?_
  refine go_callS (as := [.int a2, .int (Int32.ofNat (sLen.getD j1 0))]) C hR cwJ1_9 (Nat.le_trans (by decide) hd) (by decide) rfl rfl (by decide) dJ1_charAt_3b067_3 (spJ0_checkIndex_df160 (Nat.le_refl _) hw) (fun v_ τ_ hw => ?_)
  obtain ⟨rfl, hw⟩ := hw
  obtain ⟨σ_2, rfl⟩ : ∃ z, z = τ_ := ⟨_, rfl⟩
  refine go_aload_n C 0 rfl rfl dJ1_charAt_3b067_6 ?_
  refine go_iload_n C 1 rfl rfl dJ1_charAt_3b067_7 ?_
  refine go_sbald C hj1 hw.1 dJ1_charAt_3b067_8 ?_
  replace hw := hw.2
  refine go_sipush (v := 255) C rfl dJ1_charAt_3b067_9 ?_
  refine go_iand C dJ1_charAt_3b067_12 ?_
  refine go_i2c C dJ1_charAt_3b067_13 ?_
  exact go_zret C hr (pk_nc _) ⟨_, rfl, hw⟩ dJ1_charAt_3b067_14
-- java/lang/String.charAt(I)C
def wpJ0_charAt_5068e (j0 : Nat) (a1 : Int32) (σ : St) (post : Int32 → St → Prop) : Prop :=
  wpJ0_isLatin1_aae02 j0 σ (fun r_1 σ_2 =>
  ((r_1 = 0 →
    False) ∧
  (¬ r_1 = 0 →
    wpJ1_charAt_3b067 j0 a1 σ_2 (fun r_3 σ_4 =>
    narrow .char (.int r_3) = .int r_3 ∧ post r_3 σ_4))))
set_option maxRecDepth 20000 in
set_option maxHeartbeats 4000000 in
theorem spJ0_charAt_5068e {l : Launch} {G : GT} {d : Nat}  (hd : 4 ≤ d) {j0 : Nat} (hj0 : j0 < 4) {a1 : Int32} {σ : St} {post : Int32 → St → Prop} (hw : wpJ0_charAt_5068e j0 a1 σ post) : Sp l G d yJ0_charAt_5068e cJ0_charAt_5068e 2 (some .char) [.ref (G.2.2.2.1 j0), .int a1] σ (fun v τ => ∃ r : Int32, v = some (.int r) ∧ post r τ) := by
  refine Sp.of (by decide) (by decide) fun X C hr hR hnl => ?_
  show Go X G 0 [(0, .ref (G.2.2.2.1 j0)), (1, .int a1)] [] σ
  have hw : wpJ0_isLatin1_aae02 j0 σ (fun r_1 σ_2 =>
  ((r_1 = 0 →
    False) ∧
  (¬ r_1 = 0 →
    wpJ1_charAt_3b067 j0 a1 σ_2 (fun r_3 σ_4 =>
    narrow .char (.int r_3) = .int r_3 ∧ post r_3 σ_4)))) := hw
  refine go_aload_n C 0 rfl rfl dJ0_charAt_5068e_0 ?_
  refine go_callT (as := []) C hR hj0 cwJ0_492 (Nat.le_trans (by decide) hd) (by decide) rfl rfl (by decide) dJ0_charAt_5068e_1 (spJ0_isLatin1_aae02 (Nat.le_refl _) hj0 hw) (fun v_ τ_ hw => ?_)
  obtain ⟨r_1, rfl, hw⟩ := hw
  obtain ⟨σ_2, rfl⟩ : ∃ z, z = τ_ := ⟨_, rfl⟩
  refine go_if_eq C 16 rfl dJ0_charAt_5068e_4 (fun hc => ?_) (fun hc => ?_)
  · replace hw := hw.1 hc
    refine go_aload_n C 0 rfl rfl dJ0_charAt_5068e_16 ?_
    refine go_sval C hj0 ls_value dJ0_charAt_5068e_17 ?_
    refine go_iload_n C 1 rfl rfl dJ0_charAt_5068e_20 ?_
    exact hw.elim
  · replace hw := hw.2 hc
    refine go_aload_n C 0 rfl rfl dJ0_charAt_5068e_7 ?_
    refine go_sval C hj0 ls_value dJ0_charAt_5068e_8 ?_
    refine go_iload_n C 1 rfl rfl dJ0_charAt_5068e_11 ?_
    refine go_callS (as := [.ref (G.2.2.2.2 j0), .int a1]) C hR cwJ0_495 (Nat.le_trans (by decide) hd) (by decide) rfl rfl (by decide) dJ0_charAt_5068e_12 (spJ1_charAt_3b067 (Nat.le_refl _) hj0 hw) (fun v_ τ_ hw => ?_)
    obtain ⟨r_3, rfl, hw⟩ := hw
    obtain ⟨σ_4, rfl⟩ : ∃ z, z = τ_ := ⟨_, rfl⟩
    exact go_zret C hr hw.1 ⟨_, rfl, hw.2⟩ dJ0_charAt_5068e_15
-- CradleNames$Names.hear(I)V
def wbX5_hear_7   (post : St → Prop) : Nat → Int32 → Int32 → Int32 → Int32 → St → Prop
  | 0, _, _, _, _, _ => False
  | n + 1, v1, v2, v3, v4, σ =>
    vp_in v1 16 ∧ (
    (((gI σ 3 v1.toNatClampNeg) ≤ v4 →
      vp_in v1 16 ∧ (
      ∀ σ_1 : St, σ_1 = sI σ 8 v1.toNatClampNeg v2 →
      post σ_1)) ∧
    (¬ (gI σ 3 v1.toNatClampNeg) ≤ v4 →
      vp_in v1 16 ∧ (
      wpX5_letterAt (gL σ 2 v1.toNatClampNeg) v4 σ (fun r_2 σ_3 =>
      ∀ v5_4 : Int32, v5_4 = (r_2 - 97) →
      ((v5_4 < 0 →
        ∀ v4_5 : Int32, v4_5 = v4 + 1 →
        wbX5_hear_7 post n v1 v2 v3 v4_5 σ_3) ∧
      (¬ v5_4 < 0 →
        wpJ0_length_8abf5 1 σ_3 (fun r_6 σ_7 =>
        ((r_6 ≤ v5_4 →
          ∀ v4_8 : Int32, v4_8 = v4 + 1 →
          wbX5_hear_7 post n v1 v2 v3 v4_8 σ_7) ∧
        (¬ r_6 ≤ v5_4 →
          wpJ0_charAt_5068e 1 v5_4 σ_7 (fun r_9 σ_10 =>
          ((r_9 = v3 →
            ∀ v4_11 : Int32, v4_11 = v4 + 1 →
            wbX5_hear_7 post n v1 v2 v3 v4_11 σ_10) ∧
          (¬ r_9 = v3 →
            vp_in ((v1 * 10) + v2) 160 ∧ (
            ∀ σ_12 : St, σ_12 = sI σ_10 7 ((v1 * 10) + v2).toNatClampNeg r_9 →
            ∀ v2_13 : Int32, v2_13 = v2 + 1 →
            ∀ v4_14 : Int32, v4_14 = v4 + 1 →
            wbX5_hear_7 post n v1 v2_13 r_9 v4_14 σ_12))))))))))))))
def wpX5_hear  (a1 : Int32) (σ : St) (post : St → Prop) : Prop :=
  ∃ n, wbX5_hear_7 post n a1 0 0 0 σ
set_option maxRecDepth 20000 in
set_option maxHeartbeats 4000000 in
theorem gbX5_hear_7 {X : XT} {G : GT} {l : Launch} {d : Nat}  {post : St → Prop} (C : Cx X G cX5_hear RX5) (hr : Rt X G none (fun v τ => v = none ∧ post τ)) (hR : Rm X l d) (hnl : X.2.2.2.2.2.2.2.2.2.2.1 = 7)  (hd : 5 ≤ d)   
    : ∀ (n : Nat) (v1 : Int32) (v2 : Int32) (v3 : Int32) (v4 : Int32) (σ : St), wbX5_hear_7   post n v1 v2 v3 v4 σ → Go X G 7 [(0, .ref (G.2.2.1 1)), (1, .int v1), (2, .int v2), (3, .int v3), (4, .int v4)] [] σ := by
  intro n
  induction n with
  | zero => intro v1 v2 v3 v4 σ hw; exact hw.elim
  | succ n ih =>
    intro v1 v2 v3 v4 σ hw
    have hw : vp_in v1 16 ∧ (
    (((gI σ 3 v1.toNatClampNeg) ≤ v4 →
      vp_in v1 16 ∧ (
      ∀ σ_1 : St, σ_1 = sI σ 8 v1.toNatClampNeg v2 →
      post σ_1)) ∧
    (¬ (gI σ 3 v1.toNatClampNeg) ≤ v4 →
      vp_in v1 16 ∧ (
      wpX5_letterAt (gL σ 2 v1.toNatClampNeg) v4 σ (fun r_2 σ_3 =>
      ∀ v5_4 : Int32, v5_4 = (r_2 - 97) →
      ((v5_4 < 0 →
        ∀ v4_5 : Int32, v4_5 = v4 + 1 →
        wbX5_hear_7 post n v1 v2 v3 v4_5 σ_3) ∧
      (¬ v5_4 < 0 →
        wpJ0_length_8abf5 1 σ_3 (fun r_6 σ_7 =>
        ((r_6 ≤ v5_4 →
          ∀ v4_8 : Int32, v4_8 = v4 + 1 →
          wbX5_hear_7 post n v1 v2 v3 v4_8 σ_7) ∧
        (¬ r_6 ≤ v5_4 →
          wpJ0_charAt_5068e 1 v5_4 σ_7 (fun r_9 σ_10 =>
          ((r_9 = v3 →
            ∀ v4_11 : Int32, v4_11 = v4 + 1 →
            wbX5_hear_7 post n v1 v2 v3 v4_11 σ_10) ∧
          (¬ r_9 = v3 →
            vp_in ((v1 * 10) + v2) 160 ∧ (
            ∀ σ_12 : St, σ_12 = sI σ_10 7 ((v1 * 10) + v2).toNatClampNeg r_9 →
            ∀ v2_13 : Int32, v2_13 = v2 + 1 →
            ∀ v4_14 : Int32, v4_14 = v4 + 1 →
            wbX5_hear_7 post n v1 v2_13 r_9 v4_14 σ_12)))))))))))))) := hw
    refine go_iload C 4 rfl dX5_hear_7 ?_
    refine go_aload_n C 0 rfl rfl dX5_hear_9 ?_
    refine go_get (v := .ref (G.2.2.1 3)) C (shX5 G) ltX5 lkX5_15 rfl dX5_hear_10 ?_
    refine go_iload_n C 1 rfl rfl dX5_hear_13 ?_
    refine go_iald C (saX5_lengths G) laX5_lengths hw.1 dX5_hear_14 ?_
    replace hw := hw.2
    refine go_icmp_ge C 89 rfl dX5_hear_15 (fun hc => ?_) (fun hc => ?_)
    · replace hw := hw.1 hc
      refine go_aload_n C 0 rfl rfl dX5_hear_89 ?_
      refine go_get (v := .ref (G.2.2.1 8)) C (shX5 G) ltX5 lkX5_31 rfl dX5_hear_90 ?_
      refine go_iload_n C 1 rfl rfl dX5_hear_93 ?_
      refine go_iload_n C 2 rfl rfl dX5_hear_94 ?_
      refine go_iast C (saX5_soundCounts G) laX5_soundCounts hw.1 dX5_hear_95 (go_nm fun σ_1 eσ_1 => ?_)
      replace hw := hw.2 σ_1 eσ_1
      exact go_vret C hr hw dX5_hear_96
    · replace hw := hw.2 hc
      refine go_aload_n C 0 rfl rfl dX5_hear_18 ?_
      refine go_get (v := .ref (G.2.2.1 2)) C (shX5 G) ltX5 lkX5_9 rfl dX5_hear_19 ?_
      refine go_iload_n C 1 rfl rfl dX5_hear_22 ?_
      refine go_lald C (saX5_letters G) laX5_letters hw.1 dX5_hear_23 ?_
      replace hw := hw.2
      refine go_iload C 4 rfl dX5_hear_24 ?_
      refine go_callS (as := [.long (gL σ 2 v1.toNatClampNeg), .int v4]) C hR cwX5_52 (Nat.le_trans (by decide) hd) (by decide) rfl rfl (by decide) dX5_hear_26 (spX5_letterAt (Nat.le_refl _) hw) (fun v_ τ_ hw => ?_)
      obtain ⟨r_2, rfl, hw⟩ := hw
      obtain ⟨σ_3, rfl⟩ : ∃ z, z = τ_ := ⟨_, rfl⟩
      refine go_bipush (v := 97) C rfl dX5_hear_29 ?_
      refine go_isub C dX5_hear_31 ?_
      refine go_topi (fun v5_4 ev5_4 => ?_)
      replace hw := hw v5_4 ev5_4
      refine go_istore (lv2 := [(5, .int v5_4), (0, .ref (G.2.2.1 1)), (1, .int v1), (2, .int v2), (3, .int v3), (4, .int v4)]) C (by rw [hnl]; decide) rfl dX5_hear_32 ?_
      refine go_iload C 0 rfl dX5_hear_34 ?_
      refine go_if_lt C 83 rfl dX5_hear_36 (fun hc => ?_) (fun hc => ?_)
      · replace hw := hw.1 hc
        obtain ⟨v4_5, ev4_5⟩ : ∃ z : Int32, z = v4 + 1 := ⟨_, rfl⟩
        replace hw := hw v4_5 ev4_5
        refine go_iinc (v := v4_5) (lv2 := [(4, .int v4_5), (5, .int v5_4), (0, .ref (G.2.2.1 1)), (1, .int v1), (2, .int v2), (3, .int v3)]) C 5 rfl (by rw [ev4_5]; rfl) (by rw [hnl]; decide) rfl dX5_hear_83 ?_
        refine go_goto C 7 rfl dX5_hear_86 ?_
        refine go_sub [2, 3, 4, 5, 0] rfl ?_
        exact ih _ _ _ _ _ hw
      · replace hw := hw.2 hc
        refine go_iload C 0 rfl dX5_hear_39 ?_
        refine go_lds1 C dX5_hear_41 ?_
        refine go_callT (as := []) C hR (show 1 < 4 by decide) cwX5_64 (Nat.le_trans (by decide) hd) (by decide) rfl rfl (by decide) dX5_hear_43 (spJ0_length_8abf5 (Nat.le_refl _) (show 1 < 4 by decide) hw) (fun v_ τ_ hw => ?_)
        obtain ⟨r_6, rfl, hw⟩ := hw
        obtain ⟨σ_7, rfl⟩ : ∃ z, z = τ_ := ⟨_, rfl⟩
        refine go_icmp_ge C 83 rfl dX5_hear_46 (fun hc => ?_) (fun hc => ?_)
        · replace hw := hw.1 hc
          obtain ⟨v4_8, ev4_8⟩ : ∃ z : Int32, z = v4 + 1 := ⟨_, rfl⟩
          replace hw := hw v4_8 ev4_8
          refine go_iinc (v := v4_8) (lv2 := [(4, .int v4_8), (5, .int v5_4), (0, .ref (G.2.2.1 1)), (1, .int v1), (2, .int v2), (3, .int v3)]) C 5 rfl (by rw [ev4_8]; rfl) (by rw [hnl]; decide) rfl dX5_hear_83 ?_
          refine go_goto C 7 rfl dX5_hear_86 ?_
          refine go_sub [2, 3, 4, 5, 0] rfl ?_
          exact ih _ _ _ _ _ hw
        · replace hw := hw.2 hc
          refine go_lds1 C dX5_hear_49 ?_
          refine go_iload C 0 rfl dX5_hear_51 ?_
          refine go_callT (as := [.int v5_4]) C hR (show 1 < 4 by decide) cwX5_68 (Nat.le_trans (by decide) hd) (by decide) rfl rfl (by decide) dX5_hear_53 (spJ0_charAt_5068e (Nat.le_refl _) (show 1 < 4 by decide) hw) (fun v_ τ_ hw => ?_)
          obtain ⟨r_9, rfl, hw⟩ := hw
          obtain ⟨σ_10, rfl⟩ : ∃ z, z = τ_ := ⟨_, rfl⟩
          refine go_istore (lv2 := [(6, .int r_9), (5, .int v5_4), (0, .ref (G.2.2.1 1)), (1, .int v1), (2, .int v2), (3, .int v3), (4, .int v4)]) C (by rw [hnl]; decide) rfl dX5_hear_56 ?_
          refine go_iload C 0 rfl dX5_hear_58 ?_
          refine go_iload_n C 5 rfl rfl dX5_hear_60 ?_
          refine go_icmp_eq C 83 rfl dX5_hear_61 (fun hc => ?_) (fun hc => ?_)
          · replace hw := hw.1 hc
            obtain ⟨v4_11, ev4_11⟩ : ∃ z : Int32, z = v4 + 1 := ⟨_, rfl⟩
            replace hw := hw v4_11 ev4_11
            refine go_iinc (v := v4_11) (lv2 := [(4, .int v4_11), (6, .int r_9), (5, .int v5_4), (0, .ref (G.2.2.1 1)), (1, .int v1), (2, .int v2), (3, .int v3)]) C 6 rfl (by rw [ev4_11]; rfl) (by rw [hnl]; decide) rfl dX5_hear_83 ?_
            refine go_goto C 7 rfl dX5_hear_86 ?_
            refine go_sub [3, 4, 5, 6, 0] rfl ?_
            exact ih _ _ _ _ _ hw
          · replace hw := hw.2 hc
            refine go_aload_n C 2 rfl rfl dX5_hear_64 ?_
            refine go_get (v := .ref (G.2.2.1 7)) C (shX5 G) ltX5 lkX5_28 rfl dX5_hear_65 ?_
            refine go_iload_n C 3 rfl rfl dX5_hear_68 ?_
            refine go_bipush (v := 10) C rfl dX5_hear_69 ?_
            refine go_imul C dX5_hear_71 ?_
            refine go_iload_n C 4 rfl rfl dX5_hear_72 ?_
            refine go_iadd C dX5_hear_73 ?_
            refine go_iload C 0 rfl dX5_hear_74 ?_
            refine go_iast C (saX5_sounds G) laX5_sounds hw.1 dX5_hear_76 (go_nm fun σ_12 eσ_12 => ?_)
            replace hw := hw.2 σ_12 eσ_12
            obtain ⟨v2_13, ev2_13⟩ : ∃ z : Int32, z = v2 + 1 := ⟨_, rfl⟩
            replace hw := hw v2_13 ev2_13
            refine go_iinc (v := v2_13) (lv2 := [(2, .int v2_13), (6, .int r_9), (5, .int v5_4), (0, .ref (G.2.2.1 1)), (1, .int v1), (3, .int v3), (4, .int v4)]) C 4 rfl (by rw [ev2_13]; rfl) (by rw [hnl]; decide) rfl dX5_hear_77 ?_
            refine go_iload C 1 rfl dX5_hear_80 ?_
            refine go_istore_n (lv2 := [(3, .int r_9), (2, .int v2_13), (6, .int r_9), (5, .int v5_4), (0, .ref (G.2.2.1 1)), (1, .int v1), (4, .int v4)]) C rfl (by rw [hnl]; decide) rfl dX5_hear_82 ?_
            obtain ⟨v4_14, ev4_14⟩ : ∃ z : Int32, z = v4 + 1 := ⟨_, rfl⟩
            replace hw := hw v4_14 ev4_14
            refine go_iinc (v := v4_14) (lv2 := [(4, .int v4_14), (3, .int r_9), (2, .int v2_13), (6, .int r_9), (5, .int v5_4), (0, .ref (G.2.2.1 1)), (1, .int v1)]) C 6 rfl (by rw [ev4_14]; rfl) (by rw [hnl]; decide) rfl dX5_hear_83 ?_
            refine go_goto C 7 rfl dX5_hear_86 ?_
            refine go_sub [5, 6, 2, 1, 0] rfl ?_
            exact ih _ _ _ _ _ hw
set_option maxRecDepth 20000 in
set_option maxHeartbeats 4000000 in
theorem spX5_hear {l : Launch} {G : GT} {d : Nat}  (hd : 5 ≤ d)   {a1 : Int32} {σ : St} {post : St → Prop} (hw : wpX5_hear  a1 σ post) : Sp l G d yX5_hear cX5_hear 7 none [.ref (G.2.2.1 1), .int a1] σ (fun v τ => v = none ∧ post τ) := by
  refine Sp.of (by decide) (by decide) fun X C hr hR hnl => ?_
  show Go X G 0 [(0, .ref (G.2.2.1 1)), (1, .int a1)] [] σ
  have hw : ∃ n, wbX5_hear_7 post n a1 0 0 0 σ := hw
  refine go_iconst (v := 0) C rfl dX5_hear_0 ?_
  refine go_istore_n (lv2 := [(2, .int 0), (0, .ref (G.2.2.1 1)), (1, .int a1)]) C rfl (by rw [hnl]; decide) rfl dX5_hear_1 ?_
  refine go_iconst (v := 0) C rfl dX5_hear_2 ?_
  refine go_istore_n (lv2 := [(3, .int 0), (2, .int 0), (0, .ref (G.2.2.1 1)), (1, .int a1)]) C rfl (by rw [hnl]; decide) rfl dX5_hear_3 ?_
  refine go_iconst (v := 0) C rfl dX5_hear_4 ?_
  refine go_istore (lv2 := [(4, .int 0), (3, .int 0), (2, .int 0), (0, .ref (G.2.2.1 1)), (1, .int a1)]) C (by rw [hnl]; decide) rfl dX5_hear_5 ?_
  refine go_sub [3, 4, 2, 1, 0] rfl ?_
  obtain ⟨n_0, hw⟩ := hw
  exact (gbX5_hear_7 C hr hR hnl hd) n_0 _ _ _ _ _ hw
-- CradleNames$Names.add(JIII)I
def wpX5_add  (a1 : Int64) (a2 : Int32) (a3 : Int32) (a4 : Int32) (σ : St) (post : Int32 → St → Prop) : Prop :=
  (((gI σ 1 0) < 16 →
    vp_in (gI σ 1 0) 16 ∧ (
    ∀ σ_1 : St, σ_1 = sL σ 2 (gI σ 1 0).toNatClampNeg a1 →
    vp_in (gI σ_1 1 0) 16 ∧ (
    ∀ σ_2 : St, σ_2 = sI σ_1 3 (gI σ_1 1 0).toNatClampNeg a2 →
    vp_in (gI σ_2 1 0) 16 ∧ (
    ∀ σ_3 : St, σ_3 = sI σ_2 4 (gI σ_2 1 0).toNatClampNeg a3 →
    vp_in (gI σ_3 1 0) 16 ∧ (
    ∀ σ_4 : St, σ_4 = sI σ_3 5 (gI σ_3 1 0).toNatClampNeg a4 →
    wpX5_endingOf a1 a2 σ_4 (fun r_5 σ_6 =>
    vp_in (gI σ_4 1 0) 16 ∧ (
    ∀ σ_7 : St, σ_7 = sL σ_6 6 (gI σ_4 1 0).toNatClampNeg r_5 →
    wpX5_hear (gI σ_7 1 0) σ_7 (fun σ_9 =>
    ∀ σ_10 : St, σ_10 = sI σ_9 1 0 ((gI σ_9 1 0) + 1) →
    post ((gI σ_10 1 0) - 1) σ_10)))))))) ∧
  (¬ (gI σ 1 0) < 16 →
    post (-1) σ))
set_option maxRecDepth 20000 in
set_option maxHeartbeats 4000000 in
theorem spX5_add {l : Launch} {G : GT} {d : Nat}  (hd : 6 ≤ d)   {a1 : Int64} {a2 : Int32} {a3 : Int32} {a4 : Int32} {σ : St} {post : Int32 → St → Prop} (hw : wpX5_add  a1 a2 a3 a4 σ post) : Sp l G d yX5_add cX5_add 6 (some .int) [.ref (G.2.2.1 1), .long a1, .int a2, .int a3, .int a4] σ (fun v τ => ∃ r : Int32, v = some (.int r) ∧ post r τ) := by
  refine Sp.of (by decide) (by decide) fun X C hr hR hnl => ?_
  show Go X G 0 [(0, .ref (G.2.2.1 1)), (1, .long a1), (3, .int a2), (4, .int a3), (5, .int a4)] [] σ
  have hw : (((gI σ 1 0) < 16 →
    vp_in (gI σ 1 0) 16 ∧ (
    ∀ σ_1 : St, σ_1 = sL σ 2 (gI σ 1 0).toNatClampNeg a1 →
    vp_in (gI σ_1 1 0) 16 ∧ (
    ∀ σ_2 : St, σ_2 = sI σ_1 3 (gI σ_1 1 0).toNatClampNeg a2 →
    vp_in (gI σ_2 1 0) 16 ∧ (
    ∀ σ_3 : St, σ_3 = sI σ_2 4 (gI σ_2 1 0).toNatClampNeg a3 →
    vp_in (gI σ_3 1 0) 16 ∧ (
    ∀ σ_4 : St, σ_4 = sI σ_3 5 (gI σ_3 1 0).toNatClampNeg a4 →
    wpX5_endingOf a1 a2 σ_4 (fun r_5 σ_6 =>
    vp_in (gI σ_4 1 0) 16 ∧ (
    ∀ σ_7 : St, σ_7 = sL σ_6 6 (gI σ_4 1 0).toNatClampNeg r_5 →
    wpX5_hear (gI σ_7 1 0) σ_7 (fun σ_9 =>
    ∀ σ_10 : St, σ_10 = sI σ_9 1 0 ((gI σ_9 1 0) + 1) →
    post ((gI σ_10 1 0) - 1) σ_10)))))))) ∧
  (¬ (gI σ 1 0) < 16 →
    post (-1) σ)) := hw
  refine go_aload_n C 0 rfl rfl dX5_add_0 ?_
  refine go_get (v := .int (gI σ 1 0)) C (shX5 G) ltX5 lkX5_38 rfl dX5_add_1 ?_
  refine go_bipush (v := 16) C rfl dX5_add_4 ?_
  refine go_icmp_lt C 11 rfl dX5_add_6 (fun hc => ?_) (fun hc => ?_)
  · replace hw := hw.1 hc
    refine go_aload_n C 0 rfl rfl dX5_add_11 ?_
    refine go_get (v := .ref (G.2.2.1 2)) C (shX5 G) ltX5 lkX5_9 rfl dX5_add_12 ?_
    refine go_aload_n C 0 rfl rfl dX5_add_15 ?_
    refine go_get (v := .int (gI σ 1 0)) C (shX5 G) ltX5 lkX5_38 rfl dX5_add_16 ?_
    refine go_lload_n C 1 rfl rfl dX5_add_19 ?_
    refine go_last C (saX5_letters G) laX5_letters hw.1 dX5_add_20 (go_nm fun σ_1 eσ_1 => ?_)
    replace hw := hw.2 σ_1 eσ_1
    refine go_aload_n C 0 rfl rfl dX5_add_21 ?_
    refine go_get (v := .ref (G.2.2.1 3)) C (shX5 G) ltX5 lkX5_15 rfl dX5_add_22 ?_
    refine go_aload_n C 0 rfl rfl dX5_add_25 ?_
    refine go_get (v := .int (gI σ_1 1 0)) C (shX5 G) ltX5 lkX5_38 rfl dX5_add_26 ?_
    refine go_iload_n C 2 rfl rfl dX5_add_29 ?_
    refine go_iast C (saX5_lengths G) laX5_lengths hw.1 dX5_add_30 (go_nm fun σ_2 eσ_2 => ?_)
    replace hw := hw.2 σ_2 eσ_2
    refine go_aload_n C 0 rfl rfl dX5_add_31 ?_
    refine go_get (v := .ref (G.2.2.1 4)) C (shX5 G) ltX5 lkX5_19 rfl dX5_add_32 ?_
    refine go_aload_n C 0 rfl rfl dX5_add_35 ?_
    refine go_get (v := .int (gI σ_2 1 0)) C (shX5 G) ltX5 lkX5_38 rfl dX5_add_36 ?_
    refine go_iload C 3 rfl dX5_add_39 ?_
    refine go_iast C (saX5_sexes G) laX5_sexes hw.1 dX5_add_41 (go_nm fun σ_3 eσ_3 => ?_)
    replace hw := hw.2 σ_3 eσ_3
    refine go_aload_n C 0 rfl rfl dX5_add_42 ?_
    refine go_get (v := .ref (G.2.2.1 5)) C (shX5 G) ltX5 lkX5_22 rfl dX5_add_43 ?_
    refine go_aload_n C 0 rfl rfl dX5_add_46 ?_
    refine go_get (v := .int (gI σ_3 1 0)) C (shX5 G) ltX5 lkX5_38 rfl dX5_add_47 ?_
    refine go_iload C 4 rfl dX5_add_50 ?_
    refine go_iast C (saX5_toldIn G) laX5_toldIn hw.1 dX5_add_52 (go_nm fun σ_4 eσ_4 => ?_)
    replace hw := hw.2 σ_4 eσ_4
    refine go_aload_n C 0 rfl rfl dX5_add_53 ?_
    refine go_get (v := .ref (G.2.2.1 6)) C (shX5 G) ltX5 lkX5_25 rfl dX5_add_54 ?_
    refine go_aload_n C 0 rfl rfl dX5_add_57 ?_
    refine go_get (v := .int (gI σ_4 1 0)) C (shX5 G) ltX5 lkX5_38 rfl dX5_add_58 ?_
    refine go_lload_n C 1 rfl rfl dX5_add_61 ?_
    refine go_iload_n C 2 rfl rfl dX5_add_62 ?_
    refine go_callS (as := [.long a1, .int a2]) C hR cwX5_42 (Nat.le_trans (by decide) hd) (by decide) rfl rfl (by decide) dX5_add_63 (spX5_endingOf (Nat.le_refl _) hw) (fun v_ τ_ hw => ?_)
    obtain ⟨r_5, rfl, hw⟩ := hw
    obtain ⟨σ_6, rfl⟩ : ∃ z, z = τ_ := ⟨_, rfl⟩
    refine go_last C (saX5_endings G) laX5_endings hw.1 dX5_add_66 (go_nm fun σ_7 eσ_7 => ?_)
    replace hw := hw.2 σ_7 eσ_7
    refine go_aload_n C 0 rfl rfl dX5_add_67 ?_
    refine go_aload_n C 0 rfl rfl dX5_add_68 ?_
    refine go_get (v := .int (gI σ_7 1 0)) C (shX5 G) ltX5 lkX5_38 rfl dX5_add_69 ?_
    refine go_callV (as := [.int (gI σ_7 1 0)]) C hR (shX5 G) ltX5 cwX5_46 (Nat.le_trans (by decide) hd) (by decide) rfl rfl (by decide) dX5_add_72 (spX5_hear (Nat.le_refl _) hw) (fun v_ τ_ hw => ?_)
    obtain ⟨rfl, hw⟩ := hw
    obtain ⟨σ_9, rfl⟩ : ∃ z, z = τ_ := ⟨_, rfl⟩
    refine go_aload_n C 0 rfl rfl dX5_add_75 ?_
    refine go_dup C rfl dX5_add_76 ?_
    refine go_get (v := .int (gI σ_9 1 0)) C (shX5 G) ltX5 lkX5_38 rfl dX5_add_77 ?_
    refine go_iconst (v := 1) C rfl dX5_add_80 ?_
    refine go_iadd C dX5_add_81 ?_
    refine go_puti C (shX5 G) ltX5 lpX5_38 (show 0 < 8 by decide) (pxX5_0 G _ _) dX5_add_82 (go_nm fun σ_10 eσ_10 => ?_)
    replace hw := hw σ_10 eσ_10
    refine go_aload_n C 0 rfl rfl dX5_add_85 ?_
    refine go_get (v := .int (gI σ_10 1 0)) C (shX5 G) ltX5 lkX5_38 rfl dX5_add_86 ?_
    refine go_iconst (v := 1) C rfl dX5_add_89 ?_
    refine go_isub C dX5_add_90 ?_
    exact go_iret C hr ⟨_, rfl, hw⟩ dX5_add_91
  · replace hw := hw.2 hc
    refine go_iconst (v := (-1)) C rfl dX5_add_9 ?_
    exact go_iret C hr ⟨_, rfl, hw⟩ dX5_add_10
-- CradleNames$Names.lowestOfEnding(I)I
def wbX5_lowestOfEnding_2   (post : Int32 → St → Prop) : Nat → Int32 → Int32 → St → Prop
  | 0, _, _, _ => False
  | n + 1, v1, v2, σ =>
    ((v1 ≤ v2 →
      post v1 σ) ∧
    (¬ v1 ≤ v2 →
      wpX5_sameEnding v2 v1 σ (fun r_1 σ_2 =>
      ((r_1 = 0 →
        ∀ v2_3 : Int32, v2_3 = v2 + 1 →
        wbX5_lowestOfEnding_2 post n v1 v2_3 σ_2) ∧
      (¬ r_1 = 0 →
        post v2 σ_2)))))
def wpX5_lowestOfEnding  (a1 : Int32) (σ : St) (post : Int32 → St → Prop) : Prop :=
  ∃ n, wbX5_lowestOfEnding_2 post n a1 0 σ
set_option maxRecDepth 20000 in
set_option maxHeartbeats 4000000 in
theorem gbX5_lowestOfEnding_2 {X : XT} {G : GT} {l : Launch} {d : Nat}  {post : Int32 → St → Prop} (C : Cx X G cX5_lowestOfEnding RX5) (hr : Rt X G (some .int) (fun v τ => ∃ r : Int32, v = some (.int r) ∧ post r τ)) (hR : Rm X l d) (hnl : X.2.2.2.2.2.2.2.2.2.2.1 = 3)  (hd : 2 ≤ d)   
    : ∀ (n : Nat) (v1 : Int32) (v2 : Int32) (σ : St), wbX5_lowestOfEnding_2   post n v1 v2 σ → Go X G 2 [(0, .ref (G.2.2.1 1)), (1, .int v1), (2, .int v2)] [] σ := by
  intro n
  induction n with
  | zero => intro v1 v2 σ hw; exact hw.elim
  | succ n ih =>
    intro v1 v2 σ hw
    have hw : ((v1 ≤ v2 →
      post v1 σ) ∧
    (¬ v1 ≤ v2 →
      wpX5_sameEnding v2 v1 σ (fun r_1 σ_2 =>
      ((r_1 = 0 →
        ∀ v2_3 : Int32, v2_3 = v2 + 1 →
        wbX5_lowestOfEnding_2 post n v1 v2_3 σ_2) ∧
      (¬ r_1 = 0 →
        post v2 σ_2))))) := hw
    refine go_iload_n C 2 rfl rfl dX5_lowestOfEnding_2 ?_
    refine go_iload_n C 1 rfl rfl dX5_lowestOfEnding_3 ?_
    refine go_icmp_ge C 24 rfl dX5_lowestOfEnding_4 (fun hc => ?_) (fun hc => ?_)
    · replace hw := hw.1 hc
      refine go_iload_n C 1 rfl rfl dX5_lowestOfEnding_24 ?_
      exact go_iret C hr ⟨_, rfl, hw⟩ dX5_lowestOfEnding_25
    · replace hw := hw.2 hc
      refine go_aload_n C 0 rfl rfl dX5_lowestOfEnding_7 ?_
      refine go_iload_n C 2 rfl rfl dX5_lowestOfEnding_8 ?_
      refine go_iload_n C 1 rfl rfl dX5_lowestOfEnding_9 ?_
      refine go_callV (as := [.int v2, .int v1]) C hR (shX5 G) ltX5 cwX5_72 (Nat.le_trans (by decide) hd) (by decide) rfl rfl (by decide) dX5_lowestOfEnding_10 (spX5_sameEnding (Nat.le_refl _) hw) (fun v_ τ_ hw => ?_)
      obtain ⟨r_1, rfl, hw⟩ := hw
      obtain ⟨σ_2, rfl⟩ : ∃ z, z = τ_ := ⟨_, rfl⟩
      refine go_if_eq C 18 rfl dX5_lowestOfEnding_13 (fun hc => ?_) (fun hc => ?_)
      · replace hw := hw.1 hc
        obtain ⟨v2_3, ev2_3⟩ : ∃ z : Int32, z = v2 + 1 := ⟨_, rfl⟩
        replace hw := hw v2_3 ev2_3
        refine go_iinc (v := v2_3) (lv2 := [(2, .int v2_3), (0, .ref (G.2.2.1 1)), (1, .int v1)]) C 2 rfl (by rw [ev2_3]; rfl) (by rw [hnl]; decide) rfl dX5_lowestOfEnding_18 ?_
        refine go_goto C 2 rfl dX5_lowestOfEnding_21 ?_
        refine go_sub [1, 2, 0] rfl ?_
        exact ih _ _ _ hw
      · replace hw := hw.2 hc
        refine go_iload_n C 2 rfl rfl dX5_lowestOfEnding_16 ?_
        exact go_iret C hr ⟨_, rfl, hw⟩ dX5_lowestOfEnding_17
set_option maxRecDepth 20000 in
set_option maxHeartbeats 4000000 in
theorem spX5_lowestOfEnding {l : Launch} {G : GT} {d : Nat}  (hd : 2 ≤ d)   {a1 : Int32} {σ : St} {post : Int32 → St → Prop} (hw : wpX5_lowestOfEnding  a1 σ post) : Sp l G d yX5_lowestOfEnding cX5_lowestOfEnding 3 (some .int) [.ref (G.2.2.1 1), .int a1] σ (fun v τ => ∃ r : Int32, v = some (.int r) ∧ post r τ) := by
  refine Sp.of (by decide) (by decide) fun X C hr hR hnl => ?_
  show Go X G 0 [(0, .ref (G.2.2.1 1)), (1, .int a1)] [] σ
  have hw : ∃ n, wbX5_lowestOfEnding_2 post n a1 0 σ := hw
  refine go_iconst (v := 0) C rfl dX5_lowestOfEnding_0 ?_
  refine go_istore_n (lv2 := [(2, .int 0), (0, .ref (G.2.2.1 1)), (1, .int a1)]) C rfl (by rw [hnl]; decide) rfl dX5_lowestOfEnding_1 ?_
  refine go_sub [1, 2, 0] rfl ?_
  obtain ⟨n_0, hw⟩ := hw
  exact (gbX5_lowestOfEnding_2 C hr hR hnl hd) n_0 _ _ _ hw
-- CradleNames$Names.akin(II)Z
def wbX5_akin_121   (post : Int32 → St → Prop) (v3 : Int32) (v4 : Int32) (v6 : Int32) (v7 : Int32) (σ : St) : Prop :=
  wpJ9_max_7cf53 v3 v4 σ (fun r_1 σ_2 =>
  ((1 < ((r_1 - v6) - v7) →
    post 0 σ_2) ∧
  (¬ 1 < ((r_1 - v6) - v7) →
    post 1 σ_2)))
def wbX5_akin_69   (post : Int32 → St → Prop) : Nat → Int32 → Int32 → Int32 → Int32 → Int32 → Int32 → Int32 → St → Prop
  | 0, _, _, _, _, _, _, _, _ => False
  | n + 1, v1, v2, v3, v4, v5, v6, v7, σ =>
    (((v5 - v6) ≤ v7 →
      wbX5_akin_121 post v3 v4 v6 v7 σ) ∧
    (¬ (v5 - v6) ≤ v7 →
      vp_in ((((v1 * 10) + v3) - 1) - v7) 160 ∧ (
      vp_in ((((v2 * 10) + v4) - 1) - v7) 160 ∧ (
      ((¬ (gI σ 7 ((((v1 * 10) + v3) - 1) - v7).toNatClampNeg) = (gI σ 7 ((((v2 * 10) + v4) - 1) - v7).toNatClampNeg) →
        wbX5_akin_121 post v3 v4 v6 v7 σ) ∧
      ((gI σ 7 ((((v1 * 10) + v3) - 1) - v7).toNatClampNeg) = (gI σ 7 ((((v2 * 10) + v4) - 1) - v7).toNatClampNeg) →
        ∀ v7_1 : Int32, v7_1 = v7 + 1 →
        wbX5_akin_69 post n v1 v2 v3 v4 v5 v6 v7_1 σ))))))
def wbX5_akin_26   (post : Int32 → St → Prop) : Nat → Int32 → Int32 → Int32 → Int32 → Int32 → Int32 → St → Prop
  | 0, _, _, _, _, _, _, _ => False
  | n + 1, v1, v2, v3, v4, v5, v6, σ =>
    ((v5 ≤ v6 →
      ∃ n, wbX5_akin_69 post n v1 v2 v3 v4 v5 v6 0 σ) ∧
    (¬ v5 ≤ v6 →
      vp_in ((v1 * 10) + v6) 160 ∧ (
      vp_in ((v2 * 10) + v6) 160 ∧ (
      ((¬ (gI σ 7 ((v1 * 10) + v6).toNatClampNeg) = (gI σ 7 ((v2 * 10) + v6).toNatClampNeg) →
        ∃ n, wbX5_akin_69 post n v1 v2 v3 v4 v5 v6 0 σ) ∧
      ((gI σ 7 ((v1 * 10) + v6).toNatClampNeg) = (gI σ 7 ((v2 * 10) + v6).toNatClampNeg) →
        ∀ v6_1 : Int32, v6_1 = v6 + 1 →
        wbX5_akin_26 post n v1 v2 v3 v4 v5 v6_1 σ))))))
def wpX5_akin  (a1 : Int32) (a2 : Int32) (σ : St) (post : Int32 → St → Prop) : Prop :=
  vp_in a1 16 ∧ (
  ∀ v3_1 : Int32, v3_1 = (gI σ 8 a1.toNatClampNeg) →
  vp_in a2 16 ∧ (
  ∀ v4_2 : Int32, v4_2 = (gI σ 8 a2.toNatClampNeg) →
  wpJ9_min_7cf53 v3_1 v4_2 σ (fun r_3 σ_4 =>
  ∃ n, wbX5_akin_26 post n a1 a2 v3_1 v4_2 r_3 0 σ_4)))
set_option maxRecDepth 20000 in
set_option maxHeartbeats 4000000 in
theorem gbX5_akin_121 {X : XT} {G : GT} {l : Launch} {d : Nat}  {post : Int32 → St → Prop} (C : Cx X G cX5_akin RX5) (hr : Rt X G (some .boolean) (fun v τ => ∃ r : Int32, v = some (.int r) ∧ post r τ)) (hR : Rm X l d) (hnl : X.2.2.2.2.2.2.2.2.2.2.1 = 8)  (hd : 2 ≤ d)   
    : ∀ (v3 : Int32) (v4 : Int32) (v6 : Int32) (v7 : Int32) (σ : St), wbX5_akin_121   post v3 v4 v6 v7 σ → Go X G 121 [(3, .int v3), (4, .int v4), (6, .int v6), (7, .int v7)] [] σ := by
  intro v3 v4 v6 v7 σ hw
  have hw : wpJ9_max_7cf53 v3 v4 σ (fun r_1 σ_2 =>
  ((1 < ((r_1 - v6) - v7) →
    post 0 σ_2) ∧
  (¬ 1 < ((r_1 - v6) - v7) →
    post 1 σ_2))) := hw
  refine go_iload_n C 0 rfl rfl dX5_akin_121 ?_
  refine go_iload C 1 rfl dX5_akin_122 ?_
  refine go_callS (as := [.int v3, .int v4]) C hR cwX5_82 (Nat.le_trans (by decide) hd) (by decide) rfl rfl (by decide) dX5_akin_124 (spJ9_max_7cf53 (Nat.le_refl _) hw) (fun v_ τ_ hw => ?_)
  obtain ⟨r_1, rfl, hw⟩ := hw
  obtain ⟨σ_2, rfl⟩ : ∃ z, z = τ_ := ⟨_, rfl⟩
  refine go_iload C 2 rfl dX5_akin_127 ?_
  refine go_isub C dX5_akin_129 ?_
  refine go_iload C 3 rfl dX5_akin_130 ?_
  refine go_isub C dX5_akin_132 ?_
  refine go_iconst (v := 1) C rfl dX5_akin_133 ?_
  refine go_icmp_gt C 141 rfl dX5_akin_134 (fun hc => ?_) (fun hc => ?_)
  · replace hw := hw.1 hc
    refine go_iconst (v := 0) C rfl dX5_akin_141 ?_
    exact go_zret C hr rfl ⟨_, rfl, hw⟩ dX5_akin_142
  · replace hw := hw.2 hc
    refine go_iconst (v := 1) C rfl dX5_akin_137 ?_
    refine go_goto C 142 rfl dX5_akin_138 ?_
    exact go_zret C hr rfl ⟨_, rfl, hw⟩ dX5_akin_142
set_option maxRecDepth 20000 in
set_option maxHeartbeats 4000000 in
theorem gbX5_akin_69 {X : XT} {G : GT} {l : Launch} {d : Nat}  {post : Int32 → St → Prop} (C : Cx X G cX5_akin RX5) (hr : Rt X G (some .boolean) (fun v τ => ∃ r : Int32, v = some (.int r) ∧ post r τ)) (hR : Rm X l d) (hnl : X.2.2.2.2.2.2.2.2.2.2.1 = 8)  (hd : 2 ≤ d)   
    : ∀ (n : Nat) (v1 : Int32) (v2 : Int32) (v3 : Int32) (v4 : Int32) (v5 : Int32) (v6 : Int32) (v7 : Int32) (σ : St), wbX5_akin_69   post n v1 v2 v3 v4 v5 v6 v7 σ → Go X G 69 [(0, .ref (G.2.2.1 1)), (1, .int v1), (2, .int v2), (3, .int v3), (4, .int v4), (5, .int v5), (6, .int v6), (7, .int v7)] [] σ := by
  intro n
  induction n with
  | zero => intro v1 v2 v3 v4 v5 v6 v7 σ hw; exact hw.elim
  | succ n ih =>
    intro v1 v2 v3 v4 v5 v6 v7 σ hw
    have hw : (((v5 - v6) ≤ v7 →
      wbX5_akin_121 post v3 v4 v6 v7 σ) ∧
    (¬ (v5 - v6) ≤ v7 →
      vp_in ((((v1 * 10) + v3) - 1) - v7) 160 ∧ (
      vp_in ((((v2 * 10) + v4) - 1) - v7) 160 ∧ (
      ((¬ (gI σ 7 ((((v1 * 10) + v3) - 1) - v7).toNatClampNeg) = (gI σ 7 ((((v2 * 10) + v4) - 1) - v7).toNatClampNeg) →
        wbX5_akin_121 post v3 v4 v6 v7 σ) ∧
      ((gI σ 7 ((((v1 * 10) + v3) - 1) - v7).toNatClampNeg) = (gI σ 7 ((((v2 * 10) + v4) - 1) - v7).toNatClampNeg) →
        ∀ v7_1 : Int32, v7_1 = v7 + 1 →
        wbX5_akin_69 post n v1 v2 v3 v4 v5 v6 v7_1 σ)))))) := hw
    refine go_iload C 7 rfl dX5_akin_69 ?_
    refine go_iload C 5 rfl dX5_akin_71 ?_
    refine go_iload C 6 rfl dX5_akin_73 ?_
    refine go_isub C dX5_akin_75 ?_
    refine go_icmp_ge C 121 rfl dX5_akin_76 (fun hc => ?_) (fun hc => ?_)
    · replace hw := hw.1 hc
      refine go_sub [3, 4, 6, 7] rfl ?_
      exact (gbX5_akin_121 C hr hR hnl hd) _ _ _ _ _ hw
    · replace hw := hw.2 hc
      refine go_aload_n C 0 rfl rfl dX5_akin_79 ?_
      refine go_get (v := .ref (G.2.2.1 7)) C (shX5 G) ltX5 lkX5_28 rfl dX5_akin_80 ?_
      refine go_iload_n C 1 rfl rfl dX5_akin_83 ?_
      refine go_bipush (v := 10) C rfl dX5_akin_84 ?_
      refine go_imul C dX5_akin_86 ?_
      refine go_iload_n C 3 rfl rfl dX5_akin_87 ?_
      refine go_iadd C dX5_akin_88 ?_
      refine go_iconst (v := 1) C rfl dX5_akin_89 ?_
      refine go_isub C dX5_akin_90 ?_
      refine go_iload C 7 rfl dX5_akin_91 ?_
      refine go_isub C dX5_akin_93 ?_
      refine go_iald C (saX5_sounds G) laX5_sounds hw.1 dX5_akin_94 ?_
      replace hw := hw.2
      refine go_aload_n C 0 rfl rfl dX5_akin_95 ?_
      refine go_get (v := .ref (G.2.2.1 7)) C (shX5 G) ltX5 lkX5_28 rfl dX5_akin_96 ?_
      refine go_iload_n C 2 rfl rfl dX5_akin_99 ?_
      refine go_bipush (v := 10) C rfl dX5_akin_100 ?_
      refine go_imul C dX5_akin_102 ?_
      refine go_iload C 4 rfl dX5_akin_103 ?_
      refine go_iadd C dX5_akin_105 ?_
      refine go_iconst (v := 1) C rfl dX5_akin_106 ?_
      refine go_isub C dX5_akin_107 ?_
      refine go_iload C 7 rfl dX5_akin_108 ?_
      refine go_isub C dX5_akin_110 ?_
      refine go_iald C (saX5_sounds G) laX5_sounds hw.1 dX5_akin_111 ?_
      replace hw := hw.2
      refine go_icmp_ne C 121 rfl dX5_akin_112 (fun hc => ?_) (fun hc => ?_)
      · replace hw := hw.1 hc
        refine go_sub [3, 4, 6, 7] rfl ?_
        exact (gbX5_akin_121 C hr hR hnl hd) _ _ _ _ _ hw
      · replace hw := hw.2 hc
        obtain ⟨v7_1, ev7_1⟩ : ∃ z : Int32, z = v7 + 1 := ⟨_, rfl⟩
        replace hw := hw v7_1 ev7_1
        refine go_iinc (v := v7_1) (lv2 := [(7, .int v7_1), (0, .ref (G.2.2.1 1)), (1, .int v1), (2, .int v2), (3, .int v3), (4, .int v4), (5, .int v5), (6, .int v6)]) C 7 rfl (by rw [ev7_1]; rfl) (by rw [hnl]; decide) rfl dX5_akin_115 ?_
        refine go_goto C 69 rfl dX5_akin_118 ?_
        refine go_sub [1, 2, 3, 4, 5, 6, 7, 0] rfl ?_
        exact ih _ _ _ _ _ _ _ _ hw
set_option maxRecDepth 20000 in
set_option maxHeartbeats 4000000 in
theorem gbX5_akin_26 {X : XT} {G : GT} {l : Launch} {d : Nat}  {post : Int32 → St → Prop} (C : Cx X G cX5_akin RX5) (hr : Rt X G (some .boolean) (fun v τ => ∃ r : Int32, v = some (.int r) ∧ post r τ)) (hR : Rm X l d) (hnl : X.2.2.2.2.2.2.2.2.2.2.1 = 8)  (hd : 2 ≤ d)   
    : ∀ (n : Nat) (v1 : Int32) (v2 : Int32) (v3 : Int32) (v4 : Int32) (v5 : Int32) (v6 : Int32) (σ : St), wbX5_akin_26   post n v1 v2 v3 v4 v5 v6 σ → Go X G 26 [(0, .ref (G.2.2.1 1)), (1, .int v1), (2, .int v2), (3, .int v3), (4, .int v4), (5, .int v5), (6, .int v6)] [] σ := by
  intro n
  induction n with
  | zero => intro v1 v2 v3 v4 v5 v6 σ hw; exact hw.elim
  | succ n ih =>
    intro v1 v2 v3 v4 v5 v6 σ hw
    have hw : ((v5 ≤ v6 →
      ∃ n, wbX5_akin_69 post n v1 v2 v3 v4 v5 v6 0 σ) ∧
    (¬ v5 ≤ v6 →
      vp_in ((v1 * 10) + v6) 160 ∧ (
      vp_in ((v2 * 10) + v6) 160 ∧ (
      ((¬ (gI σ 7 ((v1 * 10) + v6).toNatClampNeg) = (gI σ 7 ((v2 * 10) + v6).toNatClampNeg) →
        ∃ n, wbX5_akin_69 post n v1 v2 v3 v4 v5 v6 0 σ) ∧
      ((gI σ 7 ((v1 * 10) + v6).toNatClampNeg) = (gI σ 7 ((v2 * 10) + v6).toNatClampNeg) →
        ∀ v6_1 : Int32, v6_1 = v6 + 1 →
        wbX5_akin_26 post n v1 v2 v3 v4 v5 v6_1 σ)))))) := hw
    refine go_iload C 6 rfl dX5_akin_26 ?_
    refine go_iload C 5 rfl dX5_akin_28 ?_
    refine go_icmp_ge C 66 rfl dX5_akin_30 (fun hc => ?_) (fun hc => ?_)
    · replace hw := hw.1 hc
      refine go_iconst (v := 0) C rfl dX5_akin_66 ?_
      refine go_istore (lv2 := [(7, .int 0), (0, .ref (G.2.2.1 1)), (1, .int v1), (2, .int v2), (3, .int v3), (4, .int v4), (5, .int v5), (6, .int v6)]) C (by rw [hnl]; decide) rfl dX5_akin_67 ?_
      refine go_sub [1, 2, 3, 4, 5, 6, 7, 0] rfl ?_
      obtain ⟨n_0, hw⟩ := hw
      exact (gbX5_akin_69 C hr hR hnl hd) n_0 _ _ _ _ _ _ _ _ hw
    · replace hw := hw.2 hc
      refine go_aload_n C 0 rfl rfl dX5_akin_33 ?_
      refine go_get (v := .ref (G.2.2.1 7)) C (shX5 G) ltX5 lkX5_28 rfl dX5_akin_34 ?_
      refine go_iload_n C 1 rfl rfl dX5_akin_37 ?_
      refine go_bipush (v := 10) C rfl dX5_akin_38 ?_
      refine go_imul C dX5_akin_40 ?_
      refine go_iload C 6 rfl dX5_akin_41 ?_
      refine go_iadd C dX5_akin_43 ?_
      refine go_iald C (saX5_sounds G) laX5_sounds hw.1 dX5_akin_44 ?_
      replace hw := hw.2
      refine go_aload_n C 0 rfl rfl dX5_akin_45 ?_
      refine go_get (v := .ref (G.2.2.1 7)) C (shX5 G) ltX5 lkX5_28 rfl dX5_akin_46 ?_
      refine go_iload_n C 2 rfl rfl dX5_akin_49 ?_
      refine go_bipush (v := 10) C rfl dX5_akin_50 ?_
      refine go_imul C dX5_akin_52 ?_
      refine go_iload C 6 rfl dX5_akin_53 ?_
      refine go_iadd C dX5_akin_55 ?_
      refine go_iald C (saX5_sounds G) laX5_sounds hw.1 dX5_akin_56 ?_
      replace hw := hw.2
      refine go_icmp_ne C 66 rfl dX5_akin_57 (fun hc => ?_) (fun hc => ?_)
      · replace hw := hw.1 hc
        refine go_iconst (v := 0) C rfl dX5_akin_66 ?_
        refine go_istore (lv2 := [(7, .int 0), (0, .ref (G.2.2.1 1)), (1, .int v1), (2, .int v2), (3, .int v3), (4, .int v4), (5, .int v5), (6, .int v6)]) C (by rw [hnl]; decide) rfl dX5_akin_67 ?_
        refine go_sub [1, 2, 3, 4, 5, 6, 7, 0] rfl ?_
        obtain ⟨n_0, hw⟩ := hw
        exact (gbX5_akin_69 C hr hR hnl hd) n_0 _ _ _ _ _ _ _ _ hw
      · replace hw := hw.2 hc
        obtain ⟨v6_1, ev6_1⟩ : ∃ z : Int32, z = v6 + 1 := ⟨_, rfl⟩
        replace hw := hw v6_1 ev6_1
        refine go_iinc (v := v6_1) (lv2 := [(6, .int v6_1), (0, .ref (G.2.2.1 1)), (1, .int v1), (2, .int v2), (3, .int v3), (4, .int v4), (5, .int v5)]) C 6 rfl (by rw [ev6_1]; rfl) (by rw [hnl]; decide) rfl dX5_akin_60 ?_
        refine go_goto C 26 rfl dX5_akin_63 ?_
        refine go_sub [1, 2, 3, 4, 5, 6, 0] rfl ?_
        exact ih _ _ _ _ _ _ _ hw
set_option maxRecDepth 20000 in
set_option maxHeartbeats 4000000 in
theorem spX5_akin {l : Launch} {G : GT} {d : Nat}  (hd : 2 ≤ d)   {a1 : Int32} {a2 : Int32} {σ : St} {post : Int32 → St → Prop} (hw : wpX5_akin  a1 a2 σ post) : Sp l G d yX5_akin cX5_akin 8 (some .boolean) [.ref (G.2.2.1 1), .int a1, .int a2] σ (fun v τ => ∃ r : Int32, v = some (.int r) ∧ post r τ) := by
  refine Sp.of (by decide) (by decide) fun X C hr hR hnl => ?_
  show Go X G 0 [(0, .ref (G.2.2.1 1)), (1, .int a1), (2, .int a2)] [] σ
  have hw : vp_in a1 16 ∧ (
  ∀ v3_1 : Int32, v3_1 = (gI σ 8 a1.toNatClampNeg) →
  vp_in a2 16 ∧ (
  ∀ v4_2 : Int32, v4_2 = (gI σ 8 a2.toNatClampNeg) →
  wpJ9_min_7cf53 v3_1 v4_2 σ (fun r_3 σ_4 =>
  ∃ n, wbX5_akin_26 post n a1 a2 v3_1 v4_2 r_3 0 σ_4))) := hw
  refine go_aload_n C 0 rfl rfl dX5_akin_0 ?_
  refine go_get (v := .ref (G.2.2.1 8)) C (shX5 G) ltX5 lkX5_31 rfl dX5_akin_1 ?_
  refine go_iload_n C 1 rfl rfl dX5_akin_4 ?_
  refine go_iald C (saX5_soundCounts G) laX5_soundCounts hw.1 dX5_akin_5 ?_
  replace hw := hw.2
  refine go_topi (fun v3_1 ev3_1 => ?_)
  replace hw := hw v3_1 ev3_1
  refine go_istore_n (lv2 := [(3, .int v3_1), (0, .ref (G.2.2.1 1)), (1, .int a1), (2, .int a2)]) C rfl (by rw [hnl]; decide) rfl dX5_akin_6 ?_
  refine go_aload_n C 1 rfl rfl dX5_akin_7 ?_
  refine go_get (v := .ref (G.2.2.1 8)) C (shX5 G) ltX5 lkX5_31 rfl dX5_akin_8 ?_
  refine go_iload_n C 3 rfl rfl dX5_akin_11 ?_
  refine go_iald C (saX5_soundCounts G) laX5_soundCounts hw.1 dX5_akin_12 ?_
  replace hw := hw.2
  refine go_topi (fun v4_2 ev4_2 => ?_)
  replace hw := hw v4_2 ev4_2
  refine go_istore (lv2 := [(4, .int v4_2), (3, .int v3_1), (0, .ref (G.2.2.1 1)), (1, .int a1), (2, .int a2)]) C (by rw [hnl]; decide) rfl dX5_akin_13 ?_
  refine go_iload_n C 1 rfl rfl dX5_akin_15 ?_
  refine go_iload C 0 rfl dX5_akin_16 ?_
  refine go_callS (as := [.int v3_1, .int v4_2]) C hR cwX5_76 (Nat.le_trans (by decide) hd) (by decide) rfl rfl (by decide) dX5_akin_18 (spJ9_min_7cf53 (Nat.le_refl _) hw) (fun v_ τ_ hw => ?_)
  obtain ⟨r_3, rfl, hw⟩ := hw
  obtain ⟨σ_4, rfl⟩ : ∃ z, z = τ_ := ⟨_, rfl⟩
  refine go_istore (lv2 := [(5, .int r_3), (4, .int v4_2), (3, .int v3_1), (0, .ref (G.2.2.1 1)), (1, .int a1), (2, .int a2)]) C (by rw [hnl]; decide) rfl dX5_akin_21 ?_
  refine go_iconst (v := 0) C rfl dX5_akin_23 ?_
  refine go_istore (lv2 := [(6, .int 0), (5, .int r_3), (4, .int v4_2), (3, .int v3_1), (0, .ref (G.2.2.1 1)), (1, .int a1), (2, .int a2)]) C (by rw [hnl]; decide) rfl dX5_akin_24 ?_
  refine go_sub [4, 5, 6, 3, 2, 1, 0] rfl ?_
  obtain ⟨n_0, hw⟩ := hw
  exact (gbX5_akin_26 C hr hR hnl hd) n_0 _ _ _ _ _ _ _ hw
-- CradleNames$Odds.setDraw(III)V
def wpX6_setDraw  (a1 : Int32) (a2 : Int32) (a3 : Int32) (σ : St) (post : St → Prop) : Prop :=
  ∀ σ_1 : St, σ_1 = sI σ 60 3 a1 →
  ∀ σ_2 : St, σ_2 = sI σ_1 60 4 a2 →
  ∀ σ_3 : St, σ_3 = sI σ_2 60 5 a3 →
  post σ_3
set_option maxRecDepth 20000 in
set_option maxHeartbeats 4000000 in
theorem spX6_setDraw {l : Launch} {G : GT} {d : Nat}  (hd : 1 ≤ d)   {a1 : Int32} {a2 : Int32} {a3 : Int32} {σ : St} {post : St → Prop} (hw : wpX6_setDraw  a1 a2 a3 σ post) : Sp l G d yX6_setDraw cX6_setDraw 4 none [.ref (G.2.2.1 60), .int a1, .int a2, .int a3] σ (fun v τ => v = none ∧ post τ) := by
  refine Sp.of (by decide) (by decide) fun X C hr hR hnl => ?_
  show Go X G 0 [(0, .ref (G.2.2.1 60)), (1, .int a1), (2, .int a2), (3, .int a3)] [] σ
  have hw : ∀ σ_1 : St, σ_1 = sI σ 60 3 a1 →
  ∀ σ_2 : St, σ_2 = sI σ_1 60 4 a2 →
  ∀ σ_3 : St, σ_3 = sI σ_2 60 5 a3 →
  post σ_3 := hw
  refine go_aload_n C 0 rfl rfl dX6_setDraw_0 ?_
  refine go_iload_n C 1 rfl rfl dX6_setDraw_1 ?_
  refine go_puti C (shX6 G) ltX6 lpX6_19 (show 3 < 6 by decide) (pxX6_3 G _ _) dX6_setDraw_2 (go_nm fun σ_1 eσ_1 => ?_)
  replace hw := hw σ_1 eσ_1
  refine go_aload_n C 0 rfl rfl dX6_setDraw_5 ?_
  refine go_iload_n C 2 rfl rfl dX6_setDraw_6 ?_
  refine go_puti C (shX6 G) ltX6 lpX6_23 (show 4 < 6 by decide) (pxX6_4 G _ _) dX6_setDraw_7 (go_nm fun σ_2 eσ_2 => ?_)
  replace hw := hw σ_2 eσ_2
  refine go_aload_n C 0 rfl rfl dX6_setDraw_10 ?_
  refine go_iload_n C 3 rfl rfl dX6_setDraw_11 ?_
  refine go_puti C (shX6 G) ltX6 lpX6_26 (show 5 < 6 by decide) (pxX6_5 G _ _) dX6_setDraw_12 (go_nm fun σ_3 eσ_3 => ?_)
  replace hw := hw σ_3 eσ_3
  exact go_vret C hr hw dX6_setDraw_15
-- CradleNames$Odds.times([II)V
def wbX6_times_5 (q1 : Nat) (n1 : Nat)  (post : St → Prop) : Nat → Int32 → Int64 → Int32 → St → Prop
  | 0, _, _, _, _ => False
  | n + 1, v1, v2, v4, σ =>
    ((24 ≤ v4 →
      post σ) ∧
    (¬ 24 ≤ v4 →
      vp_in v4 n1 ∧ (
      ∀ v2_1 : Int64, v2_1 = (v2 + ((gI σ q1 v4.toNatClampNeg).toInt64 * v1.toInt64)) →
      vp_in v4 n1 ∧ (
      ∀ σ_2 : St, σ_2 = sI σ q1 v4.toNatClampNeg ((v2_1 &&& 16777215).toInt32) →
      ∀ v2_3 : Int64, v2_3 = (v2_1 >>> ((24 : Int32).toInt64 &&& 63)) →
      ∀ v4_4 : Int32, v4_4 = v4 + 1 →
      wbX6_times_5 q1 n1 post n v1 v2_3 v4_4 σ_2))))
def wpX6_times (q1 : Nat) (n1 : Nat) (a2 : Int32) (σ : St) (post : St → Prop) : Prop :=
  ∃ n, wbX6_times_5 q1 n1 post n a2 0 0 σ
set_option maxRecDepth 20000 in
set_option maxHeartbeats 4000000 in
theorem gbX6_times_5 {X : XT} {G : GT} {l : Launch} {d : Nat} {q1 : Nat} {n1 : Nat} {post : St → Prop} (C : Cx X G cX6_times RX6) (hr : Rt X G none (fun v τ => v = none ∧ post τ)) (hR : Rm X l d) (hnl : X.2.2.2.2.2.2.2.2.2.2.1 = 5)  (hd : 1 ≤ d) (hsq1 : ∀ x, wcc G q1 x = .inl (G.2.1 0, n1, .inl x.1)) (hlq1 : q1 < NC)  
    : ∀ (n : Nat) (v1 : Int32) (v2 : Int64) (v4 : Int32) (σ : St), wbX6_times_5 q1 n1  post n v1 v2 v4 σ → Go X G 5 [(0, .ref (G.2.2.1 q1)), (1, .int v1), (2, .long v2), (4, .int v4)] [] σ := by
  intro n
  induction n with
  | zero => intro v1 v2 v4 σ hw; exact hw.elim
  | succ n ih =>
    intro v1 v2 v4 σ hw
    have hw : ((24 ≤ v4 →
      post σ) ∧
    (¬ 24 ≤ v4 →
      vp_in v4 n1 ∧ (
      ∀ v2_1 : Int64, v2_1 = (v2 + ((gI σ q1 v4.toNatClampNeg).toInt64 * v1.toInt64)) →
      vp_in v4 n1 ∧ (
      ∀ σ_2 : St, σ_2 = sI σ q1 v4.toNatClampNeg ((v2_1 &&& 16777215).toInt32) →
      ∀ v2_3 : Int64, v2_3 = (v2_1 >>> ((24 : Int32).toInt64 &&& 63)) →
      ∀ v4_4 : Int32, v4_4 = v4 + 1 →
      wbX6_times_5 q1 n1 post n v1 v2_3 v4_4 σ_2)))) := hw
    refine go_iload C 3 rfl dX6_times_5 ?_
    refine go_bipush (v := 24) C rfl dX6_times_7 ?_
    refine go_icmp_ge C 44 rfl dX6_times_9 (fun hc => ?_) (fun hc => ?_)
    · replace hw := hw.1 hc
      exact go_vret C hr hw dX6_times_44
    · replace hw := hw.2 hc
      refine go_lload_n C 2 rfl rfl dX6_times_12 ?_
      refine go_aload_n C 0 rfl rfl dX6_times_13 ?_
      refine go_iload C 3 rfl dX6_times_14 ?_
      refine go_iald C hsq1 hlq1 hw.1 dX6_times_16 ?_
      replace hw := hw.2
      refine go_i2l C dX6_times_17 ?_
      refine go_iload_n C 1 rfl rfl dX6_times_18 ?_
      refine go_i2l C dX6_times_19 ?_
      refine go_lmul C dX6_times_20 ?_
      refine go_ladd C dX6_times_21 ?_
      refine go_topl (fun v2_1 ev2_1 => ?_)
      replace hw := hw v2_1 ev2_1
      refine go_lstore_n (lv2 := [(2, .long v2_1), (0, .ref (G.2.2.1 q1)), (1, .int v1), (4, .int v4)]) C rfl (by rw [hnl]; decide) rfl dX6_times_22 ?_
      refine go_aload_n C 1 rfl rfl dX6_times_23 ?_
      refine go_iload C 3 rfl dX6_times_24 ?_
      refine go_lload_n C 0 rfl rfl dX6_times_26 ?_
      refine go_ldc2 (v := 16777215) C kcX6_51 dX6_times_27 ?_
      refine go_land C dX6_times_30 ?_
      refine go_l2i C dX6_times_31 ?_
      refine go_iast C hsq1 hlq1 hw.1 dX6_times_32 (go_nm fun σ_2 eσ_2 => ?_)
      replace hw := hw.2 σ_2 eσ_2
      refine go_lload_n C 0 rfl rfl dX6_times_33 ?_
      refine go_bipush (v := 24) C rfl dX6_times_34 ?_
      refine go_lshr C dX6_times_36 ?_
      refine go_topl (fun v2_3 ev2_3 => ?_)
      replace hw := hw v2_3 ev2_3
      refine go_lstore_n (lv2 := [(2, .long v2_3), (0, .ref (G.2.2.1 q1)), (1, .int v1), (4, .int v4)]) C rfl (by rw [hnl]; decide) rfl dX6_times_37 ?_
      obtain ⟨v4_4, ev4_4⟩ : ∃ z : Int32, z = v4 + 1 := ⟨_, rfl⟩
      replace hw := hw v4_4 ev4_4
      refine go_iinc (v := v4_4) (lv2 := [(4, .int v4_4), (2, .long v2_3), (0, .ref (G.2.2.1 q1)), (1, .int v1)]) C 3 rfl (by rw [ev4_4]; rfl) (by rw [hnl]; decide) rfl dX6_times_38 ?_
      refine go_goto C 5 rfl dX6_times_41 ?_
      refine go_sub [2, 3, 1, 0] rfl ?_
      exact ih _ _ _ _ hw
set_option maxRecDepth 20000 in
set_option maxHeartbeats 4000000 in
theorem spX6_times {l : Launch} {G : GT} {d : Nat}  (hd : 1 ≤ d) {q1 : Nat} {n1 : Nat} (hsq1 : ∀ x, wcc G q1 x = .inl (G.2.1 0, n1, .inl x.1)) (hlq1 : q1 < NC) {a2 : Int32} {σ : St} {post : St → Prop} (hw : wpX6_times q1 n1 a2 σ post) : Sp l G d yX6_times cX6_times 5 none [.ref (G.2.2.1 q1), .int a2] σ (fun v τ => v = none ∧ post τ) := by
  refine Sp.of (by decide) (by decide) fun X C hr hR hnl => ?_
  show Go X G 0 [(0, .ref (G.2.2.1 q1)), (1, .int a2)] [] σ
  have hw : ∃ n, wbX6_times_5 q1 n1 post n a2 0 0 σ := hw
  refine go_lconst (v := 0) C rfl dX6_times_0 ?_
  refine go_lstore_n (lv2 := [(2, .long 0), (0, .ref (G.2.2.1 q1)), (1, .int a2)]) C rfl (by rw [hnl]; decide) rfl dX6_times_1 ?_
  refine go_iconst (v := 0) C rfl dX6_times_2 ?_
  refine go_istore (lv2 := [(4, .int 0), (2, .long 0), (0, .ref (G.2.2.1 q1)), (1, .int a2)]) C (by rw [hnl]; decide) rfl dX6_times_3 ?_
  refine go_sub [2, 3, 1, 0] rfl ?_
  obtain ⟨n_0, hw⟩ := hw
  exact (gbX6_times_5 C hr hR hnl hd hsq1 hlq1) n_0 _ _ _ _ hw
-- CradleNames$Odds.over([II)V
def wbX6_over_11 (q1 : Nat) (n1 : Nat)  (post : St → Prop) : Nat → Int32 → Int64 → Int32 → St → Prop
  | 0, _, _, _, _ => False
  | n + 1, v1, v2, v4, σ =>
    ((v4 < 0 →
      post σ) ∧
    (¬ v4 < 0 →
      vp_in v4 n1 ∧ (
      ∀ v2_1 : Int64, v2_1 = ((v2 <<< ((24 : Int32).toInt64 &&& 63)) + (gI σ q1 v4.toNatClampNeg).toInt64) →
      ¬ v1.toInt64 = 0 ∧ (
      vp_in v4 n1 ∧ (
      ∀ σ_2 : St, σ_2 = sI σ q1 v4.toNatClampNeg ((v2_1 / v1.toInt64).toInt32) →
      ¬ v1.toInt64 = 0 ∧ (
      ∀ v2_3 : Int64, v2_3 = (v2_1 - v2_1 / v1.toInt64 * v1.toInt64) →
      ∀ v4_4 : Int32, v4_4 = v4 + (-1) →
      wbX6_over_11 q1 n1 post n v1 v2_3 v4_4 σ_2))))))
def wpX6_over (q1 : Nat) (n1 : Nat) (a2 : Int32) (σ : St) (post : St → Prop) : Prop :=
  ((¬ a2 = 0 →
    ∃ n, wbX6_over_11 q1 n1 post n a2 0 23 σ) ∧
  (a2 = 0 →
    post σ))
set_option maxRecDepth 20000 in
set_option maxHeartbeats 4000000 in
theorem gbX6_over_11 {X : XT} {G : GT} {l : Launch} {d : Nat} {q1 : Nat} {n1 : Nat} {post : St → Prop} (C : Cx X G cX6_over RX6) (hr : Rt X G none (fun v τ => v = none ∧ post τ)) (hR : Rm X l d) (hnl : X.2.2.2.2.2.2.2.2.2.2.1 = 5)  (hd : 1 ≤ d) (hsq1 : ∀ x, wcc G q1 x = .inl (G.2.1 0, n1, .inl x.1)) (hlq1 : q1 < NC)  
    : ∀ (n : Nat) (v1 : Int32) (v2 : Int64) (v4 : Int32) (σ : St), wbX6_over_11 q1 n1  post n v1 v2 v4 σ → Go X G 11 [(0, .ref (G.2.2.1 q1)), (1, .int v1), (2, .long v2), (4, .int v4)] [] σ := by
  intro n
  induction n with
  | zero => intro v1 v2 v4 σ hw; exact hw.elim
  | succ n ih =>
    intro v1 v2 v4 σ hw
    have hw : ((v4 < 0 →
      post σ) ∧
    (¬ v4 < 0 →
      vp_in v4 n1 ∧ (
      ∀ v2_1 : Int64, v2_1 = ((v2 <<< ((24 : Int32).toInt64 &&& 63)) + (gI σ q1 v4.toNatClampNeg).toInt64) →
      ¬ v1.toInt64 = 0 ∧ (
      vp_in v4 n1 ∧ (
      ∀ σ_2 : St, σ_2 = sI σ q1 v4.toNatClampNeg ((v2_1 / v1.toInt64).toInt32) →
      ¬ v1.toInt64 = 0 ∧ (
      ∀ v2_3 : Int64, v2_3 = (v2_1 - v2_1 / v1.toInt64 * v1.toInt64) →
      ∀ v4_4 : Int32, v4_4 = v4 + (-1) →
      wbX6_over_11 q1 n1 post n v1 v2_3 v4_4 σ_2)))))) := hw
    refine go_iload C 3 rfl dX6_over_11 ?_
    refine go_if_lt C 47 rfl dX6_over_13 (fun hc => ?_) (fun hc => ?_)
    · replace hw := hw.1 hc
      exact go_vret C hr hw dX6_over_47
    · replace hw := hw.2 hc
      refine go_lload_n C 2 rfl rfl dX6_over_16 ?_
      refine go_bipush (v := 24) C rfl dX6_over_17 ?_
      refine go_lshl C dX6_over_19 ?_
      refine go_aload_n C 0 rfl rfl dX6_over_20 ?_
      refine go_iload C 3 rfl dX6_over_21 ?_
      refine go_iald C hsq1 hlq1 hw.1 dX6_over_23 ?_
      replace hw := hw.2
      refine go_i2l C dX6_over_24 ?_
      refine go_ladd C dX6_over_25 ?_
      refine go_topl (fun v2_1 ev2_1 => ?_)
      replace hw := hw v2_1 ev2_1
      refine go_lstore_n (lv2 := [(2, .long v2_1), (0, .ref (G.2.2.1 q1)), (1, .int v1), (4, .int v4)]) C rfl (by rw [hnl]; decide) rfl dX6_over_26 ?_
      refine go_aload_n C 1 rfl rfl dX6_over_27 ?_
      refine go_iload C 3 rfl dX6_over_28 ?_
      refine go_lload_n C 0 rfl rfl dX6_over_30 ?_
      refine go_iload_n C 2 rfl rfl dX6_over_31 ?_
      refine go_i2l C dX6_over_32 ?_
      refine go_ldiv C hw.1 dX6_over_33 ?_
      replace hw := hw.2
      refine go_l2i C dX6_over_34 ?_
      refine go_iast C hsq1 hlq1 hw.1 dX6_over_35 (go_nm fun σ_2 eσ_2 => ?_)
      replace hw := hw.2 σ_2 eσ_2
      refine go_lload_n C 0 rfl rfl dX6_over_36 ?_
      refine go_iload_n C 2 rfl rfl dX6_over_37 ?_
      refine go_i2l C dX6_over_38 ?_
      refine go_lrem C hw.1 dX6_over_39 ?_
      replace hw := hw.2
      refine go_topl (fun v2_3 ev2_3 => ?_)
      replace hw := hw v2_3 ev2_3
      refine go_lstore_n (lv2 := [(2, .long v2_3), (0, .ref (G.2.2.1 q1)), (1, .int v1), (4, .int v4)]) C rfl (by rw [hnl]; decide) rfl dX6_over_40 ?_
      obtain ⟨v4_4, ev4_4⟩ : ∃ z : Int32, z = v4 + (-1) := ⟨_, rfl⟩
      replace hw := hw v4_4 ev4_4
      refine go_iinc (v := v4_4) (lv2 := [(4, .int v4_4), (2, .long v2_3), (0, .ref (G.2.2.1 q1)), (1, .int v1)]) C 3 rfl (by rw [ev4_4]; rfl) (by rw [hnl]; decide) rfl dX6_over_41 ?_
      refine go_goto C 11 rfl dX6_over_44 ?_
      refine go_sub [2, 3, 1, 0] rfl ?_
      exact ih _ _ _ _ hw
set_option maxRecDepth 20000 in
set_option maxHeartbeats 4000000 in
theorem spX6_over {l : Launch} {G : GT} {d : Nat}  (hd : 1 ≤ d) {q1 : Nat} {n1 : Nat} (hsq1 : ∀ x, wcc G q1 x = .inl (G.2.1 0, n1, .inl x.1)) (hlq1 : q1 < NC) {a2 : Int32} {σ : St} {post : St → Prop} (hw : wpX6_over q1 n1 a2 σ post) : Sp l G d yX6_over cX6_over 5 none [.ref (G.2.2.1 q1), .int a2] σ (fun v τ => v = none ∧ post τ) := by
  refine Sp.of (by decide) (by decide) fun X C hr hR hnl => ?_
  show Go X G 0 [(0, .ref (G.2.2.1 q1)), (1, .int a2)] [] σ
  have hw : ((¬ a2 = 0 →
    ∃ n, wbX6_over_11 q1 n1 post n a2 0 23 σ) ∧
  (a2 = 0 →
    post σ)) := hw
  refine go_iload_n C 1 rfl rfl dX6_over_0 ?_
  refine go_if_ne C 5 rfl dX6_over_1 (fun hc => ?_) (fun hc => ?_)
  · replace hw := hw.1 hc
    refine go_lconst (v := 0) C rfl dX6_over_5 ?_
    refine go_lstore_n (lv2 := [(2, .long 0), (0, .ref (G.2.2.1 q1)), (1, .int a2)]) C rfl (by rw [hnl]; decide) rfl dX6_over_6 ?_
    refine go_bipush (v := 23) C rfl dX6_over_7 ?_
    refine go_istore (lv2 := [(4, .int 23), (2, .long 0), (0, .ref (G.2.2.1 q1)), (1, .int a2)]) C (by rw [hnl]; decide) rfl dX6_over_9 ?_
    refine go_sub [2, 3, 1, 0] rfl ?_
    obtain ⟨n_0, hw⟩ := hw
    exact (gbX6_over_11 C hr hR hnl hd hsq1 hlq1) n_0 _ _ _ _ hw
  · replace hw := hw.2 hc
    exact go_vret C hr hw dX6_over_4
-- CradleNames$Odds.addTerm()V
def wbX6_addTerm_4   (post : St → Prop) : Nat → Int32 → Int32 → St → Prop
  | 0, _, _, _ => False
  | n + 1, v1, v2, σ =>
    ((24 ≤ v2 →
      post σ) ∧
    (¬ 24 ≤ v2 →
      vp_in v2 24 ∧ (
      vp_in v2 24 ∧ (
      ∀ v1_1 : Int32, v1_1 = (v1 + ((gI σ 62 v2.toNatClampNeg) + (gI σ 61 v2.toNatClampNeg))) →
      vp_in v2 24 ∧ (
      ∀ σ_2 : St, σ_2 = sI σ 62 v2.toNatClampNeg (v1_1 &&& 16777215) →
      ∀ v1_3 : Int32, v1_3 = (v1_1 >>> (24 &&& 31)) →
      ∀ v2_4 : Int32, v2_4 = v2 + 1 →
      wbX6_addTerm_4 post n v1_3 v2_4 σ_2)))))
def wpX6_addTerm   (σ : St) (post : St → Prop) : Prop :=
  ∃ n, wbX6_addTerm_4 post n 0 0 σ
set_option maxRecDepth 20000 in
set_option maxHeartbeats 4000000 in
theorem gbX6_addTerm_4 {X : XT} {G : GT} {l : Launch} {d : Nat}  {post : St → Prop} (C : Cx X G cX6_addTerm RX6) (hr : Rt X G none (fun v τ => v = none ∧ post τ)) (hR : Rm X l d) (hnl : X.2.2.2.2.2.2.2.2.2.2.1 = 3)  (hd : 1 ≤ d)   
    : ∀ (n : Nat) (v1 : Int32) (v2 : Int32) (σ : St), wbX6_addTerm_4   post n v1 v2 σ → Go X G 4 [(0, .ref (G.2.2.1 60)), (1, .int v1), (2, .int v2)] [] σ := by
  intro n
  induction n with
  | zero => intro v1 v2 σ hw; exact hw.elim
  | succ n ih =>
    intro v1 v2 σ hw
    have hw : ((24 ≤ v2 →
      post σ) ∧
    (¬ 24 ≤ v2 →
      vp_in v2 24 ∧ (
      vp_in v2 24 ∧ (
      ∀ v1_1 : Int32, v1_1 = (v1 + ((gI σ 62 v2.toNatClampNeg) + (gI σ 61 v2.toNatClampNeg))) →
      vp_in v2 24 ∧ (
      ∀ σ_2 : St, σ_2 = sI σ 62 v2.toNatClampNeg (v1_1 &&& 16777215) →
      ∀ v1_3 : Int32, v1_3 = (v1_1 >>> (24 &&& 31)) →
      ∀ v2_4 : Int32, v2_4 = v2 + 1 →
      wbX6_addTerm_4 post n v1_3 v2_4 σ_2))))) := hw
    refine go_iload_n C 2 rfl rfl dX6_addTerm_4 ?_
    refine go_bipush (v := 24) C rfl dX6_addTerm_5 ?_
    refine go_icmp_ge C 47 rfl dX6_addTerm_7 (fun hc => ?_) (fun hc => ?_)
    · replace hw := hw.1 hc
      exact go_vret C hr hw dX6_addTerm_47
    · replace hw := hw.2 hc
      refine go_iload_n C 1 rfl rfl dX6_addTerm_10 ?_
      refine go_aload_n C 0 rfl rfl dX6_addTerm_11 ?_
      refine go_get (v := .ref (G.2.2.1 62)) C (shX6 G) ltX6 lkX6_13 rfl dX6_addTerm_12 ?_
      refine go_iload_n C 2 rfl rfl dX6_addTerm_15 ?_
      refine go_iald C (saX6_sum G) laX6_sum hw.1 dX6_addTerm_16 ?_
      replace hw := hw.2
      refine go_aload_n C 0 rfl rfl dX6_addTerm_17 ?_
      refine go_get (v := .ref (G.2.2.1 61)) C (shX6 G) ltX6 lkX6_9 rfl dX6_addTerm_18 ?_
      refine go_iload_n C 2 rfl rfl dX6_addTerm_21 ?_
      refine go_iald C (saX6_term G) laX6_term hw.1 dX6_addTerm_22 ?_
      replace hw := hw.2
      refine go_iadd C dX6_addTerm_23 ?_
      refine go_iadd C dX6_addTerm_24 ?_
      refine go_topi (fun v1_1 ev1_1 => ?_)
      replace hw := hw v1_1 ev1_1
      refine go_istore_n (lv2 := [(1, .int v1_1), (0, .ref (G.2.2.1 60)), (2, .int v2)]) C rfl (by rw [hnl]; decide) rfl dX6_addTerm_25 ?_
      refine go_aload_n C 1 rfl rfl dX6_addTerm_26 ?_
      refine go_get (v := .ref (G.2.2.1 62)) C (shX6 G) ltX6 lkX6_13 rfl dX6_addTerm_27 ?_
      refine go_iload_n C 2 rfl rfl dX6_addTerm_30 ?_
      refine go_iload_n C 0 rfl rfl dX6_addTerm_31 ?_
      refine go_ldc (v := 16777215) C kcX6_53 dX6_addTerm_32 ?_
      refine go_iand C dX6_addTerm_34 ?_
      refine go_iast C (saX6_sum G) laX6_sum hw.1 dX6_addTerm_35 (go_nm fun σ_2 eσ_2 => ?_)
      replace hw := hw.2 σ_2 eσ_2
      refine go_iload_n C 0 rfl rfl dX6_addTerm_36 ?_
      refine go_bipush (v := 24) C rfl dX6_addTerm_37 ?_
      refine go_ishr C dX6_addTerm_39 ?_
      refine go_topi (fun v1_3 ev1_3 => ?_)
      replace hw := hw v1_3 ev1_3
      refine go_istore_n (lv2 := [(1, .int v1_3), (0, .ref (G.2.2.1 60)), (2, .int v2)]) C rfl (by rw [hnl]; decide) rfl dX6_addTerm_40 ?_
      obtain ⟨v2_4, ev2_4⟩ : ∃ z : Int32, z = v2 + 1 := ⟨_, rfl⟩
      replace hw := hw v2_4 ev2_4
      refine go_iinc (v := v2_4) (lv2 := [(2, .int v2_4), (1, .int v1_3), (0, .ref (G.2.2.1 60))]) C 2 rfl (by rw [ev2_4]; rfl) (by rw [hnl]; decide) rfl dX6_addTerm_41 ?_
      refine go_goto C 4 rfl dX6_addTerm_44 ?_
      refine go_sub [2, 1, 0] rfl ?_
      exact ih _ _ _ hw
set_option maxRecDepth 20000 in
set_option maxHeartbeats 4000000 in
theorem spX6_addTerm {l : Launch} {G : GT} {d : Nat}  (hd : 1 ≤ d)    {σ : St} {post : St → Prop} (hw : wpX6_addTerm   σ post) : Sp l G d yX6_addTerm cX6_addTerm 3 none [.ref (G.2.2.1 60)] σ (fun v τ => v = none ∧ post τ) := by
  refine Sp.of (by decide) (by decide) fun X C hr hR hnl => ?_
  show Go X G 0 [(0, .ref (G.2.2.1 60))] [] σ
  have hw : ∃ n, wbX6_addTerm_4 post n 0 0 σ := hw
  refine go_iconst (v := 0) C rfl dX6_addTerm_0 ?_
  refine go_istore_n (lv2 := [(1, .int 0), (0, .ref (G.2.2.1 60))]) C rfl (by rw [hnl]; decide) rfl dX6_addTerm_1 ?_
  refine go_iconst (v := 0) C rfl dX6_addTerm_2 ?_
  refine go_istore_n (lv2 := [(2, .int 0), (1, .int 0), (0, .ref (G.2.2.1 60))]) C rfl (by rw [hnl]; decide) rfl dX6_addTerm_3 ?_
  refine go_sub [2, 1, 0] rfl ?_
  obtain ⟨n_0, hw⟩ := hw
  exact (gbX6_addTerm_4 C hr hR hnl hd) n_0 _ _ _ hw
-- java/util/Arrays.fill([II)V
def wbJ7_fill_53178_5 (q1 : Nat) (n1 : Nat)  (post : St → Prop) : Nat → Int32 → Int32 → Int32 → St → Prop
  | 0, _, _, _, _ => False
  | n + 1, v1, v2, v3, σ =>
    ((v3 ≤ v2 →
      post σ) ∧
    (¬ v3 ≤ v2 →
      vp_in v2 n1 ∧ (
      ∀ σ_1 : St, σ_1 = sI σ q1 v2.toNatClampNeg v1 →
      ∀ v2_2 : Int32, v2_2 = v2 + 1 →
      wbJ7_fill_53178_5 q1 n1 post n v1 v2_2 v3 σ_1)))
def wpJ7_fill_53178 (q1 : Nat) (n1 : Nat) (a2 : Int32) (σ : St) (post : St → Prop) : Prop :=
  ∀ v3_1 : Int32, v3_1 = (Int32.ofNat n1) →
  ∃ n, wbJ7_fill_53178_5 q1 n1 post n a2 0 v3_1 σ
set_option maxRecDepth 20000 in
set_option maxHeartbeats 4000000 in
theorem gbJ7_fill_53178_5 {X : XT} {G : GT} {l : Launch} {d : Nat} {q1 : Nat} {n1 : Nat} {post : St → Prop} (C : Cx X G cJ7_fill_53178 RJ7) (hr : Rt X G none (fun v τ => v = none ∧ post τ)) (hR : Rm X l d) (hnl : X.2.2.2.2.2.2.2.2.2.2.1 = 4)  (hd : 1 ≤ d) (hsq1 : ∀ x, wcc G q1 x = .inl (G.2.1 0, n1, .inl x.1)) (hlq1 : q1 < NC)  
    : ∀ (n : Nat) (v1 : Int32) (v2 : Int32) (v3 : Int32) (σ : St), wbJ7_fill_53178_5 q1 n1  post n v1 v2 v3 σ → Go X G 5 [(0, .ref (G.2.2.1 q1)), (1, .int v1), (2, .int v2), (3, .int v3)] [] σ := by
  intro n
  induction n with
  | zero => intro v1 v2 v3 σ hw; exact hw.elim
  | succ n ih =>
    intro v1 v2 v3 σ hw
    have hw : ((v3 ≤ v2 →
      post σ) ∧
    (¬ v3 ≤ v2 →
      vp_in v2 n1 ∧ (
      ∀ σ_1 : St, σ_1 = sI σ q1 v2.toNatClampNeg v1 →
      ∀ v2_2 : Int32, v2_2 = v2 + 1 →
      wbJ7_fill_53178_5 q1 n1 post n v1 v2_2 v3 σ_1))) := hw
    refine go_iload_n C 2 rfl rfl dJ7_fill_53178_5 ?_
    refine go_iload_n C 3 rfl rfl dJ7_fill_53178_6 ?_
    refine go_icmp_ge C 20 rfl dJ7_fill_53178_7 (fun hc => ?_) (fun hc => ?_)
    · replace hw := hw.1 hc
      exact go_vret C hr hw dJ7_fill_53178_20
    · replace hw := hw.2 hc
      refine go_aload_n C 0 rfl rfl dJ7_fill_53178_10 ?_
      refine go_iload_n C 2 rfl rfl dJ7_fill_53178_11 ?_
      refine go_iload_n C 1 rfl rfl dJ7_fill_53178_12 ?_
      refine go_iast C hsq1 hlq1 hw.1 dJ7_fill_53178_13 (go_nm fun σ_1 eσ_1 => ?_)
      replace hw := hw.2 σ_1 eσ_1
      obtain ⟨v2_2, ev2_2⟩ : ∃ z : Int32, z = v2 + 1 := ⟨_, rfl⟩
      replace hw := hw v2_2 ev2_2
      refine go_iinc (v := v2_2) (lv2 := [(2, .int v2_2), (0, .ref (G.2.2.1 q1)), (1, .int v1), (3, .int v3)]) C 2 rfl (by rw [ev2_2]; rfl) (by rw [hnl]; decide) rfl dJ7_fill_53178_14 ?_
      refine go_goto C 5 rfl dJ7_fill_53178_17 ?_
      refine go_sub [1, 2, 0, 3] rfl ?_
      exact ih _ _ _ _ hw
set_option maxRecDepth 20000 in
set_option maxHeartbeats 4000000 in
theorem spJ7_fill_53178 {l : Launch} {G : GT} {d : Nat}  (hd : 1 ≤ d) {q1 : Nat} {n1 : Nat} (hsq1 : ∀ x, wcc G q1 x = .inl (G.2.1 0, n1, .inl x.1)) (hlq1 : q1 < NC) {a2 : Int32} {σ : St} {post : St → Prop} (hw : wpJ7_fill_53178 q1 n1 a2 σ post) : Sp l G d yJ7_fill_53178 cJ7_fill_53178 4 none [.ref (G.2.2.1 q1), .int a2] σ (fun v τ => v = none ∧ post τ) := by
  refine Sp.of (by decide) (by decide) fun X C hr hR hnl => ?_
  show Go X G 0 [(0, .ref (G.2.2.1 q1)), (1, .int a2)] [] σ
  have hw : ∀ v3_1 : Int32, v3_1 = (Int32.ofNat n1) →
  ∃ n, wbJ7_fill_53178_5 q1 n1 post n a2 0 v3_1 σ := hw
  refine go_iconst (v := 0) C rfl dJ7_fill_53178_0 ?_
  refine go_istore_n (lv2 := [(2, .int 0), (0, .ref (G.2.2.1 q1)), (1, .int a2)]) C rfl (by rw [hnl]; decide) rfl dJ7_fill_53178_1 ?_
  refine go_aload_n C 1 rfl rfl dJ7_fill_53178_2 ?_
  refine go_alen (t0 := 0) (v := (Int32.ofNat n1)) C hsq1 hlq1 rfl rfl dJ7_fill_53178_3 ?_
  refine go_topi (fun v3_1 ev3_1 => ?_)
  replace hw := hw v3_1 ev3_1
  refine go_istore_n (lv2 := [(3, .int v3_1), (2, .int 0), (0, .ref (G.2.2.1 q1)), (1, .int a2)]) C rfl (by rw [hnl]; decide) rfl dJ7_fill_53178_4 ?_
  refine go_sub [2, 3, 1, 0] rfl ?_
  obtain ⟨n_0, hw⟩ := hw
  exact (gbJ7_fill_53178_5 C hr hR hnl hd hsq1 hlq1) n_0 _ _ _ _ hw
-- CradleNames$Odds.power([II)V
def wbX6_power_11 (q1 : Nat) (n1 : Nat)  (post : St → Prop) : Nat → Int32 → Int32 → St → Prop
  | 0, _, _, _ => False
  | n + 1, v2, v3, σ =>
    (((gI σ 60 3) ≤ v3 →
      post σ) ∧
    (¬ (gI σ 60 3) ≤ v3 →
      wpX6_times q1 n1 v2 σ (fun σ_2 =>
      ∀ v3_3 : Int32, v3_3 = v3 + 1 →
      wbX6_power_11 q1 n1 post n v2 v3_3 σ_2)))
def wpX6_power (q1 : Nat) (n1 : Nat) (a2 : Int32) (σ : St) (post : St → Prop) : Prop :=
  wpJ7_fill_53178 q1 n1 0 σ (fun σ_2 =>
  vp_in 0 n1 ∧ (
  ∀ σ_3 : St, σ_3 = sI σ_2 q1 (0 : Int32).toNatClampNeg 1 →
  ∃ n, wbX6_power_11 q1 n1 post n a2 0 σ_3))
set_option maxRecDepth 20000 in
set_option maxHeartbeats 4000000 in
theorem gbX6_power_11 {X : XT} {G : GT} {l : Launch} {d : Nat} {q1 : Nat} {n1 : Nat} {post : St → Prop} (C : Cx X G cX6_power RX6) (hr : Rt X G none (fun v τ => v = none ∧ post τ)) (hR : Rm X l d) (hnl : X.2.2.2.2.2.2.2.2.2.2.1 = 4)  (hd : 2 ≤ d) (hsq1 : ∀ x, wcc G q1 x = .inl (G.2.1 0, n1, .inl x.1)) (hlq1 : q1 < NC)  
    : ∀ (n : Nat) (v2 : Int32) (v3 : Int32) (σ : St), wbX6_power_11 q1 n1  post n v2 v3 σ → Go X G 11 [(0, .ref (G.2.2.1 60)), (1, .ref (G.2.2.1 q1)), (2, .int v2), (3, .int v3)] [] σ := by
  intro n
  induction n with
  | zero => intro v2 v3 σ hw; exact hw.elim
  | succ n ih =>
    intro v2 v3 σ hw
    have hw : (((gI σ 60 3) ≤ v3 →
      post σ) ∧
    (¬ (gI σ 60 3) ≤ v3 →
      wpX6_times q1 n1 v2 σ (fun σ_2 =>
      ∀ v3_3 : Int32, v3_3 = v3 + 1 →
      wbX6_power_11 q1 n1 post n v2 v3_3 σ_2))) := hw
    refine go_iload_n C 3 rfl rfl dX6_power_11 ?_
    refine go_aload_n C 0 rfl rfl dX6_power_12 ?_
    refine go_get (v := .int (gI σ 60 3)) C (shX6 G) ltX6 lkX6_19 rfl dX6_power_13 ?_
    refine go_icmp_ge C 30 rfl dX6_power_16 (fun hc => ?_) (fun hc => ?_)
    · replace hw := hw.1 hc
      exact go_vret C hr hw dX6_power_30
    · replace hw := hw.2 hc
      refine go_aload_n C 1 rfl rfl dX6_power_19 ?_
      refine go_iload_n C 2 rfl rfl dX6_power_20 ?_
      refine go_callS (as := [.ref (G.2.2.1 q1), .int v2]) C hR cwX6_41 (Nat.le_trans (by decide) hd) (by decide) rfl rfl (by decide) dX6_power_21 (spX6_times (Nat.le_refl _) hsq1 hlq1 hw) (fun v_ τ_ hw => ?_)
      obtain ⟨rfl, hw⟩ := hw
      obtain ⟨σ_2, rfl⟩ : ∃ z, z = τ_ := ⟨_, rfl⟩
      obtain ⟨v3_3, ev3_3⟩ : ∃ z : Int32, z = v3 + 1 := ⟨_, rfl⟩
      replace hw := hw v3_3 ev3_3
      refine go_iinc (v := v3_3) (lv2 := [(3, .int v3_3), (0, .ref (G.2.2.1 60)), (1, .ref (G.2.2.1 q1)), (2, .int v2)]) C 3 rfl (by rw [ev3_3]; rfl) (by rw [hnl]; decide) rfl dX6_power_24 ?_
      refine go_goto C 11 rfl dX6_power_27 ?_
      refine go_sub [1, 2, 3, 0] rfl ?_
      exact ih _ _ _ hw
set_option maxRecDepth 20000 in
set_option maxHeartbeats 4000000 in
theorem spX6_power {l : Launch} {G : GT} {d : Nat}  (hd : 2 ≤ d) {q1 : Nat} {n1 : Nat} (hsq1 : ∀ x, wcc G q1 x = .inl (G.2.1 0, n1, .inl x.1)) (hlq1 : q1 < NC) {a2 : Int32} {σ : St} {post : St → Prop} (hw : wpX6_power q1 n1 a2 σ post) : Sp l G d yX6_power cX6_power 4 none [.ref (G.2.2.1 60), .ref (G.2.2.1 q1), .int a2] σ (fun v τ => v = none ∧ post τ) := by
  refine Sp.of (by decide) (by decide) fun X C hr hR hnl => ?_
  show Go X G 0 [(0, .ref (G.2.2.1 60)), (1, .ref (G.2.2.1 q1)), (2, .int a2)] [] σ
  have hw : wpJ7_fill_53178 q1 n1 0 σ (fun σ_2 =>
  vp_in 0 n1 ∧ (
  ∀ σ_3 : St, σ_3 = sI σ_2 q1 (0 : Int32).toNatClampNeg 1 →
  ∃ n, wbX6_power_11 q1 n1 post n a2 0 σ_3)) := hw
  refine go_aload_n C 1 rfl rfl dX6_power_0 ?_
  refine go_iconst (v := 0) C rfl dX6_power_1 ?_
  refine go_callS (as := [.ref (G.2.2.1 q1), .int 0]) C hR cwX6_29 (Nat.le_trans (by decide) hd) (by decide) rfl rfl (by decide) dX6_power_2 (spJ7_fill_53178 (Nat.le_refl _) hsq1 hlq1 hw) (fun v_ τ_ hw => ?_)
  obtain ⟨rfl, hw⟩ := hw
  obtain ⟨σ_2, rfl⟩ : ∃ z, z = τ_ := ⟨_, rfl⟩
  refine go_aload_n C 1 rfl rfl dX6_power_5 ?_
  refine go_iconst (v := 0) C rfl dX6_power_6 ?_
  refine go_iconst (v := 1) C rfl dX6_power_7 ?_
  refine go_iast C hsq1 hlq1 hw.1 dX6_power_8 (go_nm fun σ_3 eσ_3 => ?_)
  replace hw := hw.2 σ_3 eσ_3
  refine go_iconst (v := 0) C rfl dX6_power_9 ?_
  refine go_istore_n (lv2 := [(3, .int 0), (0, .ref (G.2.2.1 60)), (1, .ref (G.2.2.1 q1)), (2, .int a2)]) C rfl (by rw [hnl]; decide) rfl dX6_power_10 ?_
  refine go_sub [1, 2, 3, 0] rfl ?_
  obtain ⟨n_0, hw⟩ := hw
  exact (gbX6_power_11 C hr hR hnl hd hsq1 hlq1) n_0 _ _ _ hw
-- CradleNames$Odds.sumIsAtMostWhole()Z
def wbX6_sumIsAtMostWhole_3   (post : Int32 → St → Prop) : Nat → Int32 → St → Prop
  | 0, _, _ => False
  | n + 1, v1, σ =>
    ((v1 < 0 →
      post 1 σ) ∧
    (¬ v1 < 0 →
      vp_in v1 24 ∧ (
      vp_in v1 24 ∧ (
      (((gI σ 62 v1.toNatClampNeg) = (gI σ 63 v1.toNatClampNeg) →
        ∀ v1_1 : Int32, v1_1 = v1 + (-1) →
        wbX6_sumIsAtMostWhole_3 post n v1_1 σ) ∧
      (¬ (gI σ 62 v1.toNatClampNeg) = (gI σ 63 v1.toNatClampNeg) →
        vp_in v1 24 ∧ (
        vp_in v1 24 ∧ (
        (((gI σ 63 v1.toNatClampNeg) ≤ (gI σ 62 v1.toNatClampNeg) →
          post 0 σ) ∧
        (¬ (gI σ 63 v1.toNatClampNeg) ≤ (gI σ 62 v1.toNatClampNeg) →
          post 1 σ))))))))))
def wpX6_sumIsAtMostWhole   (σ : St) (post : Int32 → St → Prop) : Prop :=
  ∃ n, wbX6_sumIsAtMostWhole_3 post n 23 σ
set_option maxRecDepth 20000 in
set_option maxHeartbeats 4000000 in
theorem gbX6_sumIsAtMostWhole_3 {X : XT} {G : GT} {l : Launch} {d : Nat}  {post : Int32 → St → Prop} (C : Cx X G cX6_sumIsAtMostWhole RX6) (hr : Rt X G (some .boolean) (fun v τ => ∃ r : Int32, v = some (.int r) ∧ post r τ)) (hR : Rm X l d) (hnl : X.2.2.2.2.2.2.2.2.2.2.1 = 2)  (hd : 1 ≤ d)   
    : ∀ (n : Nat) (v1 : Int32) (σ : St), wbX6_sumIsAtMostWhole_3   post n v1 σ → Go X G 3 [(0, .ref (G.2.2.1 60)), (1, .int v1)] [] σ := by
  intro n
  induction n with
  | zero => intro v1 σ hw; exact hw.elim
  | succ n ih =>
    intro v1 σ hw
    have hw : ((v1 < 0 →
      post 1 σ) ∧
    (¬ v1 < 0 →
      vp_in v1 24 ∧ (
      vp_in v1 24 ∧ (
      (((gI σ 62 v1.toNatClampNeg) = (gI σ 63 v1.toNatClampNeg) →
        ∀ v1_1 : Int32, v1_1 = v1 + (-1) →
        wbX6_sumIsAtMostWhole_3 post n v1_1 σ) ∧
      (¬ (gI σ 62 v1.toNatClampNeg) = (gI σ 63 v1.toNatClampNeg) →
        vp_in v1 24 ∧ (
        vp_in v1 24 ∧ (
        (((gI σ 63 v1.toNatClampNeg) ≤ (gI σ 62 v1.toNatClampNeg) →
          post 0 σ) ∧
        (¬ (gI σ 63 v1.toNatClampNeg) ≤ (gI σ 62 v1.toNatClampNeg) →
          post 1 σ)))))))))) := hw
    refine go_iload_n C 1 rfl rfl dX6_sumIsAtMostWhole_3 ?_
    refine go_if_lt C 49 rfl dX6_sumIsAtMostWhole_4 (fun hc => ?_) (fun hc => ?_)
    · replace hw := hw.1 hc
      refine go_iconst (v := 1) C rfl dX6_sumIsAtMostWhole_49 ?_
      exact go_zret C hr rfl ⟨_, rfl, hw⟩ dX6_sumIsAtMostWhole_50
    · replace hw := hw.2 hc
      refine go_aload_n C 0 rfl rfl dX6_sumIsAtMostWhole_7 ?_
      refine go_get (v := .ref (G.2.2.1 62)) C (shX6 G) ltX6 lkX6_13 rfl dX6_sumIsAtMostWhole_8 ?_
      refine go_iload_n C 1 rfl rfl dX6_sumIsAtMostWhole_11 ?_
      refine go_iald C (saX6_sum G) laX6_sum hw.1 dX6_sumIsAtMostWhole_12 ?_
      replace hw := hw.2
      refine go_aload_n C 0 rfl rfl dX6_sumIsAtMostWhole_13 ?_
      refine go_get (v := .ref (G.2.2.1 63)) C (shX6 G) ltX6 lkX6_16 rfl dX6_sumIsAtMostWhole_14 ?_
      refine go_iload_n C 1 rfl rfl dX6_sumIsAtMostWhole_17 ?_
      refine go_iald C (saX6_whole G) laX6_whole hw.1 dX6_sumIsAtMostWhole_18 ?_
      replace hw := hw.2
      refine go_icmp_eq C 43 rfl dX6_sumIsAtMostWhole_19 (fun hc => ?_) (fun hc => ?_)
      · replace hw := hw.1 hc
        obtain ⟨v1_1, ev1_1⟩ : ∃ z : Int32, z = v1 + (-1) := ⟨_, rfl⟩
        replace hw := hw v1_1 ev1_1
        refine go_iinc (v := v1_1) (lv2 := [(1, .int v1_1), (0, .ref (G.2.2.1 60))]) C 1 rfl (by rw [ev1_1]; rfl) (by rw [hnl]; decide) rfl dX6_sumIsAtMostWhole_43 ?_
        refine go_goto C 3 rfl dX6_sumIsAtMostWhole_46 ?_
        refine go_sub [1, 0] rfl ?_
        exact ih _ _ hw
      · replace hw := hw.2 hc
        refine go_aload_n C 0 rfl rfl dX6_sumIsAtMostWhole_22 ?_
        refine go_get (v := .ref (G.2.2.1 62)) C (shX6 G) ltX6 lkX6_13 rfl dX6_sumIsAtMostWhole_23 ?_
        refine go_iload_n C 1 rfl rfl dX6_sumIsAtMostWhole_26 ?_
        refine go_iald C (saX6_sum G) laX6_sum hw.1 dX6_sumIsAtMostWhole_27 ?_
        replace hw := hw.2
        refine go_aload_n C 0 rfl rfl dX6_sumIsAtMostWhole_28 ?_
        refine go_get (v := .ref (G.2.2.1 63)) C (shX6 G) ltX6 lkX6_16 rfl dX6_sumIsAtMostWhole_29 ?_
        refine go_iload_n C 1 rfl rfl dX6_sumIsAtMostWhole_32 ?_
        refine go_iald C (saX6_whole G) laX6_whole hw.1 dX6_sumIsAtMostWhole_33 ?_
        replace hw := hw.2
        refine go_icmp_ge C 41 rfl dX6_sumIsAtMostWhole_34 (fun hc => ?_) (fun hc => ?_)
        · replace hw := hw.1 hc
          refine go_iconst (v := 0) C rfl dX6_sumIsAtMostWhole_41 ?_
          exact go_zret C hr rfl ⟨_, rfl, hw⟩ dX6_sumIsAtMostWhole_42
        · replace hw := hw.2 hc
          refine go_iconst (v := 1) C rfl dX6_sumIsAtMostWhole_37 ?_
          refine go_goto C 42 rfl dX6_sumIsAtMostWhole_38 ?_
          exact go_zret C hr rfl ⟨_, rfl, hw⟩ dX6_sumIsAtMostWhole_42
set_option maxRecDepth 20000 in
set_option maxHeartbeats 4000000 in
theorem spX6_sumIsAtMostWhole {l : Launch} {G : GT} {d : Nat}  (hd : 1 ≤ d)    {σ : St} {post : Int32 → St → Prop} (hw : wpX6_sumIsAtMostWhole   σ post) : Sp l G d yX6_sumIsAtMostWhole cX6_sumIsAtMostWhole 2 (some .boolean) [.ref (G.2.2.1 60)] σ (fun v τ => ∃ r : Int32, v = some (.int r) ∧ post r τ) := by
  refine Sp.of (by decide) (by decide) fun X C hr hR hnl => ?_
  show Go X G 0 [(0, .ref (G.2.2.1 60))] [] σ
  have hw : ∃ n, wbX6_sumIsAtMostWhole_3 post n 23 σ := hw
  refine go_bipush (v := 23) C rfl dX6_sumIsAtMostWhole_0 ?_
  refine go_istore_n (lv2 := [(1, .int 23), (0, .ref (G.2.2.1 60))]) C rfl (by rw [hnl]; decide) rfl dX6_sumIsAtMostWhole_2 ?_
  refine go_sub [1, 0] rfl ?_
  obtain ⟨n_0, hw⟩ := hw
  exact (gbX6_sumIsAtMostWhole_3 C hr hR hnl hd) n_0 _ _ hw
-- CradleNames$Odds.isRare(III)Z
def wbX6_isRare_90  (K65 : Int32 → Int32 → Int32 → Int32 → St → Prop) (post : Int32 → St → Prop) (v1 : Int32) (v2 : Int32) (v3 : Int32) (v4 : Int32) (σ : St) : Prop :=
  wpX6_times 61 24 (((gI σ 60 3) - v4) * (gI σ 60 4)) σ (fun σ_2 =>
  wpX6_over 61 24 ((v4 + 1) * (gI σ_2 60 5)) σ_2 (fun σ_4 =>
  ∀ v4_5 : Int32, v4_5 = v4 + 1 →
  K65 v1 v2 v3 v4_5 σ_4))
def wbX6_isRare_65  (K131 : Int32 → St → Prop) (post : Int32 → St → Prop) : Nat → Int32 → Int32 → Int32 → Int32 → St → Prop
  | 0, _, _, _, _, _ => False
  | n + 1, v1, v2, v3, v4, σ =>
    ((v2 < v4 →
      K131 v3 σ) ∧
    (¬ v2 < v4 →
      (((gI σ 60 3) < v4 →
        K131 v3 σ) ∧
      (¬ (gI σ 60 3) < v4 →
        ((v4 < v1 →
          wbX6_isRare_90 (wbX6_isRare_65 K131 post n) post v1 v2 v3 v4 σ) ∧
        (¬ v4 < v1 →
          wpX6_addTerm  σ (fun σ_2 =>
          wbX6_isRare_90 (wbX6_isRare_65 K131 post n) post v1 v2 v3 v4 σ_2)))))))
def wbX6_isRare_131   (post : Int32 → St → Prop) (v3 : Int32) (σ : St) : Prop :=
  wpX6_times 62 24 v3 σ (fun σ_2 =>
  wpX6_power 63 24 ((gI σ_2 60 4) + (gI σ_2 60 5)) σ_2 (fun σ_4 =>
  wpX6_sumIsAtMostWhole  σ_4 (fun r_5 σ_6 =>
  (r_5 = 0 ∨ r_5 = 1) ∧ post r_5 σ_6)))
def wpX6_isRare  (a1 : Int32) (a2 : Int32) (a3 : Int32) (σ : St) (post : Int32 → St → Prop) : Prop :=
  wpJ7_fill_53178 62 24 0 σ (fun σ_2 =>
  ((¬ (gI σ_2 60 5) = 0 →
    wpX6_power 61 24 (gI σ_2 60 5) σ_2 (fun σ_4 =>
    ∃ n, wbX6_isRare_65 (wbX6_isRare_131 post) post n a1 a2 a3 0 σ_4)) ∧
  ((gI σ_2 60 5) = 0 →
    wpX6_power 61 24 (gI σ_2 60 4) σ_2 (fun σ_6 =>
    (((gI σ_6 60 3) < a1 →
      wbX6_isRare_131 post a3 σ_6) ∧
    (¬ (gI σ_6 60 3) < a1 →
      ((a2 < (gI σ_6 60 3) →
        wbX6_isRare_131 post a3 σ_6) ∧
      (¬ a2 < (gI σ_6 60 3) →
        wpX6_addTerm  σ_6 (fun σ_8 =>
        wbX6_isRare_131 post a3 σ_8)))))))))
set_option maxRecDepth 20000 in
set_option maxHeartbeats 4000000 in
theorem gbX6_isRare_90 {X : XT} {G : GT} {l : Launch} {d : Nat}  {post : Int32 → St → Prop} (C : Cx X G cX6_isRare RX6) (hr : Rt X G (some .boolean) (fun v τ => ∃ r : Int32, v = some (.int r) ∧ post r τ)) (hR : Rm X l d) (hnl : X.2.2.2.2.2.2.2.2.2.2.1 = 5)  (hd : 3 ≤ d)  {K65 : Int32 → Int32 → Int32 → Int32 → St → Prop} (hK65 : ∀ (v1 : Int32) (v2 : Int32) (v3 : Int32) (v4 : Int32) (σ : St), K65 v1 v2 v3 v4 σ → Go X G 65 [(0, .ref (G.2.2.1 60)), (1, .int v1), (2, .int v2), (3, .int v3), (4, .int v4)] [] σ)
    : ∀ (v1 : Int32) (v2 : Int32) (v3 : Int32) (v4 : Int32) (σ : St), wbX6_isRare_90  K65 post v1 v2 v3 v4 σ → Go X G 90 [(0, .ref (G.2.2.1 60)), (1, .int v1), (2, .int v2), (3, .int v3), (4, .int v4)] [] σ := by
  intro v1 v2 v3 v4 σ hw
  have hw : wpX6_times 61 24 (((gI σ 60 3) - v4) * (gI σ 60 4)) σ (fun σ_2 =>
  wpX6_over 61 24 ((v4 + 1) * (gI σ_2 60 5)) σ_2 (fun σ_4 =>
  ∀ v4_5 : Int32, v4_5 = v4 + 1 →
  K65 v1 v2 v3 v4_5 σ_4)) := hw
  refine go_aload_n C 0 rfl rfl dX6_isRare_90 ?_
  refine go_get (v := .ref (G.2.2.1 61)) C (shX6 G) ltX6 lkX6_9 rfl dX6_isRare_91 ?_
  refine go_aload_n C 0 rfl rfl dX6_isRare_94 ?_
  refine go_get (v := .int (gI σ 60 3)) C (shX6 G) ltX6 lkX6_19 rfl dX6_isRare_95 ?_
  refine go_iload C 4 rfl dX6_isRare_98 ?_
  refine go_isub C dX6_isRare_100 ?_
  refine go_aload_n C 0 rfl rfl dX6_isRare_101 ?_
  refine go_get (v := .int (gI σ 60 4)) C (shX6 G) ltX6 lkX6_23 rfl dX6_isRare_102 ?_
  refine go_imul C dX6_isRare_105 ?_
  refine go_callS (as := [.ref (G.2.2.1 61), .int (((gI σ 60 3) - v4) * (gI σ 60 4))]) C hR cwX6_41 (Nat.le_trans (by decide) hd) (by decide) rfl rfl (by decide) dX6_isRare_106 (spX6_times (Nat.le_refl _) (saX6_term G) laX6_term hw) (fun v_ τ_ hw => ?_)
  obtain ⟨rfl, hw⟩ := hw
  obtain ⟨σ_2, rfl⟩ : ∃ z, z = τ_ := ⟨_, rfl⟩
  refine go_aload_n C 0 rfl rfl dX6_isRare_109 ?_
  refine go_get (v := .ref (G.2.2.1 61)) C (shX6 G) ltX6 lkX6_9 rfl dX6_isRare_110 ?_
  refine go_iload C 4 rfl dX6_isRare_113 ?_
  refine go_iconst (v := 1) C rfl dX6_isRare_115 ?_
  refine go_iadd C dX6_isRare_116 ?_
  refine go_aload_n C 0 rfl rfl dX6_isRare_117 ?_
  refine go_get (v := .int (gI σ_2 60 5)) C (shX6 G) ltX6 lkX6_26 rfl dX6_isRare_118 ?_
  refine go_imul C dX6_isRare_121 ?_
  refine go_callS (as := [.ref (G.2.2.1 61), .int ((v4 + 1) * (gI σ_2 60 5))]) C hR cwX6_44 (Nat.le_trans (by decide) hd) (by decide) rfl rfl (by decide) dX6_isRare_122 (spX6_over (Nat.le_refl _) (saX6_term G) laX6_term hw) (fun v_ τ_ hw => ?_)
  obtain ⟨rfl, hw⟩ := hw
  obtain ⟨σ_4, rfl⟩ : ∃ z, z = τ_ := ⟨_, rfl⟩
  obtain ⟨v4_5, ev4_5⟩ : ∃ z : Int32, z = v4 + 1 := ⟨_, rfl⟩
  replace hw := hw v4_5 ev4_5
  refine go_iinc (v := v4_5) (lv2 := [(4, .int v4_5), (0, .ref (G.2.2.1 60)), (1, .int v1), (2, .int v2), (3, .int v3)]) C 4 rfl (by rw [ev4_5]; rfl) (by rw [hnl]; decide) rfl dX6_isRare_125 ?_
  refine go_goto C 65 rfl dX6_isRare_128 ?_
  refine go_sub [1, 2, 3, 4, 0] rfl ?_
  exact hK65 _ _ _ _ _ hw
set_option maxRecDepth 20000 in
set_option maxHeartbeats 4000000 in
theorem gbX6_isRare_65 {X : XT} {G : GT} {l : Launch} {d : Nat}  {post : Int32 → St → Prop} (C : Cx X G cX6_isRare RX6) (hr : Rt X G (some .boolean) (fun v τ => ∃ r : Int32, v = some (.int r) ∧ post r τ)) (hR : Rm X l d) (hnl : X.2.2.2.2.2.2.2.2.2.2.1 = 5)  (hd : 3 ≤ d)  {K131 : Int32 → St → Prop} (hK131 : ∀ (v3 : Int32) (σ : St), K131 v3 σ → Go X G 131 [(0, .ref (G.2.2.1 60)), (3, .int v3)] [] σ)
    : ∀ (n : Nat) (v1 : Int32) (v2 : Int32) (v3 : Int32) (v4 : Int32) (σ : St), wbX6_isRare_65  K131 post n v1 v2 v3 v4 σ → Go X G 65 [(0, .ref (G.2.2.1 60)), (1, .int v1), (2, .int v2), (3, .int v3), (4, .int v4)] [] σ := by
  intro n
  induction n with
  | zero => intro v1 v2 v3 v4 σ hw; exact hw.elim
  | succ n ih =>
    intro v1 v2 v3 v4 σ hw
    have hw : ((v2 < v4 →
      K131 v3 σ) ∧
    (¬ v2 < v4 →
      (((gI σ 60 3) < v4 →
        K131 v3 σ) ∧
      (¬ (gI σ 60 3) < v4 →
        ((v4 < v1 →
          wbX6_isRare_90 (wbX6_isRare_65 K131 post n) post v1 v2 v3 v4 σ) ∧
        (¬ v4 < v1 →
          wpX6_addTerm  σ (fun σ_2 =>
          wbX6_isRare_90 (wbX6_isRare_65 K131 post n) post v1 v2 v3 v4 σ_2))))))) := hw
    refine go_iload C 4 rfl dX6_isRare_65 ?_
    refine go_iload_n C 2 rfl rfl dX6_isRare_67 ?_
    refine go_icmp_gt C 131 rfl dX6_isRare_68 (fun hc => ?_) (fun hc => ?_)
    · replace hw := hw.1 hc
      refine go_sub [0, 3] rfl ?_
      exact hK131 _ _ hw
    · replace hw := hw.2 hc
      refine go_iload C 4 rfl dX6_isRare_71 ?_
      refine go_aload_n C 0 rfl rfl dX6_isRare_73 ?_
      refine go_get (v := .int (gI σ 60 3)) C (shX6 G) ltX6 lkX6_19 rfl dX6_isRare_74 ?_
      refine go_icmp_gt C 131 rfl dX6_isRare_77 (fun hc => ?_) (fun hc => ?_)
      · replace hw := hw.1 hc
        refine go_sub [0, 3] rfl ?_
        exact hK131 _ _ hw
      · replace hw := hw.2 hc
        refine go_iload C 4 rfl dX6_isRare_80 ?_
        refine go_iload_n C 1 rfl rfl dX6_isRare_82 ?_
        refine go_icmp_lt C 90 rfl dX6_isRare_83 (fun hc => ?_) (fun hc => ?_)
        · replace hw := hw.1 hc
          exact (gbX6_isRare_90 C hr hR hnl hd ih) _ _ _ _ _ hw
        · replace hw := hw.2 hc
          refine go_aload_n C 0 rfl rfl dX6_isRare_86 ?_
          refine go_callV (as := []) C hR (shX6 G) ltX6 cwX6_38 (Nat.le_trans (by decide) hd) (by decide) rfl rfl (by decide) dX6_isRare_87 (spX6_addTerm (Nat.le_refl _) hw) (fun v_ τ_ hw => ?_)
          obtain ⟨rfl, hw⟩ := hw
          obtain ⟨σ_2, rfl⟩ : ∃ z, z = τ_ := ⟨_, rfl⟩
          exact (gbX6_isRare_90 C hr hR hnl hd ih) _ _ _ _ _ hw
set_option maxRecDepth 20000 in
set_option maxHeartbeats 4000000 in
theorem gbX6_isRare_131 {X : XT} {G : GT} {l : Launch} {d : Nat}  {post : Int32 → St → Prop} (C : Cx X G cX6_isRare RX6) (hr : Rt X G (some .boolean) (fun v τ => ∃ r : Int32, v = some (.int r) ∧ post r τ)) (hR : Rm X l d) (hnl : X.2.2.2.2.2.2.2.2.2.2.1 = 5)  (hd : 3 ≤ d)   
    : ∀ (v3 : Int32) (σ : St), wbX6_isRare_131   post v3 σ → Go X G 131 [(0, .ref (G.2.2.1 60)), (3, .int v3)] [] σ := by
  intro v3 σ hw
  have hw : wpX6_times 62 24 v3 σ (fun σ_2 =>
  wpX6_power 63 24 ((gI σ_2 60 4) + (gI σ_2 60 5)) σ_2 (fun σ_4 =>
  wpX6_sumIsAtMostWhole  σ_4 (fun r_5 σ_6 =>
  (r_5 = 0 ∨ r_5 = 1) ∧ post r_5 σ_6))) := hw
  refine go_aload_n C 0 rfl rfl dX6_isRare_131 ?_
  refine go_get (v := .ref (G.2.2.1 62)) C (shX6 G) ltX6 lkX6_13 rfl dX6_isRare_132 ?_
  refine go_iload_n C 1 rfl rfl dX6_isRare_135 ?_
  refine go_callS (as := [.ref (G.2.2.1 62), .int v3]) C hR cwX6_41 (Nat.le_trans (by decide) hd) (by decide) rfl rfl (by decide) dX6_isRare_136 (spX6_times (Nat.le_refl _) (saX6_sum G) laX6_sum hw) (fun v_ τ_ hw => ?_)
  obtain ⟨rfl, hw⟩ := hw
  obtain ⟨σ_2, rfl⟩ : ∃ z, z = τ_ := ⟨_, rfl⟩
  refine go_aload_n C 0 rfl rfl dX6_isRare_139 ?_
  refine go_aload_n C 0 rfl rfl dX6_isRare_140 ?_
  refine go_get (v := .ref (G.2.2.1 63)) C (shX6 G) ltX6 lkX6_16 rfl dX6_isRare_141 ?_
  refine go_aload_n C 0 rfl rfl dX6_isRare_144 ?_
  refine go_get (v := .int (gI σ_2 60 4)) C (shX6 G) ltX6 lkX6_23 rfl dX6_isRare_145 ?_
  refine go_aload_n C 0 rfl rfl dX6_isRare_148 ?_
  refine go_get (v := .int (gI σ_2 60 5)) C (shX6 G) ltX6 lkX6_26 rfl dX6_isRare_149 ?_
  refine go_iadd C dX6_isRare_152 ?_
  refine go_callV (as := [.ref (G.2.2.1 63), .int ((gI σ_2 60 4) + (gI σ_2 60 5))]) C hR (shX6 G) ltX6 cwX6_35 (Nat.le_trans (by decide) hd) (by decide) rfl rfl (by decide) dX6_isRare_153 (spX6_power (Nat.le_refl _) (saX6_whole G) laX6_whole hw) (fun v_ τ_ hw => ?_)
  obtain ⟨rfl, hw⟩ := hw
  obtain ⟨σ_4, rfl⟩ : ∃ z, z = τ_ := ⟨_, rfl⟩
  refine go_aload_n C 0 rfl rfl dX6_isRare_156 ?_
  refine go_callV (as := []) C hR (shX6 G) ltX6 cwX6_47 (Nat.le_trans (by decide) hd) (by decide) rfl rfl (by decide) dX6_isRare_157 (spX6_sumIsAtMostWhole (Nat.le_refl _) hw) (fun v_ τ_ hw => ?_)
  obtain ⟨r_5, rfl, hw⟩ := hw
  obtain ⟨σ_6, rfl⟩ : ∃ z, z = τ_ := ⟨_, rfl⟩
  exact go_zret C hr (bool_nar hw.1) ⟨_, rfl, hw.2⟩ dX6_isRare_160
set_option maxRecDepth 20000 in
set_option maxHeartbeats 4000000 in
theorem spX6_isRare {l : Launch} {G : GT} {d : Nat}  (hd : 3 ≤ d)   {a1 : Int32} {a2 : Int32} {a3 : Int32} {σ : St} {post : Int32 → St → Prop} (hw : wpX6_isRare  a1 a2 a3 σ post) : Sp l G d yX6_isRare cX6_isRare 5 (some .boolean) [.ref (G.2.2.1 60), .int a1, .int a2, .int a3] σ (fun v τ => ∃ r : Int32, v = some (.int r) ∧ post r τ) := by
  refine Sp.of (by decide) (by decide) fun X C hr hR hnl => ?_
  show Go X G 0 [(0, .ref (G.2.2.1 60)), (1, .int a1), (2, .int a2), (3, .int a3)] [] σ
  have hw : wpJ7_fill_53178 62 24 0 σ (fun σ_2 =>
  ((¬ (gI σ_2 60 5) = 0 →
    wpX6_power 61 24 (gI σ_2 60 5) σ_2 (fun σ_4 =>
    ∃ n, wbX6_isRare_65 (wbX6_isRare_131 post) post n a1 a2 a3 0 σ_4)) ∧
  ((gI σ_2 60 5) = 0 →
    wpX6_power 61 24 (gI σ_2 60 4) σ_2 (fun σ_6 =>
    (((gI σ_6 60 3) < a1 →
      wbX6_isRare_131 post a3 σ_6) ∧
    (¬ (gI σ_6 60 3) < a1 →
      ((a2 < (gI σ_6 60 3) →
        wbX6_isRare_131 post a3 σ_6) ∧
      (¬ a2 < (gI σ_6 60 3) →
        wpX6_addTerm  σ_6 (fun σ_8 =>
        wbX6_isRare_131 post a3 σ_8))))))))) := hw
  refine go_aload_n C 0 rfl rfl dX6_isRare_0 ?_
  refine go_get (v := .ref (G.2.2.1 62)) C (shX6 G) ltX6 lkX6_13 rfl dX6_isRare_1 ?_
  refine go_iconst (v := 0) C rfl dX6_isRare_4 ?_
  refine go_callS (as := [.ref (G.2.2.1 62), .int 0]) C hR cwX6_29 (Nat.le_trans (by decide) hd) (by decide) rfl rfl (by decide) dX6_isRare_5 (spJ7_fill_53178 (Nat.le_refl _) (saX6_sum G) laX6_sum hw) (fun v_ τ_ hw => ?_)
  obtain ⟨rfl, hw⟩ := hw
  obtain ⟨σ_2, rfl⟩ : ∃ z, z = τ_ := ⟨_, rfl⟩
  refine go_aload_n C 0 rfl rfl dX6_isRare_8 ?_
  refine go_get (v := .int (gI σ_2 60 5)) C (shX6 G) ltX6 lkX6_26 rfl dX6_isRare_9 ?_
  refine go_if_ne C 50 rfl dX6_isRare_12 (fun hc => ?_) (fun hc => ?_)
  · replace hw := hw.1 hc
    refine go_aload_n C 0 rfl rfl dX6_isRare_50 ?_
    refine go_aload_n C 0 rfl rfl dX6_isRare_51 ?_
    refine go_get (v := .ref (G.2.2.1 61)) C (shX6 G) ltX6 lkX6_9 rfl dX6_isRare_52 ?_
    refine go_aload_n C 0 rfl rfl dX6_isRare_55 ?_
    refine go_get (v := .int (gI σ_2 60 5)) C (shX6 G) ltX6 lkX6_26 rfl dX6_isRare_56 ?_
    refine go_callV (as := [.ref (G.2.2.1 61), .int (gI σ_2 60 5)]) C hR (shX6 G) ltX6 cwX6_35 (Nat.le_trans (by decide) hd) (by decide) rfl rfl (by decide) dX6_isRare_59 (spX6_power (Nat.le_refl _) (saX6_term G) laX6_term hw) (fun v_ τ_ hw => ?_)
    obtain ⟨rfl, hw⟩ := hw
    obtain ⟨σ_4, rfl⟩ : ∃ z, z = τ_ := ⟨_, rfl⟩
    refine go_iconst (v := 0) C rfl dX6_isRare_62 ?_
    refine go_istore (lv2 := [(4, .int 0), (0, .ref (G.2.2.1 60)), (1, .int a1), (2, .int a2), (3, .int a3)]) C (by rw [hnl]; decide) rfl dX6_isRare_63 ?_
    refine go_sub [1, 2, 3, 4, 0] rfl ?_
    obtain ⟨n_0, hw⟩ := hw
    exact (gbX6_isRare_65 C hr hR hnl hd (gbX6_isRare_131 C hr hR hnl hd)) n_0 _ _ _ _ _ hw
  · replace hw := hw.2 hc
    refine go_aload_n C 0 rfl rfl dX6_isRare_15 ?_
    refine go_aload_n C 0 rfl rfl dX6_isRare_16 ?_
    refine go_get (v := .ref (G.2.2.1 61)) C (shX6 G) ltX6 lkX6_9 rfl dX6_isRare_17 ?_
    refine go_aload_n C 0 rfl rfl dX6_isRare_20 ?_
    refine go_get (v := .int (gI σ_2 60 4)) C (shX6 G) ltX6 lkX6_23 rfl dX6_isRare_21 ?_
    refine go_callV (as := [.ref (G.2.2.1 61), .int (gI σ_2 60 4)]) C hR (shX6 G) ltX6 cwX6_35 (Nat.le_trans (by decide) hd) (by decide) rfl rfl (by decide) dX6_isRare_24 (spX6_power (Nat.le_refl _) (saX6_term G) laX6_term hw) (fun v_ τ_ hw => ?_)
    obtain ⟨rfl, hw⟩ := hw
    obtain ⟨σ_6, rfl⟩ : ∃ z, z = τ_ := ⟨_, rfl⟩
    refine go_iload_n C 1 rfl rfl dX6_isRare_27 ?_
    refine go_aload_n C 0 rfl rfl dX6_isRare_28 ?_
    refine go_get (v := .int (gI σ_6 60 3)) C (shX6 G) ltX6 lkX6_19 rfl dX6_isRare_29 ?_
    refine go_icmp_gt C 131 rfl dX6_isRare_32 (fun hc => ?_) (fun hc => ?_)
    · replace hw := hw.1 hc
      refine go_sub [0, 3] rfl ?_
      exact (gbX6_isRare_131 C hr hR hnl hd) _ _ hw
    · replace hw := hw.2 hc
      refine go_aload_n C 0 rfl rfl dX6_isRare_35 ?_
      refine go_get (v := .int (gI σ_6 60 3)) C (shX6 G) ltX6 lkX6_19 rfl dX6_isRare_36 ?_
      refine go_iload_n C 2 rfl rfl dX6_isRare_39 ?_
      refine go_icmp_gt C 131 rfl dX6_isRare_40 (fun hc => ?_) (fun hc => ?_)
      · replace hw := hw.1 hc
        refine go_sub [0, 3] rfl ?_
        exact (gbX6_isRare_131 C hr hR hnl hd) _ _ hw
      · replace hw := hw.2 hc
        refine go_aload_n C 0 rfl rfl dX6_isRare_43 ?_
        refine go_callV (as := []) C hR (shX6 G) ltX6 cwX6_38 (Nat.le_trans (by decide) hd) (by decide) rfl rfl (by decide) dX6_isRare_44 (spX6_addTerm (Nat.le_refl _) hw) (fun v_ τ_ hw => ?_)
        obtain ⟨rfl, hw⟩ := hw
        obtain ⟨σ_8, rfl⟩ : ∃ z, z = τ_ := ⟨_, rfl⟩
        refine go_goto C 131 rfl dX6_isRare_47 ?_
        refine go_sub [0, 3] rfl ?_
        exact (gbX6_isRare_131 C hr hR hnl hd) _ _ hw
-- CradleNames$Press.spot(III)I
def wpX7_spot  (a1 : Int32) (a2 : Int32) (a3 : Int32) (σ : St) (post : Int32 → St → Prop) : Prop :=
  post ((((a1 * 2) + a2) * 16) + a3) σ
set_option maxRecDepth 20000 in
set_option maxHeartbeats 4000000 in
theorem spX7_spot {l : Launch} {G : GT} {d : Nat}  (hd : 1 ≤ d)   {a1 : Int32} {a2 : Int32} {a3 : Int32} {σ : St} {post : Int32 → St → Prop} (hw : wpX7_spot  a1 a2 a3 σ post) : Sp l G d yX7_spot cX7_spot 3 (some .int) [.int a1, .int a2, .int a3] σ (fun v τ => ∃ r : Int32, v = some (.int r) ∧ post r τ) := by
  refine Sp.of (by decide) (by decide) fun X C hr hR hnl => ?_
  show Go X G 0 [(0, .int a1), (1, .int a2), (2, .int a3)] [] σ
  have hw : post ((((a1 * 2) + a2) * 16) + a3) σ := hw
  refine go_iload_n C 0 rfl rfl dX7_spot_0 ?_
  refine go_iconst (v := 2) C rfl dX7_spot_1 ?_
  refine go_imul C dX7_spot_2 ?_
  refine go_iload_n C 1 rfl rfl dX7_spot_3 ?_
  refine go_iadd C dX7_spot_4 ?_
  refine go_bipush (v := 16) C rfl dX7_spot_5 ?_
  refine go_imul C dX7_spot_7 ?_
  refine go_iload_n C 2 rfl rfl dX7_spot_8 ?_
  refine go_iadd C dX7_spot_9 ?_
  exact go_iret C hr ⟨_, rfl, hw⟩ dX7_spot_10
-- CradleNames$Press.add(IIII)I
def wpX7_add  (a1 : Int32) (a2 : Int32) (a3 : Int32) (a4 : Int32) (σ : St) (post : Int32 → St → Prop) : Prop :=
  ((150 ≤ (gI σ 64 0) →
    post (gI σ 64 0) σ) ∧
  (¬ 150 ≤ (gI σ 64 0) →
    vp_in (gI σ 64 0) 150 ∧ (
    ∀ σ_1 : St, σ_1 = sI σ 65 (gI σ 64 0).toNatClampNeg a1 →
    vp_in (gI σ_1 64 0) 150 ∧ (
    ∀ σ_2 : St, σ_2 = sI σ_1 66 (gI σ_1 64 0).toNatClampNeg a2 →
    vp_in (gI σ_2 64 0) 150 ∧ (
    ∀ σ_3 : St, σ_3 = sI σ_2 67 (gI σ_2 64 0).toNatClampNeg a3 →
    vp_in (gI σ_3 64 0) 150 ∧ (
    ∀ σ_4 : St, σ_4 = sI σ_3 68 (gI σ_3 64 0).toNatClampNeg a4 →
    ∀ σ_5 : St, σ_5 = sI σ_4 64 0 ((gI σ_4 64 0) + 1) →
    post (gI σ_5 64 0) σ_5))))))
set_option maxRecDepth 20000 in
set_option maxHeartbeats 4000000 in
theorem spX7_add {l : Launch} {G : GT} {d : Nat}  (hd : 1 ≤ d)   {a1 : Int32} {a2 : Int32} {a3 : Int32} {a4 : Int32} {σ : St} {post : Int32 → St → Prop} (hw : wpX7_add  a1 a2 a3 a4 σ post) : Sp l G d yX7_add cX7_add 5 (some .int) [.ref (G.2.2.1 64), .int a1, .int a2, .int a3, .int a4] σ (fun v τ => ∃ r : Int32, v = some (.int r) ∧ post r τ) := by
  refine Sp.of (by decide) (by decide) fun X C hr hR hnl => ?_
  show Go X G 0 [(0, .ref (G.2.2.1 64)), (1, .int a1), (2, .int a2), (3, .int a3), (4, .int a4)] [] σ
  have hw : ((150 ≤ (gI σ 64 0) →
    post (gI σ 64 0) σ) ∧
  (¬ 150 ≤ (gI σ 64 0) →
    vp_in (gI σ 64 0) 150 ∧ (
    ∀ σ_1 : St, σ_1 = sI σ 65 (gI σ 64 0).toNatClampNeg a1 →
    vp_in (gI σ_1 64 0) 150 ∧ (
    ∀ σ_2 : St, σ_2 = sI σ_1 66 (gI σ_1 64 0).toNatClampNeg a2 →
    vp_in (gI σ_2 64 0) 150 ∧ (
    ∀ σ_3 : St, σ_3 = sI σ_2 67 (gI σ_2 64 0).toNatClampNeg a3 →
    vp_in (gI σ_3 64 0) 150 ∧ (
    ∀ σ_4 : St, σ_4 = sI σ_3 68 (gI σ_3 64 0).toNatClampNeg a4 →
    ∀ σ_5 : St, σ_5 = sI σ_4 64 0 ((gI σ_4 64 0) + 1) →
    post (gI σ_5 64 0) σ_5)))))) := hw
  refine go_aload_n C 0 rfl rfl dX7_add_0 ?_
  refine go_get (v := .int (gI σ 64 0)) C (shX7 G) ltX7 lkX7_28 rfl dX7_add_1 ?_
  refine go_sipush (v := 150) C rfl dX7_add_4 ?_
  refine go_icmp_ge C 61 rfl dX7_add_7 (fun hc => ?_) (fun hc => ?_)
  · replace hw := hw.1 hc
    refine go_aload_n C 0 rfl rfl dX7_add_61 ?_
    refine go_get (v := .int (gI σ 64 0)) C (shX7 G) ltX7 lkX7_28 rfl dX7_add_62 ?_
    exact go_iret C hr ⟨_, rfl, hw⟩ dX7_add_65
  · replace hw := hw.2 hc
    refine go_aload_n C 0 rfl rfl dX7_add_10 ?_
    refine go_get (v := .ref (G.2.2.1 65)) C (shX7 G) ltX7 lkX7_9 rfl dX7_add_11 ?_
    refine go_aload_n C 0 rfl rfl dX7_add_14 ?_
    refine go_get (v := .int (gI σ 64 0)) C (shX7 G) ltX7 lkX7_28 rfl dX7_add_15 ?_
    refine go_iload_n C 1 rfl rfl dX7_add_18 ?_
    refine go_iast C (saX7_ofYear G) laX7_ofYear hw.1 dX7_add_19 (go_nm fun σ_1 eσ_1 => ?_)
    replace hw := hw.2 σ_1 eσ_1
    refine go_aload_n C 0 rfl rfl dX7_add_20 ?_
    refine go_get (v := .ref (G.2.2.1 66)) C (shX7 G) ltX7 lkX7_15 rfl dX7_add_21 ?_
    refine go_aload_n C 0 rfl rfl dX7_add_24 ?_
    refine go_get (v := .int (gI σ_1 64 0)) C (shX7 G) ltX7 lkX7_28 rfl dX7_add_25 ?_
    refine go_iload_n C 2 rfl rfl dX7_add_28 ?_
    refine go_iast C (saX7_ofSpot G) laX7_ofSpot hw.1 dX7_add_29 (go_nm fun σ_2 eσ_2 => ?_)
    replace hw := hw.2 σ_2 eσ_2
    refine go_aload_n C 0 rfl rfl dX7_add_30 ?_
    refine go_get (v := .ref (G.2.2.1 67)) C (shX7 G) ltX7 lkX7_18 rfl dX7_add_31 ?_
    refine go_aload_n C 0 rfl rfl dX7_add_34 ?_
    refine go_get (v := .int (gI σ_2 64 0)) C (shX7 G) ltX7 lkX7_28 rfl dX7_add_35 ?_
    refine go_iload_n C 3 rfl rfl dX7_add_38 ?_
    refine go_iast C (saX7_numbers G) laX7_numbers hw.1 dX7_add_39 (go_nm fun σ_3 eσ_3 => ?_)
    replace hw := hw.2 σ_3 eσ_3
    refine go_aload_n C 0 rfl rfl dX7_add_40 ?_
    refine go_get (v := .ref (G.2.2.1 68)) C (shX7 G) ltX7 lkX7_21 rfl dX7_add_41 ?_
    refine go_aload_n C 0 rfl rfl dX7_add_44 ?_
    refine go_get (v := .int (gI σ_3 64 0)) C (shX7 G) ltX7 lkX7_28 rfl dX7_add_45 ?_
    refine go_iload C 4 rfl dX7_add_48 ?_
    refine go_iast C (saX7_toldAt G) laX7_toldAt hw.1 dX7_add_50 (go_nm fun σ_4 eσ_4 => ?_)
    replace hw := hw.2 σ_4 eσ_4
    refine go_aload_n C 0 rfl rfl dX7_add_51 ?_
    refine go_dup C rfl dX7_add_52 ?_
    refine go_get (v := .int (gI σ_4 64 0)) C (shX7 G) ltX7 lkX7_28 rfl dX7_add_53 ?_
    refine go_iconst (v := 1) C rfl dX7_add_56 ?_
    refine go_iadd C dX7_add_57 ?_
    refine go_puti C (shX7 G) ltX7 lpX7_28 (show 0 < 7 by decide) (pxX7_0 G _ _) dX7_add_58 (go_nm fun σ_5 eσ_5 => ?_)
    replace hw := hw σ_5 eσ_5
    refine go_aload_n C 0 rfl rfl dX7_add_61 ?_
    refine go_get (v := .int (gI σ_5 64 0)) C (shX7 G) ltX7 lkX7_28 rfl dX7_add_62 ?_
    exact go_iret C hr ⟨_, rfl, hw⟩ dX7_add_65
-- CradleNames$Press.forgetRuns()V
def wpX7_forgetRuns   (σ : St) (post : St → Prop) : Prop :=
  ∀ σ_1 : St, σ_1 = sI σ 64 6 0 →
  post σ_1
set_option maxRecDepth 20000 in
set_option maxHeartbeats 4000000 in
theorem spX7_forgetRuns {l : Launch} {G : GT} {d : Nat}  (hd : 1 ≤ d)    {σ : St} {post : St → Prop} (hw : wpX7_forgetRuns   σ post) : Sp l G d yX7_forgetRuns cX7_forgetRuns 1 none [.ref (G.2.2.1 64)] σ (fun v τ => v = none ∧ post τ) := by
  refine Sp.of (by decide) (by decide) fun X C hr hR hnl => ?_
  show Go X G 0 [(0, .ref (G.2.2.1 64))] [] σ
  have hw : ∀ σ_1 : St, σ_1 = sI σ 64 6 0 →
  post σ_1 := hw
  refine go_aload_n C 0 rfl rfl dX7_forgetRuns_0 ?_
  refine go_iconst (v := 0) C rfl dX7_forgetRuns_1 ?_
  refine go_puti C (shX7 G) ltX7 lpX7_32 (show 6 < 7 by decide) (pxX7_6 G _ _) dX7_forgetRuns_2 (go_nm fun σ_1 eσ_1 => ?_)
  replace hw := hw σ_1 eσ_1
  exact go_vret C hr hw dX7_forgetRuns_5
-- CradleNames$Press.hasRun(I)Z
def wpX7_hasRun  (a1 : Int32) (σ : St) (post : Int32 → St → Prop) : Prop :=
  ((¬ (((gI σ 64 6) >>> (a1 &&& 31)) &&& 1) = 1 →
    post 0 σ) ∧
  ((((gI σ 64 6) >>> (a1 &&& 31)) &&& 1) = 1 →
    post 1 σ))
set_option maxRecDepth 20000 in
set_option maxHeartbeats 4000000 in
theorem spX7_hasRun {l : Launch} {G : GT} {d : Nat}  (hd : 1 ≤ d)   {a1 : Int32} {σ : St} {post : Int32 → St → Prop} (hw : wpX7_hasRun  a1 σ post) : Sp l G d yX7_hasRun cX7_hasRun 2 (some .boolean) [.ref (G.2.2.1 64), .int a1] σ (fun v τ => ∃ r : Int32, v = some (.int r) ∧ post r τ) := by
  refine Sp.of (by decide) (by decide) fun X C hr hR hnl => ?_
  show Go X G 0 [(0, .ref (G.2.2.1 64)), (1, .int a1)] [] σ
  have hw : ((¬ (((gI σ 64 6) >>> (a1 &&& 31)) &&& 1) = 1 →
    post 0 σ) ∧
  ((((gI σ 64 6) >>> (a1 &&& 31)) &&& 1) = 1 →
    post 1 σ)) := hw
  refine go_aload_n C 0 rfl rfl dX7_hasRun_0 ?_
  refine go_get (v := .int (gI σ 64 6)) C (shX7 G) ltX7 lkX7_32 rfl dX7_hasRun_1 ?_
  refine go_iload_n C 1 rfl rfl dX7_hasRun_4 ?_
  refine go_ishr C dX7_hasRun_5 ?_
  refine go_iconst (v := 1) C rfl dX7_hasRun_6 ?_
  refine go_iand C dX7_hasRun_7 ?_
  refine go_iconst (v := 1) C rfl dX7_hasRun_8 ?_
  refine go_icmp_ne C 16 rfl dX7_hasRun_9 (fun hc => ?_) (fun hc => ?_)
  · replace hw := hw.1 hc
    refine go_iconst (v := 0) C rfl dX7_hasRun_16 ?_
    exact go_zret C hr rfl ⟨_, rfl, hw⟩ dX7_hasRun_17
  · replace hw := hw.2 hc
    refine go_iconst (v := 1) C rfl dX7_hasRun_12 ?_
    refine go_goto C 17 rfl dX7_hasRun_13 ?_
    exact go_zret C hr rfl ⟨_, rfl, hw⟩ dX7_hasRun_17
-- CradleNames$Press.keepRun(ILCradleNames$Book;)V
def wbX7_keepRun_11 (k2 : Nat) (K2 : Int32 → Int32 → St → Prop) (post : St → Prop) : Nat → Int32 → Int32 → Int32 → St → Prop
  | 0, _, _, _, _ => False
  | n + 1, v1, v3, v4, σ =>
    ((6 ≤ v4 →
      ∀ v3_1 : Int32, v3_1 = v3 + 1 →
      K2 v1 v3_1 σ) ∧
    (¬ 6 ≤ v4 →
      ∀ v5_2 : Int32, v5_2 = (v4 / 2) →
      ∀ v6_3 : Int32, v6_3 = (v4 - v4 / 2 * 2) →
      wpX4_row v5_2 0 v6_3 σ (fun r_4 σ_5 =>
      vp_in ((v3 * 12) + r_4) 732 ∧ (
      wpX4_row v5_2 1 v6_3 σ_5 (fun r_6 σ_7 =>
      vp_in ((v3 * 12) + r_6) 732 ∧ (
      vp_in ((((v1 * 61) + v3) * 6) + v4) 2196 ∧ (
      ∀ σ_8 : St, σ_8 = sL σ_7 69 ((((v1 * 61) + v3) * 6) + v4).toNatClampNeg ((gL σ_5 (21 + 4 * k2 + 1) ((v3 * 12) + r_4).toNatClampNeg) + (gL σ_7 (21 + 4 * k2 + 1) ((v3 * 12) + r_6).toNatClampNeg)) →
      ∀ v4_9 : Int32, v4_9 = v4 + 1 →
      wbX7_keepRun_11 k2 K2 post n v1 v3 v4_9 σ_8)))))))
def wbX7_keepRun_2 (k2 : Nat)  (post : St → Prop) : Nat → Int32 → Int32 → St → Prop
  | 0, _, _, _ => False
  | n + 1, v1, v3, σ =>
    ((61 ≤ v3 →
      ∀ σ_1 : St, σ_1 = sI σ 64 6 ((gI σ 64 6) ||| (1 <<< (v1 &&& 31))) →
      post σ_1) ∧
    (¬ 61 ≤ v3 →
      ∃ n, wbX7_keepRun_11 k2 (wbX7_keepRun_2 k2 post n) post n v1 v3 0 σ))
def wpX7_keepRun (k2 : Nat) (a1 : Int32) (σ : St) (post : St → Prop) : Prop :=
  ∃ n, wbX7_keepRun_2 k2 post n a1 0 σ
set_option maxRecDepth 20000 in
set_option maxHeartbeats 4000000 in
theorem gbX7_keepRun_11 {X : XT} {G : GT} {l : Launch} {d : Nat} {k2 : Nat} {post : St → Prop} (C : Cx X G cX7_keepRun RX7) (hr : Rt X G none (fun v τ => v = none ∧ post τ)) (hR : Rm X l d) (hnl : X.2.2.2.2.2.2.2.2.2.2.1 = 7)  (hd : 2 ≤ d) (hk2 : k2 < 2) {K2 : Int32 → Int32 → St → Prop} (hK2 : ∀ (v1 : Int32) (v3 : Int32) (σ : St), K2 v1 v3 σ → Go X G 2 [(0, .ref (G.2.2.1 64)), (1, .int v1), (2, .ref (G.2.2.1 (21 + 4 * k2))), (3, .int v3)] [] σ)
    : ∀ (n : Nat) (v1 : Int32) (v3 : Int32) (v4 : Int32) (σ : St), wbX7_keepRun_11 k2 K2 post n v1 v3 v4 σ → Go X G 11 [(0, .ref (G.2.2.1 64)), (1, .int v1), (2, .ref (G.2.2.1 (21 + 4 * k2))), (3, .int v3), (4, .int v4)] [] σ := by
  intro n
  induction n with
  | zero => intro v1 v3 v4 σ hw; exact hw.elim
  | succ n ih =>
    intro v1 v3 v4 σ hw
    have hw : ((6 ≤ v4 →
      ∀ v3_1 : Int32, v3_1 = v3 + 1 →
      K2 v1 v3_1 σ) ∧
    (¬ 6 ≤ v4 →
      ∀ v5_2 : Int32, v5_2 = (v4 / 2) →
      ∀ v6_3 : Int32, v6_3 = (v4 - v4 / 2 * 2) →
      wpX4_row v5_2 0 v6_3 σ (fun r_4 σ_5 =>
      vp_in ((v3 * 12) + r_4) 732 ∧ (
      wpX4_row v5_2 1 v6_3 σ_5 (fun r_6 σ_7 =>
      vp_in ((v3 * 12) + r_6) 732 ∧ (
      vp_in ((((v1 * 61) + v3) * 6) + v4) 2196 ∧ (
      ∀ σ_8 : St, σ_8 = sL σ_7 69 ((((v1 * 61) + v3) * 6) + v4).toNatClampNeg ((gL σ_5 (21 + 4 * k2 + 1) ((v3 * 12) + r_4).toNatClampNeg) + (gL σ_7 (21 + 4 * k2 + 1) ((v3 * 12) + r_6).toNatClampNeg)) →
      ∀ v4_9 : Int32, v4_9 = v4 + 1 →
      wbX7_keepRun_11 k2 K2 post n v1 v3 v4_9 σ_8))))))) := hw
    refine go_iload C 4 rfl dX7_keepRun_11 ?_
    refine go_bipush (v := 6) C rfl dX7_keepRun_13 ?_
    refine go_icmp_ge C 90 rfl dX7_keepRun_15 (fun hc => ?_) (fun hc => ?_)
    · replace hw := hw.1 hc
      obtain ⟨v3_1, ev3_1⟩ : ∃ z : Int32, z = v3 + 1 := ⟨_, rfl⟩
      replace hw := hw v3_1 ev3_1
      refine go_iinc (v := v3_1) (lv2 := [(3, .int v3_1), (0, .ref (G.2.2.1 64)), (1, .int v1), (2, .ref (G.2.2.1 (21 + 4 * k2))), (4, .int v4)]) C 3 rfl (by rw [ev3_1]; rfl) (by rw [hnl]; decide) rfl dX7_keepRun_90 ?_
      refine go_goto C 2 rfl dX7_keepRun_93 ?_
      refine go_sub [1, 2, 3, 0] rfl ?_
      exact hK2 _ _ _ hw
    · replace hw := hw.2 hc
      refine go_iload C 4 rfl dX7_keepRun_18 ?_
      refine go_iconst (v := 2) C rfl dX7_keepRun_20 ?_
      refine go_idiv C (by decide) dX7_keepRun_21 ?_
      refine go_topi (fun v5_2 ev5_2 => ?_)
      replace hw := hw v5_2 ev5_2
      refine go_istore (lv2 := [(5, .int v5_2), (0, .ref (G.2.2.1 64)), (1, .int v1), (2, .ref (G.2.2.1 (21 + 4 * k2))), (3, .int v3), (4, .int v4)]) C (by rw [hnl]; decide) rfl dX7_keepRun_22 ?_
      refine go_iload C 5 rfl dX7_keepRun_24 ?_
      refine go_iconst (v := 2) C rfl dX7_keepRun_26 ?_
      refine go_irem C (by decide) dX7_keepRun_27 ?_
      refine go_topi (fun v6_3 ev6_3 => ?_)
      replace hw := hw v6_3 ev6_3
      refine go_istore (lv2 := [(6, .int v6_3), (5, .int v5_2), (0, .ref (G.2.2.1 64)), (1, .int v1), (2, .ref (G.2.2.1 (21 + 4 * k2))), (3, .int v3), (4, .int v4)]) C (by rw [hnl]; decide) rfl dX7_keepRun_28 ?_
      refine go_aload_n C 2 rfl rfl dX7_keepRun_30 ?_
      refine go_get (v := .ref (G.2.2.1 69)) C (shX7 G) ltX7 lkX7_24 rfl dX7_keepRun_31 ?_
      refine go_iload_n C 3 rfl rfl dX7_keepRun_34 ?_
      refine go_bipush (v := 61) C rfl dX7_keepRun_35 ?_
      refine go_imul C dX7_keepRun_37 ?_
      refine go_iload_n C 5 rfl rfl dX7_keepRun_38 ?_
      refine go_iadd C dX7_keepRun_39 ?_
      refine go_bipush (v := 6) C rfl dX7_keepRun_40 ?_
      refine go_imul C dX7_keepRun_42 ?_
      refine go_iload C 6 rfl dX7_keepRun_43 ?_
      refine go_iadd C dX7_keepRun_45 ?_
      refine go_aload_n C 4 rfl rfl dX7_keepRun_46 ?_
      refine go_get (v := .ref (G.2.2.1 (21 + 4 * k2 + 1))) C (shX0 G hk2) (ltX0 hk2) lkX7_35 rfl dX7_keepRun_47 ?_
      refine go_iload_n C 5 rfl rfl dX7_keepRun_50 ?_
      refine go_bipush (v := 12) C rfl dX7_keepRun_51 ?_
      refine go_imul C dX7_keepRun_53 ?_
      refine go_iload C 1 rfl dX7_keepRun_54 ?_
      refine go_iconst (v := 0) C rfl dX7_keepRun_56 ?_
      refine go_iload C 0 rfl dX7_keepRun_57 ?_
      refine go_callS (as := [.int v5_2, .int 0, .int v6_3]) C hR cwX7_40 (Nat.le_trans (by decide) hd) (by decide) rfl rfl (by decide) dX7_keepRun_59 (spX4_row (Nat.le_refl _) hw) (fun v_ τ_ hw => ?_)
      obtain ⟨r_4, rfl, hw⟩ := hw
      obtain ⟨σ_5, rfl⟩ : ∃ z, z = τ_ := ⟨_, rfl⟩
      refine go_iadd C dX7_keepRun_62 ?_
      refine go_lald C (saX0_rows G hk2) (laX0_rows hk2) hw.1 dX7_keepRun_63 ?_
      replace hw := hw.2
      refine go_aload_n C 4 rfl rfl dX7_keepRun_64 ?_
      refine go_get (v := .ref (G.2.2.1 (21 + 4 * k2 + 1))) C (shX0 G hk2) (ltX0 hk2) lkX7_35 rfl dX7_keepRun_65 ?_
      refine go_iload_n C 5 rfl rfl dX7_keepRun_68 ?_
      refine go_bipush (v := 12) C rfl dX7_keepRun_69 ?_
      refine go_imul C dX7_keepRun_71 ?_
      refine go_iload C 1 rfl dX7_keepRun_72 ?_
      refine go_iconst (v := 1) C rfl dX7_keepRun_74 ?_
      refine go_iload C 0 rfl dX7_keepRun_75 ?_
      refine go_callS (as := [.int v5_2, .int 1, .int v6_3]) C hR cwX7_40 (Nat.le_trans (by decide) hd) (by decide) rfl rfl (by decide) dX7_keepRun_77 (spX4_row (Nat.le_refl _) hw) (fun v_ τ_ hw => ?_)
      obtain ⟨r_6, rfl, hw⟩ := hw
      obtain ⟨σ_7, rfl⟩ : ∃ z, z = τ_ := ⟨_, rfl⟩
      refine go_iadd C dX7_keepRun_80 ?_
      refine go_lald C (saX0_rows G hk2) (laX0_rows hk2) hw.1 dX7_keepRun_81 ?_
      replace hw := hw.2
      refine go_ladd C dX7_keepRun_82 ?_
      refine go_last C (saX7_runs G) laX7_runs hw.1 dX7_keepRun_83 (go_nm fun σ_8 eσ_8 => ?_)
      replace hw := hw.2 σ_8 eσ_8
      obtain ⟨v4_9, ev4_9⟩ : ∃ z : Int32, z = v4 + 1 := ⟨_, rfl⟩
      replace hw := hw v4_9 ev4_9
      refine go_iinc (v := v4_9) (lv2 := [(4, .int v4_9), (6, .int v6_3), (5, .int v5_2), (0, .ref (G.2.2.1 64)), (1, .int v1), (2, .ref (G.2.2.1 (21 + 4 * k2))), (3, .int v3)]) C 6 rfl (by rw [ev4_9]; rfl) (by rw [hnl]; decide) rfl dX7_keepRun_84 ?_
      refine go_goto C 11 rfl dX7_keepRun_87 ?_
      refine go_sub [3, 4, 5, 6, 0] rfl ?_
      exact ih _ _ _ _ hw
set_option maxRecDepth 20000 in
set_option maxHeartbeats 4000000 in
theorem gbX7_keepRun_2 {X : XT} {G : GT} {l : Launch} {d : Nat} {k2 : Nat} {post : St → Prop} (C : Cx X G cX7_keepRun RX7) (hr : Rt X G none (fun v τ => v = none ∧ post τ)) (hR : Rm X l d) (hnl : X.2.2.2.2.2.2.2.2.2.2.1 = 7)  (hd : 2 ≤ d) (hk2 : k2 < 2)  
    : ∀ (n : Nat) (v1 : Int32) (v3 : Int32) (σ : St), wbX7_keepRun_2 k2  post n v1 v3 σ → Go X G 2 [(0, .ref (G.2.2.1 64)), (1, .int v1), (2, .ref (G.2.2.1 (21 + 4 * k2))), (3, .int v3)] [] σ := by
  intro n
  induction n with
  | zero => intro v1 v3 σ hw; exact hw.elim
  | succ n ih =>
    intro v1 v3 σ hw
    have hw : ((61 ≤ v3 →
      ∀ σ_1 : St, σ_1 = sI σ 64 6 ((gI σ 64 6) ||| (1 <<< (v1 &&& 31))) →
      post σ_1) ∧
    (¬ 61 ≤ v3 →
      ∃ n, wbX7_keepRun_11 k2 (wbX7_keepRun_2 k2 post n) post n v1 v3 0 σ)) := hw
    refine go_iload_n C 3 rfl rfl dX7_keepRun_2 ?_
    refine go_bipush (v := 61) C rfl dX7_keepRun_3 ?_
    refine go_icmp_ge C 96 rfl dX7_keepRun_5 (fun hc => ?_) (fun hc => ?_)
    · replace hw := hw.1 hc
      refine go_aload_n C 0 rfl rfl dX7_keepRun_96 ?_
      refine go_dup C rfl dX7_keepRun_97 ?_
      refine go_get (v := .int (gI σ 64 6)) C (shX7 G) ltX7 lkX7_32 rfl dX7_keepRun_98 ?_
      refine go_iconst (v := 1) C rfl dX7_keepRun_101 ?_
      refine go_iload_n C 1 rfl rfl dX7_keepRun_102 ?_
      refine go_ishl C dX7_keepRun_103 ?_
      refine go_ior C dX7_keepRun_104 ?_
      refine go_puti C (shX7 G) ltX7 lpX7_32 (show 6 < 7 by decide) (pxX7_6 G _ _) dX7_keepRun_105 (go_nm fun σ_1 eσ_1 => ?_)
      replace hw := hw σ_1 eσ_1
      exact go_vret C hr hw dX7_keepRun_108
    · replace hw := hw.2 hc
      refine go_iconst (v := 0) C rfl dX7_keepRun_8 ?_
      refine go_istore (lv2 := [(4, .int 0), (0, .ref (G.2.2.1 64)), (1, .int v1), (2, .ref (G.2.2.1 (21 + 4 * k2))), (3, .int v3)]) C (by rw [hnl]; decide) rfl dX7_keepRun_9 ?_
      refine go_sub [1, 2, 3, 4, 0] rfl ?_
      obtain ⟨n_0, hw⟩ := hw
      exact (gbX7_keepRun_11 C hr hR hnl hd hk2 ih) n_0 _ _ _ _ hw
set_option maxRecDepth 20000 in
set_option maxHeartbeats 4000000 in
theorem spX7_keepRun {l : Launch} {G : GT} {d : Nat}  (hd : 2 ≤ d) {k2 : Nat} (hk2 : k2 < 2) {a1 : Int32} {σ : St} {post : St → Prop} (hw : wpX7_keepRun k2 a1 σ post) : Sp l G d yX7_keepRun cX7_keepRun 7 none [.ref (G.2.2.1 64), .int a1, .ref (G.2.2.1 (21 + 4 * k2))] σ (fun v τ => v = none ∧ post τ) := by
  refine Sp.of (by decide) (by decide) fun X C hr hR hnl => ?_
  show Go X G 0 [(0, .ref (G.2.2.1 64)), (1, .int a1), (2, .ref (G.2.2.1 (21 + 4 * k2)))] [] σ
  have hw : ∃ n, wbX7_keepRun_2 k2 post n a1 0 σ := hw
  refine go_iconst (v := 0) C rfl dX7_keepRun_0 ?_
  refine go_istore_n (lv2 := [(3, .int 0), (0, .ref (G.2.2.1 64)), (1, .int a1), (2, .ref (G.2.2.1 (21 + 4 * k2)))]) C rfl (by rw [hnl]; decide) rfl dX7_keepRun_1 ?_
  refine go_sub [1, 2, 3, 0] rfl ?_
  obtain ⟨n_0, hw⟩ := hw
  exact (gbX7_keepRun_2 C hr hR hnl hd hk2) n_0 _ _ _ hw
-- CradleNames$Press.brought(III)I
def wpX7_brought  (a1 : Int32) (a2 : Int32) (a3 : Int32) (σ : St) (post : Int32 → St → Prop) : Prop :=
  vp_in ((((a1 * 61) + a2) * 6) + (a3 / 16)) 2196 ∧ (
  ∀ v4_1 : Int64, v4_1 = (gL σ 69 ((((a1 * 61) + a2) * 6) + (a3 / 16)).toNatClampNeg) →
  post (((v4_1.toUInt64 >>> ((4 * (a3 - a3 / 16 * 16)).toInt64.toUInt64 &&& Int64.toUInt64 63)).toInt64).toInt32 &&& 15) σ)
set_option maxRecDepth 20000 in
set_option maxHeartbeats 4000000 in
theorem spX7_brought {l : Launch} {G : GT} {d : Nat}  (hd : 1 ≤ d)   {a1 : Int32} {a2 : Int32} {a3 : Int32} {σ : St} {post : Int32 → St → Prop} (hw : wpX7_brought  a1 a2 a3 σ post) : Sp l G d yX7_brought cX7_brought 6 (some .int) [.ref (G.2.2.1 64), .int a1, .int a2, .int a3] σ (fun v τ => ∃ r : Int32, v = some (.int r) ∧ post r τ) := by
  refine Sp.of (by decide) (by decide) fun X C hr hR hnl => ?_
  show Go X G 0 [(0, .ref (G.2.2.1 64)), (1, .int a1), (2, .int a2), (3, .int a3)] [] σ
  have hw : vp_in ((((a1 * 61) + a2) * 6) + (a3 / 16)) 2196 ∧ (
  ∀ v4_1 : Int64, v4_1 = (gL σ 69 ((((a1 * 61) + a2) * 6) + (a3 / 16)).toNatClampNeg) →
  post (((v4_1.toUInt64 >>> ((4 * (a3 - a3 / 16 * 16)).toInt64.toUInt64 &&& Int64.toUInt64 63)).toInt64).toInt32 &&& 15) σ) := hw
  refine go_aload_n C 0 rfl rfl dX7_brought_0 ?_
  refine go_get (v := .ref (G.2.2.1 69)) C (shX7 G) ltX7 lkX7_24 rfl dX7_brought_1 ?_
  refine go_iload_n C 1 rfl rfl dX7_brought_4 ?_
  refine go_bipush (v := 61) C rfl dX7_brought_5 ?_
  refine go_imul C dX7_brought_7 ?_
  refine go_iload_n C 2 rfl rfl dX7_brought_8 ?_
  refine go_iadd C dX7_brought_9 ?_
  refine go_bipush (v := 6) C rfl dX7_brought_10 ?_
  refine go_imul C dX7_brought_12 ?_
  refine go_iload_n C 3 rfl rfl dX7_brought_13 ?_
  refine go_bipush (v := 16) C rfl dX7_brought_14 ?_
  refine go_idiv C (by decide) dX7_brought_16 ?_
  refine go_iadd C dX7_brought_17 ?_
  refine go_lald C (saX7_runs G) laX7_runs hw.1 dX7_brought_18 ?_
  replace hw := hw.2
  refine go_topl (fun v4_1 ev4_1 => ?_)
  replace hw := hw v4_1 ev4_1
  refine go_lstore (lv2 := [(4, .long v4_1), (0, .ref (G.2.2.1 64)), (1, .int a1), (2, .int a2), (3, .int a3)]) C (by rw [hnl]; decide) rfl dX7_brought_19 ?_
  refine go_lload C 0 rfl dX7_brought_21 ?_
  refine go_iconst (v := 4) C rfl dX7_brought_23 ?_
  refine go_iload_n C 4 rfl rfl dX7_brought_24 ?_
  refine go_bipush (v := 16) C rfl dX7_brought_25 ?_
  refine go_irem C (by decide) dX7_brought_27 ?_
  refine go_imul C dX7_brought_28 ?_
  refine go_lushr C dX7_brought_29 ?_
  refine go_l2i C dX7_brought_30 ?_
  refine go_bipush (v := 15) C rfl dX7_brought_31 ?_
  refine go_iand C dX7_brought_33 ?_
  exact go_iret C hr ⟨_, rfl, hw⟩ dX7_brought_34
-- CradleNames$Press.agreeing(III)I
def wbX7_agreeing_86  (K6 : Int32 → Int32 → Int32 → Int32 → St → Prop) (post : Int32 → St → Prop) (v2 : Int32) (v3 : Int32) (v4 : Int32) (v5 : Int32) (v6 : Int32) (σ : St) : Prop :=
  ((v6 = 0 →
    ∀ v4_1 : Int32, v4_1 = (v4 ||| 0) →
    ∀ v5_2 : Int32, v5_2 = v5 + 1 →
    K6 v2 v3 v4_1 v5_2 σ) ∧
  (¬ v6 = 0 →
    ∀ v4_3 : Int32, v4_3 = (v4 ||| (1 <<< (v5 &&& 31))) →
    ∀ v5_4 : Int32, v5_4 = v5 + 1 →
    K6 v2 v3 v4_3 v5_4 σ))
def wbX7_agreeing_18  (K6 : Int32 → Int32 → Int32 → Int32 → St → Prop) (post : Int32 → St → Prop) : Nat → Int32 → Int32 → Int32 → Int32 → Int32 → Int32 → St → Prop
  | 0, _, _, _, _, _, _, _ => False
  | n + 1, v2, v3, v4, v5, v6, v7, σ =>
    (((gI σ 64 0) ≤ v7 →
      wbX7_agreeing_86 K6 post v2 v3 v4 v5 v6 σ) ∧
    (¬ (gI σ 64 0) ≤ v7 →
      ((v6 = 0 →
        wbX7_agreeing_86 K6 post v2 v3 v4 v5 v6 σ) ∧
      (¬ v6 = 0 →
        vp_in v7 150 ∧ (
        ((v3 < (gI σ 68 v7.toNatClampNeg) →
          ∀ v7_1 : Int32, v7_1 = v7 + 1 →
          wbX7_agreeing_18 K6 post n v2 v3 v4 v5 1 v7_1 σ) ∧
        (¬ v3 < (gI σ 68 v7.toNatClampNeg) →
          vp_in v7 150 ∧ (
          vp_in v7 150 ∧ (
          wpX7_brought v5 (gI σ 65 v7.toNatClampNeg) (gI σ 66 v7.toNatClampNeg) σ (fun r_2 σ_3 =>
          vp_in v7 150 ∧ (
          ((¬ r_2 = (gI σ_3 67 v7.toNatClampNeg) →
            ∀ v7_4 : Int32, v7_4 = v7 + 1 →
            wbX7_agreeing_18 K6 post n v2 v3 v4 v5 0 v7_4 σ_3) ∧
          (r_2 = (gI σ_3 67 v7.toNatClampNeg) →
            ∀ v7_5 : Int32, v7_5 = v7 + 1 →
            wbX7_agreeing_18 K6 post n v2 v3 v4 v5 1 v7_5 σ_3)))))))))))))
def wbX7_agreeing_6   (post : Int32 → St → Prop) : Nat → Int32 → Int32 → Int32 → Int32 → St → Prop
  | 0, _, _, _, _, _ => False
  | n + 1, v2, v3, v4, v5, σ =>
    ((v2 < v5 →
      post v4 σ) ∧
    (¬ v2 < v5 →
      ∃ n, wbX7_agreeing_18 (wbX7_agreeing_6 post n) post n v2 v3 v4 v5 1 0 σ))
def wpX7_agreeing  (a1 : Int32) (a2 : Int32) (a3 : Int32) (σ : St) (post : Int32 → St → Prop) : Prop :=
  ∃ n, wbX7_agreeing_6 post n a2 a3 0 a1 σ
set_option maxRecDepth 20000 in
set_option maxHeartbeats 4000000 in
theorem gbX7_agreeing_86 {X : XT} {G : GT} {l : Launch} {d : Nat}  {post : Int32 → St → Prop} (C : Cx X G cX7_agreeing RX7) (hr : Rt X G (some .int) (fun v τ => ∃ r : Int32, v = some (.int r) ∧ post r τ)) (hR : Rm X l d) (hnl : X.2.2.2.2.2.2.2.2.2.2.1 = 8)  (hd : 2 ≤ d)  {K6 : Int32 → Int32 → Int32 → Int32 → St → Prop} (hK6 : ∀ (v2 : Int32) (v3 : Int32) (v4 : Int32) (v5 : Int32) (σ : St), K6 v2 v3 v4 v5 σ → Go X G 6 [(0, .ref (G.2.2.1 64)), (2, .int v2), (3, .int v3), (4, .int v4), (5, .int v5)] [] σ)
    : ∀ (v2 : Int32) (v3 : Int32) (v4 : Int32) (v5 : Int32) (v6 : Int32) (σ : St), wbX7_agreeing_86  K6 post v2 v3 v4 v5 v6 σ → Go X G 86 [(0, .ref (G.2.2.1 64)), (2, .int v2), (3, .int v3), (4, .int v4), (5, .int v5), (6, .int v6)] [] σ := by
  intro v2 v3 v4 v5 v6 σ hw
  have hw : ((v6 = 0 →
    ∀ v4_1 : Int32, v4_1 = (v4 ||| 0) →
    ∀ v5_2 : Int32, v5_2 = v5 + 1 →
    K6 v2 v3 v4_1 v5_2 σ) ∧
  (¬ v6 = 0 →
    ∀ v4_3 : Int32, v4_3 = (v4 ||| (1 <<< (v5 &&& 31))) →
    ∀ v5_4 : Int32, v5_4 = v5 + 1 →
    K6 v2 v3 v4_3 v5_4 σ)) := hw
  refine go_iload C 3 rfl dX7_agreeing_86 ?_
  refine go_iload C 5 rfl dX7_agreeing_88 ?_
  refine go_if_eq C 100 rfl dX7_agreeing_90 (fun hc => ?_) (fun hc => ?_)
  · replace hw := hw.1 hc
    refine go_iconst (v := 0) C rfl dX7_agreeing_100 ?_
    refine go_ior C dX7_agreeing_101 ?_
    refine go_topi (fun v4_1 ev4_1 => ?_)
    replace hw := hw v4_1 ev4_1
    refine go_istore (lv2 := [(4, .int v4_1), (0, .ref (G.2.2.1 64)), (2, .int v2), (3, .int v3), (5, .int v5), (6, .int v6)]) C (by rw [hnl]; decide) rfl dX7_agreeing_102 ?_
    obtain ⟨v5_2, ev5_2⟩ : ∃ z : Int32, z = v5 + 1 := ⟨_, rfl⟩
    replace hw := hw v5_2 ev5_2
    refine go_iinc (v := v5_2) (lv2 := [(5, .int v5_2), (4, .int v4_1), (0, .ref (G.2.2.1 64)), (2, .int v2), (3, .int v3), (6, .int v6)]) C 4 rfl (by rw [ev5_2]; rfl) (by rw [hnl]; decide) rfl dX7_agreeing_104 ?_
    refine go_goto C 6 rfl dX7_agreeing_107 ?_
    refine go_sub [2, 3, 4, 1, 0] rfl ?_
    exact hK6 _ _ _ _ _ hw
  · replace hw := hw.2 hc
    refine go_iconst (v := 1) C rfl dX7_agreeing_93 ?_
    refine go_iload C 4 rfl dX7_agreeing_94 ?_
    refine go_ishl C dX7_agreeing_96 ?_
    refine go_goto C 101 rfl dX7_agreeing_97 ?_
    refine go_ior C dX7_agreeing_101 ?_
    refine go_topi (fun v4_3 ev4_3 => ?_)
    replace hw := hw v4_3 ev4_3
    refine go_istore (lv2 := [(4, .int v4_3), (0, .ref (G.2.2.1 64)), (2, .int v2), (3, .int v3), (5, .int v5), (6, .int v6)]) C (by rw [hnl]; decide) rfl dX7_agreeing_102 ?_
    obtain ⟨v5_4, ev5_4⟩ : ∃ z : Int32, z = v5 + 1 := ⟨_, rfl⟩
    replace hw := hw v5_4 ev5_4
    refine go_iinc (v := v5_4) (lv2 := [(5, .int v5_4), (4, .int v4_3), (0, .ref (G.2.2.1 64)), (2, .int v2), (3, .int v3), (6, .int v6)]) C 4 rfl (by rw [ev5_4]; rfl) (by rw [hnl]; decide) rfl dX7_agreeing_104 ?_
    refine go_goto C 6 rfl dX7_agreeing_107 ?_
    refine go_sub [2, 3, 4, 1, 0] rfl ?_
    exact hK6 _ _ _ _ _ hw
set_option maxRecDepth 20000 in
set_option maxHeartbeats 4000000 in
theorem gbX7_agreeing_18 {X : XT} {G : GT} {l : Launch} {d : Nat}  {post : Int32 → St → Prop} (C : Cx X G cX7_agreeing RX7) (hr : Rt X G (some .int) (fun v τ => ∃ r : Int32, v = some (.int r) ∧ post r τ)) (hR : Rm X l d) (hnl : X.2.2.2.2.2.2.2.2.2.2.1 = 8)  (hd : 2 ≤ d)  {K6 : Int32 → Int32 → Int32 → Int32 → St → Prop} (hK6 : ∀ (v2 : Int32) (v3 : Int32) (v4 : Int32) (v5 : Int32) (σ : St), K6 v2 v3 v4 v5 σ → Go X G 6 [(0, .ref (G.2.2.1 64)), (2, .int v2), (3, .int v3), (4, .int v4), (5, .int v5)] [] σ)
    : ∀ (n : Nat) (v2 : Int32) (v3 : Int32) (v4 : Int32) (v5 : Int32) (v6 : Int32) (v7 : Int32) (σ : St), wbX7_agreeing_18  K6 post n v2 v3 v4 v5 v6 v7 σ → Go X G 18 [(0, .ref (G.2.2.1 64)), (2, .int v2), (3, .int v3), (4, .int v4), (5, .int v5), (6, .int v6), (7, .int v7)] [] σ := by
  intro n
  induction n with
  | zero => intro v2 v3 v4 v5 v6 v7 σ hw; exact hw.elim
  | succ n ih =>
    intro v2 v3 v4 v5 v6 v7 σ hw
    have hw : (((gI σ 64 0) ≤ v7 →
      wbX7_agreeing_86 K6 post v2 v3 v4 v5 v6 σ) ∧
    (¬ (gI σ 64 0) ≤ v7 →
      ((v6 = 0 →
        wbX7_agreeing_86 K6 post v2 v3 v4 v5 v6 σ) ∧
      (¬ v6 = 0 →
        vp_in v7 150 ∧ (
        ((v3 < (gI σ 68 v7.toNatClampNeg) →
          ∀ v7_1 : Int32, v7_1 = v7 + 1 →
          wbX7_agreeing_18 K6 post n v2 v3 v4 v5 1 v7_1 σ) ∧
        (¬ v3 < (gI σ 68 v7.toNatClampNeg) →
          vp_in v7 150 ∧ (
          vp_in v7 150 ∧ (
          wpX7_brought v5 (gI σ 65 v7.toNatClampNeg) (gI σ 66 v7.toNatClampNeg) σ (fun r_2 σ_3 =>
          vp_in v7 150 ∧ (
          ((¬ r_2 = (gI σ_3 67 v7.toNatClampNeg) →
            ∀ v7_4 : Int32, v7_4 = v7 + 1 →
            wbX7_agreeing_18 K6 post n v2 v3 v4 v5 0 v7_4 σ_3) ∧
          (r_2 = (gI σ_3 67 v7.toNatClampNeg) →
            ∀ v7_5 : Int32, v7_5 = v7 + 1 →
            wbX7_agreeing_18 K6 post n v2 v3 v4 v5 1 v7_5 σ_3))))))))))))) := hw
    refine go_iload C 6 rfl dX7_agreeing_18 ?_
    refine go_aload_n C 0 rfl rfl dX7_agreeing_20 ?_
    refine go_get (v := .int (gI σ 64 0)) C (shX7 G) ltX7 lkX7_28 rfl dX7_agreeing_21 ?_
    refine go_icmp_ge C 86 rfl dX7_agreeing_24 (fun hc => ?_) (fun hc => ?_)
    · replace hw := hw.1 hc
      refine go_sub [0, 1, 2, 3, 4, 5] rfl ?_
      exact (gbX7_agreeing_86 C hr hR hnl hd hK6) _ _ _ _ _ _ hw
    · replace hw := hw.2 hc
      refine go_iload C 5 rfl dX7_agreeing_27 ?_
      refine go_if_eq C 86 rfl dX7_agreeing_29 (fun hc => ?_) (fun hc => ?_)
      · replace hw := hw.1 hc
        refine go_sub [0, 1, 2, 3, 4, 5] rfl ?_
        exact (gbX7_agreeing_86 C hr hR hnl hd hK6) _ _ _ _ _ _ hw
      · replace hw := hw.2 hc
        refine go_aload_n C 0 rfl rfl dX7_agreeing_32 ?_
        refine go_get (v := .ref (G.2.2.1 68)) C (shX7 G) ltX7 lkX7_21 rfl dX7_agreeing_33 ?_
        refine go_iload C 6 rfl dX7_agreeing_36 ?_
        refine go_iald C (saX7_toldAt G) laX7_toldAt hw.1 dX7_agreeing_38 ?_
        replace hw := hw.2
        refine go_iload_n C 2 rfl rfl dX7_agreeing_39 ?_
        refine go_icmp_gt C 73 rfl dX7_agreeing_40 (fun hc => ?_) (fun hc => ?_)
        · replace hw := hw.1 hc
          refine go_iconst (v := 1) C rfl dX7_agreeing_73 ?_
          refine go_goto C 78 rfl dX7_agreeing_74 ?_
          refine go_istore (lv2 := [(6, .int 1), (0, .ref (G.2.2.1 64)), (2, .int v2), (3, .int v3), (4, .int v4), (5, .int v5), (7, .int v7)]) C (by rw [hnl]; decide) rfl dX7_agreeing_78 ?_
          obtain ⟨v7_1, ev7_1⟩ : ∃ z : Int32, z = v7 + 1 := ⟨_, rfl⟩
          replace hw := hw v7_1 ev7_1
          refine go_iinc (v := v7_1) (lv2 := [(7, .int v7_1), (6, .int 1), (0, .ref (G.2.2.1 64)), (2, .int v2), (3, .int v3), (4, .int v4), (5, .int v5)]) C 6 rfl (by rw [ev7_1]; rfl) (by rw [hnl]; decide) rfl dX7_agreeing_80 ?_
          refine go_goto C 18 rfl dX7_agreeing_83 ?_
          refine go_sub [2, 3, 4, 5, 6, 1, 0] rfl ?_
          exact ih _ _ _ _ _ _ _ hw
        · replace hw := hw.2 hc
          refine go_aload_n C 0 rfl rfl dX7_agreeing_43 ?_
          refine go_iload C 4 rfl dX7_agreeing_44 ?_
          refine go_aload_n C 0 rfl rfl dX7_agreeing_46 ?_
          refine go_get (v := .ref (G.2.2.1 65)) C (shX7 G) ltX7 lkX7_9 rfl dX7_agreeing_47 ?_
          refine go_iload C 6 rfl dX7_agreeing_50 ?_
          refine go_iald C (saX7_ofYear G) laX7_ofYear hw.1 dX7_agreeing_52 ?_
          replace hw := hw.2
          refine go_aload_n C 0 rfl rfl dX7_agreeing_53 ?_
          refine go_get (v := .ref (G.2.2.1 66)) C (shX7 G) ltX7 lkX7_15 rfl dX7_agreeing_54 ?_
          refine go_iload C 6 rfl dX7_agreeing_57 ?_
          refine go_iald C (saX7_ofSpot G) laX7_ofSpot hw.1 dX7_agreeing_59 ?_
          replace hw := hw.2
          refine go_callV (as := [.int v5, .int (gI σ 65 v7.toNatClampNeg), .int (gI σ 66 v7.toNatClampNeg)]) C hR (shX7 G) ltX7 cwX7_46 (Nat.le_trans (by decide) hd) (by decide) rfl rfl (by decide) dX7_agreeing_60 (spX7_brought (Nat.le_refl _) hw) (fun v_ τ_ hw => ?_)
          obtain ⟨r_2, rfl, hw⟩ := hw
          obtain ⟨σ_3, rfl⟩ : ∃ z, z = τ_ := ⟨_, rfl⟩
          refine go_aload_n C 0 rfl rfl dX7_agreeing_63 ?_
          refine go_get (v := .ref (G.2.2.1 67)) C (shX7 G) ltX7 lkX7_18 rfl dX7_agreeing_64 ?_
          refine go_iload C 6 rfl dX7_agreeing_67 ?_
          refine go_iald C (saX7_numbers G) laX7_numbers hw.1 dX7_agreeing_69 ?_
          replace hw := hw.2
          refine go_icmp_ne C 77 rfl dX7_agreeing_70 (fun hc => ?_) (fun hc => ?_)
          · replace hw := hw.1 hc
            refine go_iconst (v := 0) C rfl dX7_agreeing_77 ?_
            refine go_istore (lv2 := [(6, .int 0), (0, .ref (G.2.2.1 64)), (2, .int v2), (3, .int v3), (4, .int v4), (5, .int v5), (7, .int v7)]) C (by rw [hnl]; decide) rfl dX7_agreeing_78 ?_
            obtain ⟨v7_4, ev7_4⟩ : ∃ z : Int32, z = v7 + 1 := ⟨_, rfl⟩
            replace hw := hw v7_4 ev7_4
            refine go_iinc (v := v7_4) (lv2 := [(7, .int v7_4), (6, .int 0), (0, .ref (G.2.2.1 64)), (2, .int v2), (3, .int v3), (4, .int v4), (5, .int v5)]) C 6 rfl (by rw [ev7_4]; rfl) (by rw [hnl]; decide) rfl dX7_agreeing_80 ?_
            refine go_goto C 18 rfl dX7_agreeing_83 ?_
            refine go_sub [2, 3, 4, 5, 6, 1, 0] rfl ?_
            exact ih _ _ _ _ _ _ _ hw
          · replace hw := hw.2 hc
            refine go_iconst (v := 1) C rfl dX7_agreeing_73 ?_
            refine go_goto C 78 rfl dX7_agreeing_74 ?_
            refine go_istore (lv2 := [(6, .int 1), (0, .ref (G.2.2.1 64)), (2, .int v2), (3, .int v3), (4, .int v4), (5, .int v5), (7, .int v7)]) C (by rw [hnl]; decide) rfl dX7_agreeing_78 ?_
            obtain ⟨v7_5, ev7_5⟩ : ∃ z : Int32, z = v7 + 1 := ⟨_, rfl⟩
            replace hw := hw v7_5 ev7_5
            refine go_iinc (v := v7_5) (lv2 := [(7, .int v7_5), (6, .int 1), (0, .ref (G.2.2.1 64)), (2, .int v2), (3, .int v3), (4, .int v4), (5, .int v5)]) C 6 rfl (by rw [ev7_5]; rfl) (by rw [hnl]; decide) rfl dX7_agreeing_80 ?_
            refine go_goto C 18 rfl dX7_agreeing_83 ?_
            refine go_sub [2, 3, 4, 5, 6, 1, 0] rfl ?_
            exact ih _ _ _ _ _ _ _ hw
set_option maxRecDepth 20000 in
set_option maxHeartbeats 4000000 in
theorem gbX7_agreeing_6 {X : XT} {G : GT} {l : Launch} {d : Nat}  {post : Int32 → St → Prop} (C : Cx X G cX7_agreeing RX7) (hr : Rt X G (some .int) (fun v τ => ∃ r : Int32, v = some (.int r) ∧ post r τ)) (hR : Rm X l d) (hnl : X.2.2.2.2.2.2.2.2.2.2.1 = 8)  (hd : 2 ≤ d)   
    : ∀ (n : Nat) (v2 : Int32) (v3 : Int32) (v4 : Int32) (v5 : Int32) (σ : St), wbX7_agreeing_6   post n v2 v3 v4 v5 σ → Go X G 6 [(0, .ref (G.2.2.1 64)), (2, .int v2), (3, .int v3), (4, .int v4), (5, .int v5)] [] σ := by
  intro n
  induction n with
  | zero => intro v2 v3 v4 v5 σ hw; exact hw.elim
  | succ n ih =>
    intro v2 v3 v4 v5 σ hw
    have hw : ((v2 < v5 →
      post v4 σ) ∧
    (¬ v2 < v5 →
      ∃ n, wbX7_agreeing_18 (wbX7_agreeing_6 post n) post n v2 v3 v4 v5 1 0 σ)) := hw
    refine go_iload C 4 rfl dX7_agreeing_6 ?_
    refine go_iload_n C 1 rfl rfl dX7_agreeing_8 ?_
    refine go_icmp_gt C 110 rfl dX7_agreeing_9 (fun hc => ?_) (fun hc => ?_)
    · replace hw := hw.1 hc
      refine go_iload C 3 rfl dX7_agreeing_110 ?_
      exact go_iret C hr ⟨_, rfl, hw⟩ dX7_agreeing_112
    · replace hw := hw.2 hc
      refine go_iconst (v := 1) C rfl dX7_agreeing_12 ?_
      refine go_istore (lv2 := [(6, .int 1), (0, .ref (G.2.2.1 64)), (2, .int v2), (3, .int v3), (4, .int v4), (5, .int v5)]) C (by rw [hnl]; decide) rfl dX7_agreeing_13 ?_
      refine go_iconst (v := 0) C rfl dX7_agreeing_15 ?_
      refine go_istore (lv2 := [(7, .int 0), (6, .int 1), (0, .ref (G.2.2.1 64)), (2, .int v2), (3, .int v3), (4, .int v4), (5, .int v5)]) C (by rw [hnl]; decide) rfl dX7_agreeing_16 ?_
      refine go_sub [2, 3, 4, 5, 6, 1, 0] rfl ?_
      obtain ⟨n_0, hw⟩ := hw
      exact (gbX7_agreeing_18 C hr hR hnl hd ih) n_0 _ _ _ _ _ _ _ hw
set_option maxRecDepth 20000 in
set_option maxHeartbeats 4000000 in
theorem spX7_agreeing {l : Launch} {G : GT} {d : Nat}  (hd : 2 ≤ d)   {a1 : Int32} {a2 : Int32} {a3 : Int32} {σ : St} {post : Int32 → St → Prop} (hw : wpX7_agreeing  a1 a2 a3 σ post) : Sp l G d yX7_agreeing cX7_agreeing 8 (some .int) [.ref (G.2.2.1 64), .int a1, .int a2, .int a3] σ (fun v τ => ∃ r : Int32, v = some (.int r) ∧ post r τ) := by
  refine Sp.of (by decide) (by decide) fun X C hr hR hnl => ?_
  show Go X G 0 [(0, .ref (G.2.2.1 64)), (1, .int a1), (2, .int a2), (3, .int a3)] [] σ
  have hw : ∃ n, wbX7_agreeing_6 post n a2 a3 0 a1 σ := hw
  refine go_iconst (v := 0) C rfl dX7_agreeing_0 ?_
  refine go_istore (lv2 := [(4, .int 0), (0, .ref (G.2.2.1 64)), (1, .int a1), (2, .int a2), (3, .int a3)]) C (by rw [hnl]; decide) rfl dX7_agreeing_1 ?_
  refine go_iload_n C 2 rfl rfl dX7_agreeing_3 ?_
  refine go_istore (lv2 := [(5, .int a1), (4, .int 0), (0, .ref (G.2.2.1 64)), (1, .int a1), (2, .int a2), (3, .int a3)]) C (by rw [hnl]; decide) rfl dX7_agreeing_4 ?_
  refine go_sub [2, 4, 5, 1, 0] rfl ?_
  obtain ⟨n_0, hw⟩ := hw
  exact (gbX7_agreeing_6 C hr hR hnl hd) n_0 _ _ _ _ _ hw
-- CradleNames$Press.bound(IIIZ)I
def wbX7_bound_6   (post : Int32 → St → Prop) : Nat → Int32 → Int32 → Int32 → Int32 → Int32 → Int32 → St → Prop
  | 0, _, _, _, _, _, _, _ => False
  | n + 1, v1, v2, v3, v4, v5, v6, σ =>
    ((6 ≤ v6 →
      post v5 σ) ∧
    (¬ 6 ≤ v6 →
      ((¬ ((v1 >>> (v6 &&& 31)) &&& 1) = 1 →
        ∀ v6_1 : Int32, v6_1 = v6 + 1 →
        wbX7_bound_6 post n v1 v2 v3 v4 v5 v6_1 σ) ∧
      (((v1 >>> (v6 &&& 31)) &&& 1) = 1 →
        wpX7_brought v6 v2 v3 σ (fun r_2 σ_3 =>
        ((v5 = (-1) →
          ∀ v6_4 : Int32, v6_4 = v6 + 1 →
          wbX7_bound_6 post n v1 v2 v3 v4 r_2 v6_4 σ_3) ∧
        (¬ v5 = (-1) →
          ((v4 = 0 →
            ((v5 ≤ r_2 →
              ∀ v6_5 : Int32, v6_5 = v6 + 1 →
              wbX7_bound_6 post n v1 v2 v3 v4 v5 v6_5 σ_3) ∧
            (¬ v5 ≤ r_2 →
              ∀ v6_6 : Int32, v6_6 = v6 + 1 →
              wbX7_bound_6 post n v1 v2 v3 v4 r_2 v6_6 σ_3))) ∧
          (¬ v4 = 0 →
            ((r_2 ≤ v5 →
              ∀ v6_7 : Int32, v6_7 = v6 + 1 →
              wbX7_bound_6 post n v1 v2 v3 v4 v5 v6_7 σ_3) ∧
            (¬ r_2 ≤ v5 →
              ∀ v6_8 : Int32, v6_8 = v6 + 1 →
              wbX7_bound_6 post n v1 v2 v3 v4 r_2 v6_8 σ_3)))))))))))
def wpX7_bound  (a1 : Int32) (a2 : Int32) (a3 : Int32) (a4 : Int32) (σ : St) (post : Int32 → St → Prop) : Prop :=
  ∃ n, wbX7_bound_6 post n a1 a2 a3 a4 (-1) 0 σ
set_option maxRecDepth 20000 in
set_option maxHeartbeats 4000000 in
theorem gbX7_bound_6 {X : XT} {G : GT} {l : Launch} {d : Nat}  {post : Int32 → St → Prop} (C : Cx X G cX7_bound RX7) (hr : Rt X G (some .int) (fun v τ => ∃ r : Int32, v = some (.int r) ∧ post r τ)) (hR : Rm X l d) (hnl : X.2.2.2.2.2.2.2.2.2.2.1 = 8)  (hd : 2 ≤ d)   
    : ∀ (n : Nat) (v1 : Int32) (v2 : Int32) (v3 : Int32) (v4 : Int32) (v5 : Int32) (v6 : Int32) (σ : St), wbX7_bound_6   post n v1 v2 v3 v4 v5 v6 σ → Go X G 6 [(0, .ref (G.2.2.1 64)), (1, .int v1), (2, .int v2), (3, .int v3), (4, .int v4), (5, .int v5), (6, .int v6)] [] σ := by
  intro n
  induction n with
  | zero => intro v1 v2 v3 v4 v5 v6 σ hw; exact hw.elim
  | succ n ih =>
    intro v1 v2 v3 v4 v5 v6 σ hw
    have hw : ((6 ≤ v6 →
      post v5 σ) ∧
    (¬ 6 ≤ v6 →
      ((¬ ((v1 >>> (v6 &&& 31)) &&& 1) = 1 →
        ∀ v6_1 : Int32, v6_1 = v6 + 1 →
        wbX7_bound_6 post n v1 v2 v3 v4 v5 v6_1 σ) ∧
      (((v1 >>> (v6 &&& 31)) &&& 1) = 1 →
        wpX7_brought v6 v2 v3 σ (fun r_2 σ_3 =>
        ((v5 = (-1) →
          ∀ v6_4 : Int32, v6_4 = v6 + 1 →
          wbX7_bound_6 post n v1 v2 v3 v4 r_2 v6_4 σ_3) ∧
        (¬ v5 = (-1) →
          ((v4 = 0 →
            ((v5 ≤ r_2 →
              ∀ v6_5 : Int32, v6_5 = v6 + 1 →
              wbX7_bound_6 post n v1 v2 v3 v4 v5 v6_5 σ_3) ∧
            (¬ v5 ≤ r_2 →
              ∀ v6_6 : Int32, v6_6 = v6 + 1 →
              wbX7_bound_6 post n v1 v2 v3 v4 r_2 v6_6 σ_3))) ∧
          (¬ v4 = 0 →
            ((r_2 ≤ v5 →
              ∀ v6_7 : Int32, v6_7 = v6 + 1 →
              wbX7_bound_6 post n v1 v2 v3 v4 v5 v6_7 σ_3) ∧
            (¬ r_2 ≤ v5 →
              ∀ v6_8 : Int32, v6_8 = v6 + 1 →
              wbX7_bound_6 post n v1 v2 v3 v4 r_2 v6_8 σ_3))))))))))) := hw
    refine go_iload C 6 rfl dX7_bound_6 ?_
    refine go_bipush (v := 6) C rfl dX7_bound_8 ?_
    refine go_icmp_ge C 71 rfl dX7_bound_10 (fun hc => ?_) (fun hc => ?_)
    · replace hw := hw.1 hc
      refine go_iload C 5 rfl dX7_bound_71 ?_
      exact go_iret C hr ⟨_, rfl, hw⟩ dX7_bound_73
    · replace hw := hw.2 hc
      refine go_iload_n C 1 rfl rfl dX7_bound_13 ?_
      refine go_iload C 6 rfl dX7_bound_14 ?_
      refine go_ishr C dX7_bound_16 ?_
      refine go_iconst (v := 1) C rfl dX7_bound_17 ?_
      refine go_iand C dX7_bound_18 ?_
      refine go_iconst (v := 1) C rfl dX7_bound_19 ?_
      refine go_icmp_ne C 65 rfl dX7_bound_20 (fun hc => ?_) (fun hc => ?_)
      · replace hw := hw.1 hc
        obtain ⟨v6_1, ev6_1⟩ : ∃ z : Int32, z = v6 + 1 := ⟨_, rfl⟩
        replace hw := hw v6_1 ev6_1
        refine go_iinc (v := v6_1) (lv2 := [(6, .int v6_1), (0, .ref (G.2.2.1 64)), (1, .int v1), (2, .int v2), (3, .int v3), (4, .int v4), (5, .int v5)]) C 6 rfl (by rw [ev6_1]; rfl) (by rw [hnl]; decide) rfl dX7_bound_65 ?_
        refine go_goto C 6 rfl dX7_bound_68 ?_
        refine go_sub [1, 2, 3, 4, 5, 6, 0] rfl ?_
        exact ih _ _ _ _ _ _ _ hw
      · replace hw := hw.2 hc
        refine go_aload_n C 0 rfl rfl dX7_bound_23 ?_
        refine go_iload C 6 rfl dX7_bound_24 ?_
        refine go_iload_n C 2 rfl rfl dX7_bound_26 ?_
        refine go_iload_n C 3 rfl rfl dX7_bound_27 ?_
        refine go_callV (as := [.int v6, .int v2, .int v3]) C hR (shX7 G) ltX7 cwX7_46 (Nat.le_trans (by decide) hd) (by decide) rfl rfl (by decide) dX7_bound_28 (spX7_brought (Nat.le_refl _) hw) (fun v_ τ_ hw => ?_)
        obtain ⟨r_2, rfl, hw⟩ := hw
        obtain ⟨σ_3, rfl⟩ : ∃ z, z = τ_ := ⟨_, rfl⟩
        refine go_istore (lv2 := [(7, .int r_2), (0, .ref (G.2.2.1 64)), (1, .int v1), (2, .int v2), (3, .int v3), (4, .int v4), (5, .int v5), (6, .int v6)]) C (by rw [hnl]; decide) rfl dX7_bound_31 ?_
        refine go_iload C 6 rfl dX7_bound_33 ?_
        refine go_iconst (v := (-1)) C rfl dX7_bound_35 ?_
        refine go_icmp_eq C 61 rfl dX7_bound_36 (fun hc => ?_) (fun hc => ?_)
        · replace hw := hw.1 hc
          refine go_iload C 0 rfl dX7_bound_61 ?_
          refine go_istore (lv2 := [(5, .int r_2), (7, .int r_2), (0, .ref (G.2.2.1 64)), (1, .int v1), (2, .int v2), (3, .int v3), (4, .int v4), (6, .int v6)]) C (by rw [hnl]; decide) rfl dX7_bound_63 ?_
          obtain ⟨v6_4, ev6_4⟩ : ∃ z : Int32, z = v6 + 1 := ⟨_, rfl⟩
          replace hw := hw v6_4 ev6_4
          refine go_iinc (v := v6_4) (lv2 := [(6, .int v6_4), (5, .int r_2), (7, .int r_2), (0, .ref (G.2.2.1 64)), (1, .int v1), (2, .int v2), (3, .int v3), (4, .int v4)]) C 7 rfl (by rw [ev6_4]; rfl) (by rw [hnl]; decide) rfl dX7_bound_65 ?_
          refine go_goto C 6 rfl dX7_bound_68 ?_
          refine go_sub [3, 4, 5, 6, 7, 1, 0] rfl ?_
          exact ih _ _ _ _ _ _ _ hw
        · replace hw := hw.2 hc
          refine go_iload C 5 rfl dX7_bound_39 ?_
          refine go_if_eq C 54 rfl dX7_bound_41 (fun hc => ?_) (fun hc => ?_)
          · replace hw := hw.1 hc
            refine go_iload C 0 rfl dX7_bound_54 ?_
            refine go_iload C 6 rfl dX7_bound_56 ?_
            refine go_icmp_ge C 65 rfl dX7_bound_58 (fun hc => ?_) (fun hc => ?_)
            · replace hw := hw.1 hc
              obtain ⟨v6_5, ev6_5⟩ : ∃ z : Int32, z = v6 + 1 := ⟨_, rfl⟩
              replace hw := hw v6_5 ev6_5
              refine go_iinc (v := v6_5) (lv2 := [(6, .int v6_5), (7, .int r_2), (0, .ref (G.2.2.1 64)), (1, .int v1), (2, .int v2), (3, .int v3), (4, .int v4), (5, .int v5)]) C 7 rfl (by rw [ev6_5]; rfl) (by rw [hnl]; decide) rfl dX7_bound_65 ?_
              refine go_goto C 6 rfl dX7_bound_68 ?_
              refine go_sub [2, 3, 4, 5, 6, 7, 0] rfl ?_
              exact ih _ _ _ _ _ _ _ hw
            · replace hw := hw.2 hc
              refine go_iload C 0 rfl dX7_bound_61 ?_
              refine go_istore (lv2 := [(5, .int r_2), (7, .int r_2), (0, .ref (G.2.2.1 64)), (1, .int v1), (2, .int v2), (3, .int v3), (4, .int v4), (6, .int v6)]) C (by rw [hnl]; decide) rfl dX7_bound_63 ?_
              obtain ⟨v6_6, ev6_6⟩ : ∃ z : Int32, z = v6 + 1 := ⟨_, rfl⟩
              replace hw := hw v6_6 ev6_6
              refine go_iinc (v := v6_6) (lv2 := [(6, .int v6_6), (5, .int r_2), (7, .int r_2), (0, .ref (G.2.2.1 64)), (1, .int v1), (2, .int v2), (3, .int v3), (4, .int v4)]) C 7 rfl (by rw [ev6_6]; rfl) (by rw [hnl]; decide) rfl dX7_bound_65 ?_
              refine go_goto C 6 rfl dX7_bound_68 ?_
              refine go_sub [3, 4, 5, 6, 7, 1, 0] rfl ?_
              exact ih _ _ _ _ _ _ _ hw
          · replace hw := hw.2 hc
            refine go_iload C 0 rfl dX7_bound_44 ?_
            refine go_iload C 6 rfl dX7_bound_46 ?_
            refine go_icmp_le C 65 rfl dX7_bound_48 (fun hc => ?_) (fun hc => ?_)
            · replace hw := hw.1 hc
              obtain ⟨v6_7, ev6_7⟩ : ∃ z : Int32, z = v6 + 1 := ⟨_, rfl⟩
              replace hw := hw v6_7 ev6_7
              refine go_iinc (v := v6_7) (lv2 := [(6, .int v6_7), (7, .int r_2), (0, .ref (G.2.2.1 64)), (1, .int v1), (2, .int v2), (3, .int v3), (4, .int v4), (5, .int v5)]) C 7 rfl (by rw [ev6_7]; rfl) (by rw [hnl]; decide) rfl dX7_bound_65 ?_
              refine go_goto C 6 rfl dX7_bound_68 ?_
              refine go_sub [2, 3, 4, 5, 6, 7, 0] rfl ?_
              exact ih _ _ _ _ _ _ _ hw
            · replace hw := hw.2 hc
              refine go_goto C 61 rfl dX7_bound_51 ?_
              refine go_iload C 0 rfl dX7_bound_61 ?_
              refine go_istore (lv2 := [(5, .int r_2), (7, .int r_2), (0, .ref (G.2.2.1 64)), (1, .int v1), (2, .int v2), (3, .int v3), (4, .int v4), (6, .int v6)]) C (by rw [hnl]; decide) rfl dX7_bound_63 ?_
              obtain ⟨v6_8, ev6_8⟩ : ∃ z : Int32, z = v6 + 1 := ⟨_, rfl⟩
              replace hw := hw v6_8 ev6_8
              refine go_iinc (v := v6_8) (lv2 := [(6, .int v6_8), (5, .int r_2), (7, .int r_2), (0, .ref (G.2.2.1 64)), (1, .int v1), (2, .int v2), (3, .int v3), (4, .int v4)]) C 7 rfl (by rw [ev6_8]; rfl) (by rw [hnl]; decide) rfl dX7_bound_65 ?_
              refine go_goto C 6 rfl dX7_bound_68 ?_
              refine go_sub [3, 4, 5, 6, 7, 1, 0] rfl ?_
              exact ih _ _ _ _ _ _ _ hw
set_option maxRecDepth 20000 in
set_option maxHeartbeats 4000000 in
theorem spX7_bound {l : Launch} {G : GT} {d : Nat}  (hd : 2 ≤ d)   {a1 : Int32} {a2 : Int32} {a3 : Int32} {a4 : Int32} {σ : St} {post : Int32 → St → Prop} (hw : wpX7_bound  a1 a2 a3 a4 σ post) : Sp l G d yX7_bound cX7_bound 8 (some .int) [.ref (G.2.2.1 64), .int a1, .int a2, .int a3, .int a4] σ (fun v τ => ∃ r : Int32, v = some (.int r) ∧ post r τ) := by
  refine Sp.of (by decide) (by decide) fun X C hr hR hnl => ?_
  show Go X G 0 [(0, .ref (G.2.2.1 64)), (1, .int a1), (2, .int a2), (3, .int a3), (4, .int a4)] [] σ
  have hw : ∃ n, wbX7_bound_6 post n a1 a2 a3 a4 (-1) 0 σ := hw
  refine go_iconst (v := (-1)) C rfl dX7_bound_0 ?_
  refine go_istore (lv2 := [(5, .int (-1)), (0, .ref (G.2.2.1 64)), (1, .int a1), (2, .int a2), (3, .int a3), (4, .int a4)]) C (by rw [hnl]; decide) rfl dX7_bound_1 ?_
  refine go_iconst (v := 0) C rfl dX7_bound_3 ?_
  refine go_istore (lv2 := [(6, .int 0), (5, .int (-1)), (0, .ref (G.2.2.1 64)), (1, .int a1), (2, .int a2), (3, .int a3), (4, .int a4)]) C (by rw [hnl]; decide) rfl dX7_bound_4 ?_
  refine go_sub [2, 3, 4, 5, 6, 1, 0] rfl ?_
  obtain ⟨n_0, hw⟩ := hw
  exact (gbX7_bound_6 C hr hR hnl hd) n_0 _ _ _ _ _ _ _ hw
-- CradleNames$Press.width(III)I
def wpX7_width  (a1 : Int32) (a2 : Int32) (a3 : Int32) (σ : St) (post : Int32 → St → Prop) : Prop :=
  wpX7_bound a1 a2 a3 1 σ (fun r_1 σ_2 =>
  wpX7_bound a1 a2 a3 0 σ_2 (fun r_3 σ_4 =>
  post (r_1 - r_3) σ_4))
set_option maxRecDepth 20000 in
set_option maxHeartbeats 4000000 in
theorem spX7_width {l : Launch} {G : GT} {d : Nat}  (hd : 3 ≤ d)   {a1 : Int32} {a2 : Int32} {a3 : Int32} {σ : St} {post : Int32 → St → Prop} (hw : wpX7_width  a1 a2 a3 σ post) : Sp l G d yX7_width cX7_width 4 (some .int) [.ref (G.2.2.1 64), .int a1, .int a2, .int a3] σ (fun v τ => ∃ r : Int32, v = some (.int r) ∧ post r τ) := by
  refine Sp.of (by decide) (by decide) fun X C hr hR hnl => ?_
  show Go X G 0 [(0, .ref (G.2.2.1 64)), (1, .int a1), (2, .int a2), (3, .int a3)] [] σ
  have hw : wpX7_bound a1 a2 a3 1 σ (fun r_1 σ_2 =>
  wpX7_bound a1 a2 a3 0 σ_2 (fun r_3 σ_4 =>
  post (r_1 - r_3) σ_4)) := hw
  refine go_aload_n C 0 rfl rfl dX7_width_0 ?_
  refine go_iload_n C 1 rfl rfl dX7_width_1 ?_
  refine go_iload_n C 2 rfl rfl dX7_width_2 ?_
  refine go_iload_n C 3 rfl rfl dX7_width_3 ?_
  refine go_iconst (v := 1) C rfl dX7_width_4 ?_
  refine go_callV (as := [.int a1, .int a2, .int a3, .int 1]) C hR (shX7 G) ltX7 cwX7_49 (Nat.le_trans (by decide) hd) (by decide) rfl rfl (by decide) dX7_width_5 (spX7_bound (Nat.le_refl _) hw) (fun v_ τ_ hw => ?_)
  obtain ⟨r_1, rfl, hw⟩ := hw
  obtain ⟨σ_2, rfl⟩ : ∃ z, z = τ_ := ⟨_, rfl⟩
  refine go_aload_n C 0 rfl rfl dX7_width_8 ?_
  refine go_iload_n C 1 rfl rfl dX7_width_9 ?_
  refine go_iload_n C 2 rfl rfl dX7_width_10 ?_
  refine go_iload_n C 3 rfl rfl dX7_width_11 ?_
  refine go_iconst (v := 0) C rfl dX7_width_12 ?_
  refine go_callV (as := [.int a1, .int a2, .int a3, .int 0]) C hR (shX7 G) ltX7 cwX7_49 (Nat.le_trans (by decide) hd) (by decide) rfl rfl (by decide) dX7_width_13 (spX7_bound (Nat.le_refl _) hw) (fun v_ τ_ hw => ?_)
  obtain ⟨r_3, rfl, hw⟩ := hw
  obtain ⟨σ_4, rfl⟩ : ∃ z, z = τ_ := ⟨_, rfl⟩
  refine go_isub C dX7_width_16 ?_
  exact go_iret C hr ⟨_, rfl, hw⟩ dX7_width_17
-- CradleNames$Press.widestSpot(II)I
def wbX7_widestSpot_8   (post : Int32 → St → Prop) : Nat → Int32 → Int32 → Int32 → Int32 → Int32 → St → Prop
  | 0, _, _, _, _, _, _ => False
  | n + 1, v1, v2, v3, v4, v5, σ =>
    ((96 ≤ v5 →
      post v3 σ) ∧
    (¬ 96 ≤ v5 →
      wpX7_width v1 v2 v5 σ (fun r_1 σ_2 =>
      ((r_1 ≤ v4 →
        ∀ v5_3 : Int32, v5_3 = v5 + 1 →
        wbX7_widestSpot_8 post n v1 v2 v3 v4 v5_3 σ_2) ∧
      (¬ r_1 ≤ v4 →
        ∀ v5_4 : Int32, v5_4 = v5 + 1 →
        wbX7_widestSpot_8 post n v1 v2 v5 r_1 v5_4 σ_2)))))
def wpX7_widestSpot  (a1 : Int32) (a2 : Int32) (σ : St) (post : Int32 → St → Prop) : Prop :=
  ∃ n, wbX7_widestSpot_8 post n a1 a2 (-1) 0 0 σ
set_option maxRecDepth 20000 in
set_option maxHeartbeats 4000000 in
theorem gbX7_widestSpot_8 {X : XT} {G : GT} {l : Launch} {d : Nat}  {post : Int32 → St → Prop} (C : Cx X G cX7_widestSpot RX7) (hr : Rt X G (some .int) (fun v τ => ∃ r : Int32, v = some (.int r) ∧ post r τ)) (hR : Rm X l d) (hnl : X.2.2.2.2.2.2.2.2.2.2.1 = 7)  (hd : 4 ≤ d)   
    : ∀ (n : Nat) (v1 : Int32) (v2 : Int32) (v3 : Int32) (v4 : Int32) (v5 : Int32) (σ : St), wbX7_widestSpot_8   post n v1 v2 v3 v4 v5 σ → Go X G 8 [(0, .ref (G.2.2.1 64)), (1, .int v1), (2, .int v2), (3, .int v3), (4, .int v4), (5, .int v5)] [] σ := by
  intro n
  induction n with
  | zero => intro v1 v2 v3 v4 v5 σ hw; exact hw.elim
  | succ n ih =>
    intro v1 v2 v3 v4 v5 σ hw
    have hw : ((96 ≤ v5 →
      post v3 σ) ∧
    (¬ 96 ≤ v5 →
      wpX7_width v1 v2 v5 σ (fun r_1 σ_2 =>
      ((r_1 ≤ v4 →
        ∀ v5_3 : Int32, v5_3 = v5 + 1 →
        wbX7_widestSpot_8 post n v1 v2 v3 v4 v5_3 σ_2) ∧
      (¬ r_1 ≤ v4 →
        ∀ v5_4 : Int32, v5_4 = v5 + 1 →
        wbX7_widestSpot_8 post n v1 v2 v5 r_1 v5_4 σ_2))))) := hw
    refine go_iload C 5 rfl dX7_widestSpot_8 ?_
    refine go_bipush (v := 96) C rfl dX7_widestSpot_10 ?_
    refine go_icmp_ge C 45 rfl dX7_widestSpot_12 (fun hc => ?_) (fun hc => ?_)
    · replace hw := hw.1 hc
      refine go_iload_n C 3 rfl rfl dX7_widestSpot_45 ?_
      exact go_iret C hr ⟨_, rfl, hw⟩ dX7_widestSpot_46
    · replace hw := hw.2 hc
      refine go_aload_n C 0 rfl rfl dX7_widestSpot_15 ?_
      refine go_iload_n C 1 rfl rfl dX7_widestSpot_16 ?_
      refine go_iload_n C 2 rfl rfl dX7_widestSpot_17 ?_
      refine go_iload C 5 rfl dX7_widestSpot_18 ?_
      refine go_callV (as := [.int v1, .int v2, .int v5]) C hR (shX7 G) ltX7 cwX7_53 (Nat.le_trans (by decide) hd) (by decide) rfl rfl (by decide) dX7_widestSpot_20 (spX7_width (Nat.le_refl _) hw) (fun v_ τ_ hw => ?_)
      obtain ⟨r_1, rfl, hw⟩ := hw
      obtain ⟨σ_2, rfl⟩ : ∃ z, z = τ_ := ⟨_, rfl⟩
      refine go_istore (lv2 := [(6, .int r_1), (0, .ref (G.2.2.1 64)), (1, .int v1), (2, .int v2), (3, .int v3), (4, .int v4), (5, .int v5)]) C (by rw [hnl]; decide) rfl dX7_widestSpot_23 ?_
      refine go_iload C 0 rfl dX7_widestSpot_25 ?_
      refine go_iload C 5 rfl dX7_widestSpot_27 ?_
      refine go_icmp_le C 39 rfl dX7_widestSpot_29 (fun hc => ?_) (fun hc => ?_)
      · replace hw := hw.1 hc
        obtain ⟨v5_3, ev5_3⟩ : ∃ z : Int32, z = v5 + 1 := ⟨_, rfl⟩
        replace hw := hw v5_3 ev5_3
        refine go_iinc (v := v5_3) (lv2 := [(5, .int v5_3), (6, .int r_1), (0, .ref (G.2.2.1 64)), (1, .int v1), (2, .int v2), (3, .int v3), (4, .int v4)]) C 6 rfl (by rw [ev5_3]; rfl) (by rw [hnl]; decide) rfl dX7_widestSpot_39 ?_
        refine go_goto C 8 rfl dX7_widestSpot_42 ?_
        refine go_sub [2, 3, 4, 5, 6, 0] rfl ?_
        exact ih _ _ _ _ _ _ hw
      · replace hw := hw.2 hc
        refine go_iload C 6 rfl dX7_widestSpot_32 ?_
        refine go_istore_n (lv2 := [(3, .int v5), (6, .int r_1), (0, .ref (G.2.2.1 64)), (1, .int v1), (2, .int v2), (4, .int v4), (5, .int v5)]) C rfl (by rw [hnl]; decide) rfl dX7_widestSpot_34 ?_
        refine go_iload C 1 rfl dX7_widestSpot_35 ?_
        refine go_istore (lv2 := [(4, .int r_1), (3, .int v5), (6, .int r_1), (0, .ref (G.2.2.1 64)), (1, .int v1), (2, .int v2), (5, .int v5)]) C (by rw [hnl]; decide) rfl dX7_widestSpot_37 ?_
        obtain ⟨v5_4, ev5_4⟩ : ∃ z : Int32, z = v5 + 1 := ⟨_, rfl⟩
        replace hw := hw v5_4 ev5_4
        refine go_iinc (v := v5_4) (lv2 := [(5, .int v5_4), (4, .int r_1), (3, .int v5), (6, .int r_1), (0, .ref (G.2.2.1 64)), (1, .int v1), (2, .int v2)]) C 6 rfl (by rw [ev5_4]; rfl) (by rw [hnl]; decide) rfl dX7_widestSpot_39 ?_
        refine go_goto C 8 rfl dX7_widestSpot_42 ?_
        refine go_sub [4, 5, 6, 2, 1, 0] rfl ?_
        exact ih _ _ _ _ _ _ hw
set_option maxRecDepth 20000 in
set_option maxHeartbeats 4000000 in
theorem spX7_widestSpot {l : Launch} {G : GT} {d : Nat}  (hd : 4 ≤ d)   {a1 : Int32} {a2 : Int32} {σ : St} {post : Int32 → St → Prop} (hw : wpX7_widestSpot  a1 a2 σ post) : Sp l G d yX7_widestSpot cX7_widestSpot 7 (some .int) [.ref (G.2.2.1 64), .int a1, .int a2] σ (fun v τ => ∃ r : Int32, v = some (.int r) ∧ post r τ) := by
  refine Sp.of (by decide) (by decide) fun X C hr hR hnl => ?_
  show Go X G 0 [(0, .ref (G.2.2.1 64)), (1, .int a1), (2, .int a2)] [] σ
  have hw : ∃ n, wbX7_widestSpot_8 post n a1 a2 (-1) 0 0 σ := hw
  refine go_iconst (v := (-1)) C rfl dX7_widestSpot_0 ?_
  refine go_istore_n (lv2 := [(3, .int (-1)), (0, .ref (G.2.2.1 64)), (1, .int a1), (2, .int a2)]) C rfl (by rw [hnl]; decide) rfl dX7_widestSpot_1 ?_
  refine go_iconst (v := 0) C rfl dX7_widestSpot_2 ?_
  refine go_istore (lv2 := [(4, .int 0), (3, .int (-1)), (0, .ref (G.2.2.1 64)), (1, .int a1), (2, .int a2)]) C (by rw [hnl]; decide) rfl dX7_widestSpot_3 ?_
  refine go_iconst (v := 0) C rfl dX7_widestSpot_5 ?_
  refine go_istore (lv2 := [(5, .int 0), (4, .int 0), (3, .int (-1)), (0, .ref (G.2.2.1 64)), (1, .int a1), (2, .int a2)]) C (by rw [hnl]; decide) rfl dX7_widestSpot_6 ?_
  refine go_sub [3, 4, 5, 2, 1, 0] rfl ?_
  obtain ⟨n_0, hw⟩ := hw
  exact (gbX7_widestSpot_8 C hr hR hnl hd) n_0 _ _ _ _ _ _ hw
-- CradleNames$Reader.hasRoom()Z
def wpX8_hasRoom   (σ : St) (post : Int32 → St → Prop) : Prop :=
  ((300 < ((gI σ 42 1) + 20) →
    post 0 σ) ∧
  (¬ 300 < ((gI σ 42 1) + 20) →
    post 1 σ))
set_option maxRecDepth 20000 in
set_option maxHeartbeats 4000000 in
theorem spX8_hasRoom {l : Launch} {G : GT} {d : Nat}  (hd : 1 ≤ d)    {σ : St} {post : Int32 → St → Prop} (hw : wpX8_hasRoom   σ post) : Sp l G d yX8_hasRoom cX8_hasRoom 1 (some .boolean) [.ref (G.2.2.1 42)] σ (fun v τ => ∃ r : Int32, v = some (.int r) ∧ post r τ) := by
  refine Sp.of (by decide) (by decide) fun X C hr hR hnl => ?_
  show Go X G 0 [(0, .ref (G.2.2.1 42))] [] σ
  have hw : ((300 < ((gI σ 42 1) + 20) →
    post 0 σ) ∧
  (¬ 300 < ((gI σ 42 1) + 20) →
    post 1 σ)) := hw
  refine go_aload_n C 0 rfl rfl dX8_hasRoom_0 ?_
  refine go_get (v := .int (gI σ 42 1)) C (shX8 G) ltX8 lkX8_31 rfl dX8_hasRoom_1 ?_
  refine go_bipush (v := 20) C rfl dX8_hasRoom_4 ?_
  refine go_iadd C dX8_hasRoom_6 ?_
  refine go_sipush (v := 300) C rfl dX8_hasRoom_7 ?_
  refine go_icmp_gt C 17 rfl dX8_hasRoom_10 (fun hc => ?_) (fun hc => ?_)
  · replace hw := hw.1 hc
    refine go_iconst (v := 0) C rfl dX8_hasRoom_17 ?_
    exact go_zret C hr rfl ⟨_, rfl, hw⟩ dX8_hasRoom_18
  · replace hw := hw.2 hc
    refine go_iconst (v := 1) C rfl dX8_hasRoom_13 ?_
    refine go_goto C 18 rfl dX8_hasRoom_14 ?_
    exact go_zret C hr rfl ⟨_, rfl, hw⟩ dX8_hasRoom_18
-- CradleNames$Reader.put(I)V
def wbX8_put_3   (post : St → Prop) : Nat → Int32 → Int32 → St → Prop
  | 0, _, _, _ => False
  | n + 1, v1, v2, σ =>
    ((v2 < 0 →
      post σ) ∧
    (¬ v2 < 0 →
      ((300 ≤ (gI σ 42 1) →
        post σ) ∧
      (¬ 300 ≤ (gI σ 42 1) →
        vp_in (gI σ 42 1) 300 ∧ (
        ∀ σ_1 : St, σ_1 = sI σ 43 (gI σ 42 1).toNatClampNeg ((v1.toUInt32 >>> (v2.toUInt32 &&& Int32.toUInt32 31)).toInt32 &&& 255) →
        ∀ σ_2 : St, σ_2 = sI σ_1 42 1 ((gI σ_1 42 1) + 1) →
        ∀ v2_3 : Int32, v2_3 = v2 + (-8) →
        wbX8_put_3 post n v1 v2_3 σ_2)))))
def wpX8_put  (a1 : Int32) (σ : St) (post : St → Prop) : Prop :=
  ∃ n, wbX8_put_3 post n a1 24 σ
set_option maxRecDepth 20000 in
set_option maxHeartbeats 4000000 in
theorem gbX8_put_3 {X : XT} {G : GT} {l : Launch} {d : Nat}  {post : St → Prop} (C : Cx X G cX8_put RX8) (hr : Rt X G none (fun v τ => v = none ∧ post τ)) (hR : Rm X l d) (hnl : X.2.2.2.2.2.2.2.2.2.2.1 = 3)  (hd : 1 ≤ d)   
    : ∀ (n : Nat) (v1 : Int32) (v2 : Int32) (σ : St), wbX8_put_3   post n v1 v2 σ → Go X G 3 [(0, .ref (G.2.2.1 42)), (1, .int v1), (2, .int v2)] [] σ := by
  intro n
  induction n with
  | zero => intro v1 v2 σ hw; exact hw.elim
  | succ n ih =>
    intro v1 v2 σ hw
    have hw : ((v2 < 0 →
      post σ) ∧
    (¬ v2 < 0 →
      ((300 ≤ (gI σ 42 1) →
        post σ) ∧
      (¬ 300 ≤ (gI σ 42 1) →
        vp_in (gI σ 42 1) 300 ∧ (
        ∀ σ_1 : St, σ_1 = sI σ 43 (gI σ 42 1).toNatClampNeg ((v1.toUInt32 >>> (v2.toUInt32 &&& Int32.toUInt32 31)).toInt32 &&& 255) →
        ∀ σ_2 : St, σ_2 = sI σ_1 42 1 ((gI σ_1 42 1) + 1) →
        ∀ v2_3 : Int32, v2_3 = v2 + (-8) →
        wbX8_put_3 post n v1 v2_3 σ_2))))) := hw
    refine go_iload_n C 2 rfl rfl dX8_put_3 ?_
    refine go_if_lt C 49 rfl dX8_put_4 (fun hc => ?_) (fun hc => ?_)
    · replace hw := hw.1 hc
      exact go_vret C hr hw dX8_put_49
    · replace hw := hw.2 hc
      refine go_aload_n C 0 rfl rfl dX8_put_7 ?_
      refine go_get (v := .int (gI σ 42 1)) C (shX8 G) ltX8 lkX8_31 rfl dX8_put_8 ?_
      refine go_sipush (v := 300) C rfl dX8_put_11 ?_
      refine go_icmp_ge C 49 rfl dX8_put_14 (fun hc => ?_) (fun hc => ?_)
      · replace hw := hw.1 hc
        exact go_vret C hr hw dX8_put_49
      · replace hw := hw.2 hc
        refine go_aload_n C 0 rfl rfl dX8_put_17 ?_
        refine go_get (v := .ref (G.2.2.1 43)) C (shX8 G) ltX8 lkX8_11 rfl dX8_put_18 ?_
        refine go_aload_n C 0 rfl rfl dX8_put_21 ?_
        refine go_get (v := .int (gI σ 42 1)) C (shX8 G) ltX8 lkX8_31 rfl dX8_put_22 ?_
        refine go_iload_n C 1 rfl rfl dX8_put_25 ?_
        refine go_iload_n C 2 rfl rfl dX8_put_26 ?_
        refine go_iushr C dX8_put_27 ?_
        refine go_sipush (v := 255) C rfl dX8_put_28 ?_
        refine go_iand C dX8_put_31 ?_
        refine go_iast C (saX8_bytes G) laX8_bytes hw.1 dX8_put_32 (go_nm fun σ_1 eσ_1 => ?_)
        replace hw := hw.2 σ_1 eσ_1
        refine go_aload_n C 0 rfl rfl dX8_put_33 ?_
        refine go_dup C rfl dX8_put_34 ?_
        refine go_get (v := .int (gI σ_1 42 1)) C (shX8 G) ltX8 lkX8_31 rfl dX8_put_35 ?_
        refine go_iconst (v := 1) C rfl dX8_put_38 ?_
        refine go_iadd C dX8_put_39 ?_
        refine go_puti C (shX8 G) ltX8 lpX8_31 (show 1 < 11 by decide) (pxX8_1 G _ _) dX8_put_40 (go_nm fun σ_2 eσ_2 => ?_)
        replace hw := hw σ_2 eσ_2
        obtain ⟨v2_3, ev2_3⟩ : ∃ z : Int32, z = v2 + (-8) := ⟨_, rfl⟩
        replace hw := hw v2_3 ev2_3
        refine go_iinc (v := v2_3) (lv2 := [(2, .int v2_3), (0, .ref (G.2.2.1 42)), (1, .int v1)]) C 2 rfl (by rw [ev2_3]; rfl) (by rw [hnl]; decide) rfl dX8_put_43 ?_
        refine go_goto C 3 rfl dX8_put_46 ?_
        refine go_sub [1, 2, 0] rfl ?_
        exact ih _ _ _ hw
set_option maxRecDepth 20000 in
set_option maxHeartbeats 4000000 in
theorem spX8_put {l : Launch} {G : GT} {d : Nat}  (hd : 1 ≤ d)   {a1 : Int32} {σ : St} {post : St → Prop} (hw : wpX8_put  a1 σ post) : Sp l G d yX8_put cX8_put 3 none [.ref (G.2.2.1 42), .int a1] σ (fun v τ => v = none ∧ post τ) := by
  refine Sp.of (by decide) (by decide) fun X C hr hR hnl => ?_
  show Go X G 0 [(0, .ref (G.2.2.1 42)), (1, .int a1)] [] σ
  have hw : ∃ n, wbX8_put_3 post n a1 24 σ := hw
  refine go_bipush (v := 24) C rfl dX8_put_0 ?_
  refine go_istore_n (lv2 := [(2, .int 24), (0, .ref (G.2.2.1 42)), (1, .int a1)]) C rfl (by rw [hnl]; decide) rfl dX8_put_2 ?_
  refine go_sub [1, 2, 0] rfl ?_
  obtain ⟨n_0, hw⟩ := hw
  exact (gbX8_put_3 C hr hR hnl hd) n_0 _ _ _ hw
-- CradleNames$Reader.fail(I)V
def wpX8_fail  (a1 : Int32) (σ : St) (post : St → Prop) : Prop :=
  (((gI σ 42 8) = 39 →
    post σ) ∧
  (¬ (gI σ 42 8) = 39 →
    ∀ σ_1 : St, σ_1 = sI σ 42 2 a1 →
    vp_in (gI σ_1 42 7) 301 ∧ (
    ∀ σ_2 : St, σ_2 = sI σ_1 42 3 (gI σ_1 45 (gI σ_1 42 7).toNatClampNeg) →
    ∀ σ_3 : St, σ_3 = sI σ_2 42 8 39 →
    post σ_3)))
set_option maxRecDepth 20000 in
set_option maxHeartbeats 4000000 in
theorem spX8_fail {l : Launch} {G : GT} {d : Nat}  (hd : 1 ≤ d)   {a1 : Int32} {σ : St} {post : St → Prop} (hw : wpX8_fail  a1 σ post) : Sp l G d yX8_fail cX8_fail 2 none [.ref (G.2.2.1 42), .int a1] σ (fun v τ => v = none ∧ post τ) := by
  refine Sp.of (by decide) (by decide) fun X C hr hR hnl => ?_
  show Go X G 0 [(0, .ref (G.2.2.1 42)), (1, .int a1)] [] σ
  have hw : (((gI σ 42 8) = 39 →
    post σ) ∧
  (¬ (gI σ 42 8) = 39 →
    ∀ σ_1 : St, σ_1 = sI σ 42 2 a1 →
    vp_in (gI σ_1 42 7) 301 ∧ (
    ∀ σ_2 : St, σ_2 = sI σ_1 42 3 (gI σ_1 45 (gI σ_1 42 7).toNatClampNeg) →
    ∀ σ_3 : St, σ_3 = sI σ_2 42 8 39 →
    post σ_3))) := hw
  refine go_aload_n C 0 rfl rfl dX8_fail_0 ?_
  refine go_get (v := .int (gI σ 42 8)) C (shX8 G) ltX8 lkX8_52 rfl dX8_fail_1 ?_
  refine go_bipush (v := 39) C rfl dX8_fail_4 ?_
  refine go_icmp_eq C 33 rfl dX8_fail_6 (fun hc => ?_) (fun hc => ?_)
  · replace hw := hw.1 hc
    exact go_vret C hr hw dX8_fail_33
  · replace hw := hw.2 hc
    refine go_aload_n C 0 rfl rfl dX8_fail_9 ?_
    refine go_iload_n C 1 rfl rfl dX8_fail_10 ?_
    refine go_puti C (shX8 G) ltX8 lpX8_15 (show 2 < 11 by decide) (pxX8_2 G _ _) dX8_fail_11 (go_nm fun σ_1 eσ_1 => ?_)
    replace hw := hw σ_1 eσ_1
    refine go_aload_n C 0 rfl rfl dX8_fail_14 ?_
    refine go_aload_n C 0 rfl rfl dX8_fail_15 ?_
    refine go_get (v := .ref (G.2.2.1 45)) C (shX8 G) ltX8 lkX8_25 rfl dX8_fail_16 ?_
    refine go_aload_n C 0 rfl rfl dX8_fail_19 ?_
    refine go_get (v := .int (gI σ_1 42 7)) C (shX8 G) ltX8 lkX8_49 rfl dX8_fail_20 ?_
    refine go_iald C (saX8_starts G) laX8_starts hw.1 dX8_fail_23 ?_
    replace hw := hw.2
    refine go_puti C (shX8 G) ltX8 lpX8_19 (show 3 < 11 by decide) (pxX8_3 G _ _) dX8_fail_24 (go_nm fun σ_2 eσ_2 => ?_)
    replace hw := hw σ_2 eσ_2
    refine go_aload_n C 0 rfl rfl dX8_fail_27 ?_
    refine go_bipush (v := 39) C rfl dX8_fail_28 ?_
    refine go_puti C (shX8 G) ltX8 lpX8_52 (show 8 < 11 by decide) (pxX8_8 G _ _) dX8_fail_30 (go_nm fun σ_3 eσ_3 => ?_)
    replace hw := hw σ_3 eσ_3
    exact go_vret C hr hw dX8_fail_33
-- CradleNames$Reader.advance()V
def wpX8_advance   (σ : St) (post : St → Prop) : Prop :=
  (((gI σ 42 8) = 39 →
    post σ) ∧
  (¬ (gI σ 42 8) = 39 →
    (((gI σ 42 8) = 37 →
      post σ) ∧
    (¬ (gI σ 42 8) = 37 →
      ∀ σ_1 : St, σ_1 = sI σ 42 7 ((gI σ 42 7) + 1) →
      vp_in (gI σ_1 42 7) 301 ∧ (
      ∀ σ_2 : St, σ_2 = sI σ_1 42 8 (gI σ_1 44 (gI σ_1 42 7).toNatClampNeg) →
      post σ_2)))))
set_option maxRecDepth 20000 in
set_option maxHeartbeats 4000000 in
theorem spX8_advance {l : Launch} {G : GT} {d : Nat}  (hd : 1 ≤ d)    {σ : St} {post : St → Prop} (hw : wpX8_advance   σ post) : Sp l G d yX8_advance cX8_advance 1 none [.ref (G.2.2.1 42)] σ (fun v τ => v = none ∧ post τ) := by
  refine Sp.of (by decide) (by decide) fun X C hr hR hnl => ?_
  show Go X G 0 [(0, .ref (G.2.2.1 42))] [] σ
  have hw : (((gI σ 42 8) = 39 →
    post σ) ∧
  (¬ (gI σ 42 8) = 39 →
    (((gI σ 42 8) = 37 →
      post σ) ∧
    (¬ (gI σ 42 8) = 37 →
      ∀ σ_1 : St, σ_1 = sI σ 42 7 ((gI σ 42 7) + 1) →
      vp_in (gI σ_1 42 7) 301 ∧ (
      ∀ σ_2 : St, σ_2 = sI σ_1 42 8 (gI σ_1 44 (gI σ_1 42 7).toNatClampNeg) →
      post σ_2))))) := hw
  refine go_aload_n C 0 rfl rfl dX8_advance_0 ?_
  refine go_get (v := .int (gI σ 42 8)) C (shX8 G) ltX8 lkX8_52 rfl dX8_advance_1 ?_
  refine go_bipush (v := 39) C rfl dX8_advance_4 ?_
  refine go_icmp_eq C 41 rfl dX8_advance_6 (fun hc => ?_) (fun hc => ?_)
  · replace hw := hw.1 hc
    exact go_vret C hr hw dX8_advance_41
  · replace hw := hw.2 hc
    refine go_aload_n C 0 rfl rfl dX8_advance_9 ?_
    refine go_get (v := .int (gI σ 42 8)) C (shX8 G) ltX8 lkX8_52 rfl dX8_advance_10 ?_
    refine go_bipush (v := 37) C rfl dX8_advance_13 ?_
    refine go_icmp_eq C 41 rfl dX8_advance_15 (fun hc => ?_) (fun hc => ?_)
    · replace hw := hw.1 hc
      exact go_vret C hr hw dX8_advance_41
    · replace hw := hw.2 hc
      refine go_aload_n C 0 rfl rfl dX8_advance_18 ?_
      refine go_dup C rfl dX8_advance_19 ?_
      refine go_get (v := .int (gI σ 42 7)) C (shX8 G) ltX8 lkX8_49 rfl dX8_advance_20 ?_
      refine go_iconst (v := 1) C rfl dX8_advance_23 ?_
      refine go_iadd C dX8_advance_24 ?_
      refine go_puti C (shX8 G) ltX8 lpX8_49 (show 7 < 11 by decide) (pxX8_7 G _ _) dX8_advance_25 (go_nm fun σ_1 eσ_1 => ?_)
      replace hw := hw σ_1 eσ_1
      refine go_aload_n C 0 rfl rfl dX8_advance_28 ?_
      refine go_aload_n C 0 rfl rfl dX8_advance_29 ?_
      refine go_get (v := .ref (G.2.2.1 44)) C (shX8 G) ltX8 lkX8_22 rfl dX8_advance_30 ?_
      refine go_aload_n C 0 rfl rfl dX8_advance_33 ?_
      refine go_get (v := .int (gI σ_1 42 7)) C (shX8 G) ltX8 lkX8_49 rfl dX8_advance_34 ?_
      refine go_iald C (saX8_kinds G) laX8_kinds hw.1 dX8_advance_37 ?_
      replace hw := hw.2
      refine go_puti C (shX8 G) ltX8 lpX8_52 (show 8 < 11 by decide) (pxX8_8 G _ _) dX8_advance_38 (go_nm fun σ_2 eσ_2 => ?_)
      replace hw := hw σ_2 eσ_2
      exact go_vret C hr hw dX8_advance_41
-- CradleNames$Reader.expect(I)V
def wpX8_expect  (a1 : Int32) (σ : St) (post : St → Prop) : Prop :=
  ((¬ (gI σ 42 8) = a1 →
    wpX8_fail 1 σ (fun σ_2 =>
    post σ_2)) ∧
  ((gI σ 42 8) = a1 →
    wpX8_advance  σ (fun σ_4 =>
    post σ_4)))
set_option maxRecDepth 20000 in
set_option maxHeartbeats 4000000 in
theorem spX8_expect {l : Launch} {G : GT} {d : Nat}  (hd : 2 ≤ d)   {a1 : Int32} {σ : St} {post : St → Prop} (hw : wpX8_expect  a1 σ post) : Sp l G d yX8_expect cX8_expect 2 none [.ref (G.2.2.1 42), .int a1] σ (fun v τ => v = none ∧ post τ) := by
  refine Sp.of (by decide) (by decide) fun X C hr hR hnl => ?_
  show Go X G 0 [(0, .ref (G.2.2.1 42)), (1, .int a1)] [] σ
  have hw : ((¬ (gI σ 42 8) = a1 →
    wpX8_fail 1 σ (fun σ_2 =>
    post σ_2)) ∧
  ((gI σ 42 8) = a1 →
    wpX8_advance  σ (fun σ_4 =>
    post σ_4))) := hw
  refine go_aload_n C 0 rfl rfl dX8_expect_0 ?_
  refine go_get (v := .int (gI σ 42 8)) C (shX8 G) ltX8 lkX8_52 rfl dX8_expect_1 ?_
  refine go_iload_n C 1 rfl rfl dX8_expect_4 ?_
  refine go_icmp_ne C 15 rfl dX8_expect_5 (fun hc => ?_) (fun hc => ?_)
  · replace hw := hw.1 hc
    refine go_aload_n C 0 rfl rfl dX8_expect_15 ?_
    refine go_iconst (v := 1) C rfl dX8_expect_16 ?_
    refine go_callV (as := [.int 1]) C hR (shX8 G) ltX8 cwX8_95 (Nat.le_trans (by decide) hd) (by decide) rfl rfl (by decide) dX8_expect_17 (spX8_fail (Nat.le_refl _) hw) (fun v_ τ_ hw => ?_)
    obtain ⟨rfl, hw⟩ := hw
    obtain ⟨σ_2, rfl⟩ : ∃ z, z = τ_ := ⟨_, rfl⟩
    exact go_vret C hr hw dX8_expect_20
  · replace hw := hw.2 hc
    refine go_aload_n C 0 rfl rfl dX8_expect_8 ?_
    refine go_callV (as := []) C hR (shX8 G) ltX8 cwX8_92 (Nat.le_trans (by decide) hd) (by decide) rfl rfl (by decide) dX8_expect_9 (spX8_advance (Nat.le_refl _) hw) (fun v_ τ_ hw => ?_)
    obtain ⟨rfl, hw⟩ := hw
    obtain ⟨σ_4, rfl⟩ : ∃ z, z = τ_ := ⟨_, rfl⟩
    refine go_goto C 20 rfl dX8_expect_12 ?_
    exact go_vret C hr hw dX8_expect_20
-- CradleNames$Reader.window(I)V
def wbX8_window_44  (K47 : St → Prop) (K78 : St → Prop) (post : St → Prop) (v1 : Int32) (v2 : Int32) (s0 : Int32) (s1 : Int32) (σ : St) : Prop :=
  ((s1 ≤ s0 →
    ((¬ v1 = 0 →
      ∃ k_1, gR σ 42 9 = some (30 + 2 * k_1) ∧ k_1 < 6 ∧ (
      ∀ σ_2 : St, σ_2 = sI σ (30 + 2 * k_1) 3 v2 →
      K78 σ_2)) ∧
    (v1 = 0 →
      ∃ k_3, gR σ 42 9 = some (30 + 2 * k_3) ∧ k_3 < 6 ∧ (
      ∀ σ_4 : St, σ_4 = sI σ (30 + 2 * k_3) 2 v2 →
      K78 σ_4)))) ∧
  (¬ s1 ≤ s0 →
    K47 σ))
def wbX8_window_47  (K78 : St → Prop) (post : St → Prop)  (σ : St) : Prop :=
  wpX8_fail 2 σ (fun σ_2 =>
  K78 σ_2)
def wbX8_window_78   (post : St → Prop)  (σ : St) : Prop :=
  wpX8_advance  σ (fun σ_2 =>
  post σ_2)
def wpX8_window  (a1 : Int32) (σ : St) (post : St → Prop) : Prop :=
  vp_in (gI σ 42 7) 301 ∧ (
  ∀ v2_1 : Int32, v2_1 = (gI σ 46 (gI σ 42 7).toNatClampNeg) →
  (((gI σ 42 8) = 36 →
    ((v2_1 < 1 →
      wbX8_window_47 (wbX8_window_78 post) post σ) ∧
    (¬ v2_1 < 1 →
      ((¬ a1 = 0 →
        wbX8_window_44 (wbX8_window_47 (wbX8_window_78 post) post) (wbX8_window_78 post) post a1 v2_1 60 v2_1 σ) ∧
      (a1 = 0 →
        wbX8_window_44 (wbX8_window_47 (wbX8_window_78 post) post) (wbX8_window_78 post) post a1 v2_1 20 v2_1 σ))))) ∧
  (¬ (gI σ 42 8) = 36 →
    wpX8_fail 1 σ (fun σ_3 =>
    wbX8_window_78 post σ_3))))
set_option maxRecDepth 20000 in
set_option maxHeartbeats 4000000 in
theorem gbX8_window_44 {X : XT} {G : GT} {l : Launch} {d : Nat}  {post : St → Prop} (C : Cx X G cX8_window RX8) (hr : Rt X G none (fun v τ => v = none ∧ post τ)) (hR : Rm X l d) (hnl : X.2.2.2.2.2.2.2.2.2.2.1 = 3)  (hd : 2 ≤ d)  {K47 : St → Prop} {K78 : St → Prop} (hK47 : ∀ (σ : St), K47 σ → Go X G 47 [(0, .ref (G.2.2.1 42))] [] σ) (hK78 : ∀ (σ : St), K78 σ → Go X G 78 [(0, .ref (G.2.2.1 42))] [] σ)
    : ∀ (v1 : Int32) (v2 : Int32) (s0 : Int32) (s1 : Int32) (σ : St), wbX8_window_44  K47 K78 post v1 v2 s0 s1 σ → Go X G 44 [(0, .ref (G.2.2.1 42)), (1, .int v1), (2, .int v2)] [.int s0, .int s1] σ := by
  intro v1 v2 s0 s1 σ hw
  have hw : ((s1 ≤ s0 →
    ((¬ v1 = 0 →
      ∃ k_1, gR σ 42 9 = some (30 + 2 * k_1) ∧ k_1 < 6 ∧ (
      ∀ σ_2 : St, σ_2 = sI σ (30 + 2 * k_1) 3 v2 →
      K78 σ_2)) ∧
    (v1 = 0 →
      ∃ k_3, gR σ 42 9 = some (30 + 2 * k_3) ∧ k_3 < 6 ∧ (
      ∀ σ_4 : St, σ_4 = sI σ (30 + 2 * k_3) 2 v2 →
      K78 σ_4)))) ∧
  (¬ s1 ≤ s0 →
    K47 σ)) := hw
  refine go_icmp_le C 55 rfl dX8_window_44 (fun hc => ?_) (fun hc => ?_)
  · replace hw := hw.1 hc
    refine go_iload_n C 1 rfl rfl dX8_window_55 ?_
    refine go_if_ne C 70 rfl dX8_window_56 (fun hc => ?_) (fun hc => ?_)
    · replace hw := hw.1 hc
      refine go_aload_n C 0 rfl rfl dX8_window_70 ?_
      obtain ⟨k_1, gk_1, hk_1, hw⟩ := hw
      refine go_get (v := .ref (G.2.2.1 (30 + 2 * k_1))) C (shX8 G) ltX8 lkX8_34 (by show some (va_rf ((gR σ 42 9).map G.2.2.1)) = _; rw [gk_1]; rfl) dX8_window_71 ?_
      refine go_iload_n C 2 rfl rfl dX8_window_74 ?_
      refine go_puti C (shX9 G hk_1) (ltX9 hk_1) lpX8_116 (show 3 < 4 by decide) (pxX9_3 G _ _ _) dX8_window_75 (go_nm fun σ_2 eσ_2 => ?_)
      replace hw := hw σ_2 eσ_2
      refine go_sub [0] rfl ?_
      exact hK78 _ hw
    · replace hw := hw.2 hc
      refine go_aload_n C 0 rfl rfl dX8_window_59 ?_
      obtain ⟨k_3, gk_3, hk_3, hw⟩ := hw
      refine go_get (v := .ref (G.2.2.1 (30 + 2 * k_3))) C (shX8 G) ltX8 lkX8_34 (by show some (va_rf ((gR σ 42 9).map G.2.2.1)) = _; rw [gk_3]; rfl) dX8_window_60 ?_
      refine go_iload_n C 2 rfl rfl dX8_window_63 ?_
      refine go_puti C (shX9 G hk_3) (ltX9 hk_3) lpX8_113 (show 2 < 4 by decide) (pxX9_2 G _ _ _) dX8_window_64 (go_nm fun σ_4 eσ_4 => ?_)
      replace hw := hw σ_4 eσ_4
      refine go_goto C 78 rfl dX8_window_67 ?_
      refine go_sub [0] rfl ?_
      exact hK78 _ hw
  · replace hw := hw.2 hc
    refine go_sub [0] rfl ?_
    exact hK47 _ hw
set_option maxRecDepth 20000 in
set_option maxHeartbeats 4000000 in
theorem gbX8_window_47 {X : XT} {G : GT} {l : Launch} {d : Nat}  {post : St → Prop} (C : Cx X G cX8_window RX8) (hr : Rt X G none (fun v τ => v = none ∧ post τ)) (hR : Rm X l d) (hnl : X.2.2.2.2.2.2.2.2.2.2.1 = 3)  (hd : 2 ≤ d)  {K78 : St → Prop} (hK78 : ∀ (σ : St), K78 σ → Go X G 78 [(0, .ref (G.2.2.1 42))] [] σ)
    : ∀ (σ : St), wbX8_window_47  K78 post σ → Go X G 47 [(0, .ref (G.2.2.1 42))] [] σ := by
  intro σ hw
  have hw : wpX8_fail 2 σ (fun σ_2 =>
  K78 σ_2) := hw
  refine go_aload_n C 0 rfl rfl dX8_window_47 ?_
  refine go_iconst (v := 2) C rfl dX8_window_48 ?_
  refine go_callV (as := [.int 2]) C hR (shX8 G) ltX8 cwX8_95 (Nat.le_trans (by decide) hd) (by decide) rfl rfl (by decide) dX8_window_49 (spX8_fail (Nat.le_refl _) hw) (fun v_ τ_ hw => ?_)
  obtain ⟨rfl, hw⟩ := hw
  obtain ⟨σ_2, rfl⟩ : ∃ z, z = τ_ := ⟨_, rfl⟩
  refine go_goto C 78 rfl dX8_window_52 ?_
  exact hK78 _ hw
set_option maxRecDepth 20000 in
set_option maxHeartbeats 4000000 in
theorem gbX8_window_78 {X : XT} {G : GT} {l : Launch} {d : Nat}  {post : St → Prop} (C : Cx X G cX8_window RX8) (hr : Rt X G none (fun v τ => v = none ∧ post τ)) (hR : Rm X l d) (hnl : X.2.2.2.2.2.2.2.2.2.2.1 = 3)  (hd : 2 ≤ d)   
    : ∀ (σ : St), wbX8_window_78   post σ → Go X G 78 [(0, .ref (G.2.2.1 42))] [] σ := by
  intro σ hw
  have hw : wpX8_advance  σ (fun σ_2 =>
  post σ_2) := hw
  refine go_aload_n C 0 rfl rfl dX8_window_78 ?_
  refine go_callV (as := []) C hR (shX8 G) ltX8 cwX8_92 (Nat.le_trans (by decide) hd) (by decide) rfl rfl (by decide) dX8_window_79 (spX8_advance (Nat.le_refl _) hw) (fun v_ τ_ hw => ?_)
  obtain ⟨rfl, hw⟩ := hw
  obtain ⟨σ_2, rfl⟩ : ∃ z, z = τ_ := ⟨_, rfl⟩
  exact go_vret C hr hw dX8_window_82
set_option maxRecDepth 20000 in
set_option maxHeartbeats 4000000 in
theorem spX8_window {l : Launch} {G : GT} {d : Nat}  (hd : 2 ≤ d)   {a1 : Int32} {σ : St} {post : St → Prop} (hw : wpX8_window  a1 σ post) : Sp l G d yX8_window cX8_window 3 none [.ref (G.2.2.1 42), .int a1] σ (fun v τ => v = none ∧ post τ) := by
  refine Sp.of (by decide) (by decide) fun X C hr hR hnl => ?_
  show Go X G 0 [(0, .ref (G.2.2.1 42)), (1, .int a1)] [] σ
  have hw : vp_in (gI σ 42 7) 301 ∧ (
  ∀ v2_1 : Int32, v2_1 = (gI σ 46 (gI σ 42 7).toNatClampNeg) →
  (((gI σ 42 8) = 36 →
    ((v2_1 < 1 →
      wbX8_window_47 (wbX8_window_78 post) post σ) ∧
    (¬ v2_1 < 1 →
      ((¬ a1 = 0 →
        wbX8_window_44 (wbX8_window_47 (wbX8_window_78 post) post) (wbX8_window_78 post) post a1 v2_1 60 v2_1 σ) ∧
      (a1 = 0 →
        wbX8_window_44 (wbX8_window_47 (wbX8_window_78 post) post) (wbX8_window_78 post) post a1 v2_1 20 v2_1 σ))))) ∧
  (¬ (gI σ 42 8) = 36 →
    wpX8_fail 1 σ (fun σ_3 =>
    wbX8_window_78 post σ_3)))) := hw
  refine go_aload_n C 0 rfl rfl dX8_window_0 ?_
  refine go_get (v := .ref (G.2.2.1 46)) C (shX8 G) ltX8 lkX8_28 rfl dX8_window_1 ?_
  refine go_aload_n C 0 rfl rfl dX8_window_4 ?_
  refine go_get (v := .int (gI σ 42 7)) C (shX8 G) ltX8 lkX8_49 rfl dX8_window_5 ?_
  refine go_iald C (saX8_numbers G) laX8_numbers hw.1 dX8_window_8 ?_
  replace hw := hw.2
  refine go_topi (fun v2_1 ev2_1 => ?_)
  replace hw := hw v2_1 ev2_1
  refine go_istore_n (lv2 := [(2, .int v2_1), (0, .ref (G.2.2.1 42)), (1, .int a1)]) C rfl (by rw [hnl]; decide) rfl dX8_window_9 ?_
  refine go_aload_n C 1 rfl rfl dX8_window_10 ?_
  refine go_get (v := .int (gI σ 42 8)) C (shX8 G) ltX8 lkX8_52 rfl dX8_window_11 ?_
  refine go_bipush (v := 36) C rfl dX8_window_14 ?_
  refine go_icmp_eq C 27 rfl dX8_window_16 (fun hc => ?_) (fun hc => ?_)
  · replace hw := hw.1 hc
    refine go_iload_n C 0 rfl rfl dX8_window_27 ?_
    refine go_iconst (v := 1) C rfl dX8_window_28 ?_
    refine go_icmp_lt C 47 rfl dX8_window_29 (fun hc => ?_) (fun hc => ?_)
    · replace hw := hw.1 hc
      refine go_sub [1] rfl ?_
      exact (gbX8_window_47 C hr hR hnl hd (gbX8_window_78 C hr hR hnl hd)) _ hw
    · replace hw := hw.2 hc
      refine go_iload_n C 0 rfl rfl dX8_window_32 ?_
      refine go_iload_n C 2 rfl rfl dX8_window_33 ?_
      refine go_if_ne C 42 rfl dX8_window_34 (fun hc => ?_) (fun hc => ?_)
      · replace hw := hw.1 hc
        refine go_bipush (v := 60) C rfl dX8_window_42 ?_
        refine go_sub [1, 2, 0] rfl ?_
        exact (gbX8_window_44 C hr hR hnl hd (gbX8_window_47 C hr hR hnl hd (gbX8_window_78 C hr hR hnl hd)) (gbX8_window_78 C hr hR hnl hd)) _ _ _ _ _ hw
      · replace hw := hw.2 hc
        refine go_bipush (v := 20) C rfl dX8_window_37 ?_
        refine go_goto C 44 rfl dX8_window_39 ?_
        refine go_sub [1, 2, 0] rfl ?_
        exact (gbX8_window_44 C hr hR hnl hd (gbX8_window_47 C hr hR hnl hd (gbX8_window_78 C hr hR hnl hd)) (gbX8_window_78 C hr hR hnl hd)) _ _ _ _ _ hw
  · replace hw := hw.2 hc
    refine go_aload_n C 1 rfl rfl dX8_window_19 ?_
    refine go_iconst (v := 1) C rfl dX8_window_20 ?_
    refine go_callV (as := [.int 1]) C hR (shX8 G) ltX8 cwX8_95 (Nat.le_trans (by decide) hd) (by decide) rfl rfl (by decide) dX8_window_21 (spX8_fail (Nat.le_refl _) hw) (fun v_ τ_ hw => ?_)
    obtain ⟨rfl, hw⟩ := hw
    obtain ⟨σ_3, rfl⟩ : ∃ z, z = τ_ := ⟨_, rfl⟩
    refine go_goto C 78 rfl dX8_window_24 ?_
    refine go_sub [1] rfl ?_
    exact (gbX8_window_78 C hr hR hnl hd) _ hw
-- CradleNames$Taste.put(I)V
def wpX9_put (k0 : Nat) (a1 : Int32) (σ : St) (post : St → Prop) : Prop :=
  ((300 ≤ (gI σ (30 + 2 * k0) 1) →
    post σ) ∧
  (¬ 300 ≤ (gI σ (30 + 2 * k0) 1) →
    vp_in (gI σ (30 + 2 * k0) 1) 300 ∧ (
    ∀ σ_1 : St, σ_1 = sI σ (30 + 2 * k0 + 1) (gI σ (30 + 2 * k0) 1).toNatClampNeg a1 →
    ∀ σ_2 : St, σ_2 = sI σ_1 (30 + 2 * k0) 1 ((gI σ_1 (30 + 2 * k0) 1) + 1) →
    post σ_2)))
set_option maxRecDepth 20000 in
set_option maxHeartbeats 4000000 in
theorem spX9_put {l : Launch} {G : GT} {d : Nat}  (hd : 1 ≤ d) {k0 : Nat} (hk0 : k0 < 6) {a1 : Int32} {σ : St} {post : St → Prop} (hw : wpX9_put k0 a1 σ post) : Sp l G d yX9_put cX9_put 2 none [.ref (G.2.2.1 (30 + 2 * k0)), .int a1] σ (fun v τ => v = none ∧ post τ) := by
  refine Sp.of (by decide) (by decide) fun X C hr hR hnl => ?_
  show Go X G 0 [(0, .ref (G.2.2.1 (30 + 2 * k0))), (1, .int a1)] [] σ
  have hw : ((300 ≤ (gI σ (30 + 2 * k0) 1) →
    post σ) ∧
  (¬ 300 ≤ (gI σ (30 + 2 * k0) 1) →
    vp_in (gI σ (30 + 2 * k0) 1) 300 ∧ (
    ∀ σ_1 : St, σ_1 = sI σ (30 + 2 * k0 + 1) (gI σ (30 + 2 * k0) 1).toNatClampNeg a1 →
    ∀ σ_2 : St, σ_2 = sI σ_1 (30 + 2 * k0) 1 ((gI σ_1 (30 + 2 * k0) 1) + 1) →
    post σ_2))) := hw
  refine go_aload_n C 0 rfl rfl dX9_put_0 ?_
  refine go_get (v := .int (gI σ (30 + 2 * k0) 1)) C (shX9 G hk0) (ltX9 hk0) lkX9_15 rfl dX9_put_1 ?_
  refine go_aload_n C 0 rfl rfl dX9_put_4 ?_
  refine go_get (v := .ref (G.2.2.1 (30 + 2 * k0 + 1))) C (shX9 G hk0) (ltX9 hk0) lkX9_9 rfl dX9_put_5 ?_
  refine go_alen (t0 := 0) (v := 300) C (saX9_code G hk0) (laX9_code hk0) rfl rfl dX9_put_8 ?_
  refine go_icmp_ge C 32 rfl dX9_put_9 (fun hc => ?_) (fun hc => ?_)
  · replace hw := hw.1 hc
    exact go_vret C hr hw dX9_put_32
  · replace hw := hw.2 hc
    refine go_aload_n C 0 rfl rfl dX9_put_12 ?_
    refine go_get (v := .ref (G.2.2.1 (30 + 2 * k0 + 1))) C (shX9 G hk0) (ltX9 hk0) lkX9_9 rfl dX9_put_13 ?_
    refine go_aload_n C 0 rfl rfl dX9_put_16 ?_
    refine go_get (v := .int (gI σ (30 + 2 * k0) 1)) C (shX9 G hk0) (ltX9 hk0) lkX9_15 rfl dX9_put_17 ?_
    refine go_iload_n C 1 rfl rfl dX9_put_20 ?_
    refine go_iast C (saX9_code G hk0) (laX9_code hk0) hw.1 dX9_put_21 (go_nm fun σ_1 eσ_1 => ?_)
    replace hw := hw.2 σ_1 eσ_1
    refine go_aload_n C 0 rfl rfl dX9_put_22 ?_
    refine go_dup C rfl dX9_put_23 ?_
    refine go_get (v := .int (gI σ_1 (30 + 2 * k0) 1)) C (shX9 G hk0) (ltX9 hk0) lkX9_15 rfl dX9_put_24 ?_
    refine go_iconst (v := 1) C rfl dX9_put_27 ?_
    refine go_iadd C dX9_put_28 ?_
    refine go_puti C (shX9 G hk0) (ltX9 hk0) lpX9_15 (show 1 < 4 by decide) (pxX9_1 G _ _ _) dX9_put_29 (go_nm fun σ_2 eσ_2 => ?_)
    replace hw := hw σ_2 eσ_2
    exact go_vret C hr hw dX9_put_32
-- CradleNames$Reader.one(I)V
def wbX8_one_106 (FX8_around : Int32 → Int32 → St → (St → Prop) → Prop)  (post : St → Prop) (v1 : Int32) (v2 : Int32) (σ : St) : Prop :=
  FX8_around v2 v1 σ (fun σ_2 =>
  post σ_2)
def wbX8_one_31 (FX8_around : Int32 → Int32 → St → (St → Prop) → Prop)  (post : St → Prop)  (σ : St) : Prop :=
  ∃ k_1, gR σ 42 9 = some (30 + 2 * k_1) ∧ k_1 < 6 ∧ (
  vp_in (gI σ 42 7) 301 ∧ (
  wpX9_put k_1 (100 + (gI σ 46 (gI σ 42 7).toNatClampNeg)) σ (fun σ_3 =>
  wpX8_advance  σ_3 (fun σ_5 =>
  post σ_5))))
def wbX8_one_82 (FX8_around : Int32 → Int32 → St → (St → Prop) → Prop)  (post : St → Prop) (v1 : Int32) (v2 : Int32) (σ : St) : Prop :=
  ((v2 = 29 →
    wbX8_one_106 FX8_around post v1 v2 σ) ∧
  (¬ v2 = 29 →
    ((v2 = 32 →
      wbX8_one_106 FX8_around post v1 v2 σ) ∧
    (¬ v2 = 32 →
      ((v2 = 20 →
        wbX8_one_106 FX8_around post v1 v2 σ) ∧
      (¬ v2 = 20 →
        ((¬ v2 = 21 →
          wpX8_fail 1 σ (fun σ_2 =>
          post σ_2)) ∧
        (v2 = 21 →
          wbX8_one_106 FX8_around post v1 v2 σ))))))))
def wpX8_one (FX8_around : Int32 → Int32 → St → (St → Prop) → Prop) (a1 : Int32) (σ : St) (post : St → Prop) : Prop :=
  ∀ v2_1 : Int32, v2_1 = (gI σ 42 8) →
  ((¬ v2_1 = 36 →
    ((v2_1 < 0 →
      wbX8_one_82 FX8_around post a1 v2_1 σ) ∧
    (¬ v2_1 < 0 →
      ((14 ≤ v2_1 →
        wbX8_one_82 FX8_around post a1 v2_1 σ) ∧
      (¬ 14 ≤ v2_1 →
        ∃ k_2, gR σ 42 9 = some (30 + 2 * k_2) ∧ k_2 < 6 ∧ (
        wpX9_put k_2 v2_1 σ (fun σ_4 =>
        wpX8_advance  σ_4 (fun σ_6 =>
        post σ_6)))))))) ∧
  (v2_1 = 36 →
    vp_in (gI σ 42 7) 301 ∧ (
    (((gI σ 46 (gI σ 42 7).toNatClampNeg) ≤ 9999 →
      wbX8_one_31 FX8_around post σ) ∧
    (¬ (gI σ 46 (gI σ 42 7).toNatClampNeg) ≤ 9999 →
      wpX8_fail 2 σ (fun σ_8 =>
      wbX8_one_31 FX8_around post σ_8))))))
set_option maxRecDepth 20000 in
set_option maxHeartbeats 4000000 in
theorem gbX8_one_106 {X : XT} {G : GT} {l : Launch} {d : Nat}  {post : St → Prop} (C : Cx X G cX8_one RX8) (hr : Rt X G none (fun v τ => v = none ∧ post τ)) (hR : Rm X l d) (hnl : X.2.2.2.2.2.2.2.2.2.2.1 = 3) {FX8_around : Int32 → Int32 → St → (St → Prop) → Prop} {dF : Nat} (h5 : 5 ≤ dF) (hFX8_around : ∀ (a1 : Int32) (a2 : Int32) (σ : St) (post : St → Prop), FX8_around a1 a2 σ post → Sp l G dF yX8_around cX8_around 3 none [.ref (G.2.2.1 42), .int a1, .int a2] σ (fun v τ => v = none ∧ post τ)) (hd : dF + 1 ≤ d)   
    : ∀ (v1 : Int32) (v2 : Int32) (σ : St), wbX8_one_106 FX8_around  post v1 v2 σ → Go X G 106 [(0, .ref (G.2.2.1 42)), (1, .int v1), (2, .int v2)] [] σ := by
  intro v1 v2 σ hw
  have hw : FX8_around v2 v1 σ (fun σ_2 =>
  post σ_2) := hw
  refine go_aload_n C 0 rfl rfl dX8_one_106 ?_
  refine go_iload_n C 2 rfl rfl dX8_one_107 ?_
  refine go_iload_n C 1 rfl rfl dX8_one_108 ?_
  refine go_callV (as := [.int v2, .int v1]) C hR (shX8 G) ltX8 cwX8_128 (by omega) (by decide) rfl rfl (by decide) dX8_one_109 (hFX8_around _ _ _ _ hw) (fun v_ τ_ hw => ?_)
  obtain ⟨rfl, hw⟩ := hw
  obtain ⟨σ_2, rfl⟩ : ∃ z, z = τ_ := ⟨_, rfl⟩
  refine go_goto C 120 rfl dX8_one_112 ?_
  exact go_vret C hr hw dX8_one_120
set_option maxRecDepth 20000 in
set_option maxHeartbeats 4000000 in
theorem gbX8_one_31 {X : XT} {G : GT} {l : Launch} {d : Nat}  {post : St → Prop} (C : Cx X G cX8_one RX8) (hr : Rt X G none (fun v τ => v = none ∧ post τ)) (hR : Rm X l d) (hnl : X.2.2.2.2.2.2.2.2.2.2.1 = 3) {FX8_around : Int32 → Int32 → St → (St → Prop) → Prop} {dF : Nat} (h5 : 5 ≤ dF) (hFX8_around : ∀ (a1 : Int32) (a2 : Int32) (σ : St) (post : St → Prop), FX8_around a1 a2 σ post → Sp l G dF yX8_around cX8_around 3 none [.ref (G.2.2.1 42), .int a1, .int a2] σ (fun v τ => v = none ∧ post τ)) (hd : dF + 1 ≤ d)   
    : ∀ (σ : St), wbX8_one_31 FX8_around  post σ → Go X G 31 [(0, .ref (G.2.2.1 42))] [] σ := by
  intro σ hw
  have hw : ∃ k_1, gR σ 42 9 = some (30 + 2 * k_1) ∧ k_1 < 6 ∧ (
  vp_in (gI σ 42 7) 301 ∧ (
  wpX9_put k_1 (100 + (gI σ 46 (gI σ 42 7).toNatClampNeg)) σ (fun σ_3 =>
  wpX8_advance  σ_3 (fun σ_5 =>
  post σ_5)))) := hw
  refine go_aload_n C 0 rfl rfl dX8_one_31 ?_
  obtain ⟨k_1, gk_1, hk_1, hw⟩ := hw
  refine go_get (v := .ref (G.2.2.1 (30 + 2 * k_1))) C (shX8 G) ltX8 lkX8_34 (by show some (va_rf ((gR σ 42 9).map G.2.2.1)) = _; rw [gk_1]; rfl) dX8_one_32 ?_
  refine go_bipush (v := 100) C rfl dX8_one_35 ?_
  refine go_aload_n C 0 rfl rfl dX8_one_37 ?_
  refine go_get (v := .ref (G.2.2.1 46)) C (shX8 G) ltX8 lkX8_28 rfl dX8_one_38 ?_
  refine go_aload_n C 0 rfl rfl dX8_one_41 ?_
  refine go_get (v := .int (gI σ 42 7)) C (shX8 G) ltX8 lkX8_49 rfl dX8_one_42 ?_
  refine go_iald C (saX8_numbers G) laX8_numbers hw.1 dX8_one_45 ?_
  replace hw := hw.2
  refine go_iadd C dX8_one_46 ?_
  refine go_callV (as := [.int (100 + (gI σ 46 (gI σ 42 7).toNatClampNeg))]) C hR (shX9 G hk_1) (ltX9 hk_1) cwX8_101 (by omega) (by decide) rfl rfl (by decide) dX8_one_47 (spX9_put (Nat.le_refl _) hk_1 hw) (fun v_ τ_ hw => ?_)
  obtain ⟨rfl, hw⟩ := hw
  obtain ⟨σ_3, rfl⟩ : ∃ z, z = τ_ := ⟨_, rfl⟩
  refine go_aload_n C 0 rfl rfl dX8_one_50 ?_
  refine go_callV (as := []) C hR (shX8 G) ltX8 cwX8_92 (by omega) (by decide) rfl rfl (by decide) dX8_one_51 (spX8_advance (Nat.le_refl _) hw) (fun v_ τ_ hw => ?_)
  obtain ⟨rfl, hw⟩ := hw
  obtain ⟨σ_5, rfl⟩ : ∃ z, z = τ_ := ⟨_, rfl⟩
  refine go_goto C 120 rfl dX8_one_54 ?_
  exact go_vret C hr hw dX8_one_120
set_option maxRecDepth 20000 in
set_option maxHeartbeats 4000000 in
theorem gbX8_one_82 {X : XT} {G : GT} {l : Launch} {d : Nat}  {post : St → Prop} (C : Cx X G cX8_one RX8) (hr : Rt X G none (fun v τ => v = none ∧ post τ)) (hR : Rm X l d) (hnl : X.2.2.2.2.2.2.2.2.2.2.1 = 3) {FX8_around : Int32 → Int32 → St → (St → Prop) → Prop} {dF : Nat} (h5 : 5 ≤ dF) (hFX8_around : ∀ (a1 : Int32) (a2 : Int32) (σ : St) (post : St → Prop), FX8_around a1 a2 σ post → Sp l G dF yX8_around cX8_around 3 none [.ref (G.2.2.1 42), .int a1, .int a2] σ (fun v τ => v = none ∧ post τ)) (hd : dF + 1 ≤ d)   
    : ∀ (v1 : Int32) (v2 : Int32) (σ : St), wbX8_one_82 FX8_around  post v1 v2 σ → Go X G 82 [(0, .ref (G.2.2.1 42)), (1, .int v1), (2, .int v2)] [] σ := by
  intro v1 v2 σ hw
  have hw : ((v2 = 29 →
    wbX8_one_106 FX8_around post v1 v2 σ) ∧
  (¬ v2 = 29 →
    ((v2 = 32 →
      wbX8_one_106 FX8_around post v1 v2 σ) ∧
    (¬ v2 = 32 →
      ((v2 = 20 →
        wbX8_one_106 FX8_around post v1 v2 σ) ∧
      (¬ v2 = 20 →
        ((¬ v2 = 21 →
          wpX8_fail 1 σ (fun σ_2 =>
          post σ_2)) ∧
        (v2 = 21 →
          wbX8_one_106 FX8_around post v1 v2 σ)))))))) := hw
  refine go_iload_n C 2 rfl rfl dX8_one_82 ?_
  refine go_bipush (v := 29) C rfl dX8_one_83 ?_
  refine go_icmp_eq C 106 rfl dX8_one_85 (fun hc => ?_) (fun hc => ?_)
  · replace hw := hw.1 hc
    exact (gbX8_one_106 C hr hR hnl h5 hFX8_around hd) _ _ _ hw
  · replace hw := hw.2 hc
    refine go_iload_n C 2 rfl rfl dX8_one_88 ?_
    refine go_bipush (v := 32) C rfl dX8_one_89 ?_
    refine go_icmp_eq C 106 rfl dX8_one_91 (fun hc => ?_) (fun hc => ?_)
    · replace hw := hw.1 hc
      exact (gbX8_one_106 C hr hR hnl h5 hFX8_around hd) _ _ _ hw
    · replace hw := hw.2 hc
      refine go_iload_n C 2 rfl rfl dX8_one_94 ?_
      refine go_bipush (v := 20) C rfl dX8_one_95 ?_
      refine go_icmp_eq C 106 rfl dX8_one_97 (fun hc => ?_) (fun hc => ?_)
      · replace hw := hw.1 hc
        exact (gbX8_one_106 C hr hR hnl h5 hFX8_around hd) _ _ _ hw
      · replace hw := hw.2 hc
        refine go_iload_n C 2 rfl rfl dX8_one_100 ?_
        refine go_bipush (v := 21) C rfl dX8_one_101 ?_
        refine go_icmp_ne C 115 rfl dX8_one_103 (fun hc => ?_) (fun hc => ?_)
        · replace hw := hw.1 hc
          refine go_aload_n C 0 rfl rfl dX8_one_115 ?_
          refine go_iconst (v := 1) C rfl dX8_one_116 ?_
          refine go_callV (as := [.int 1]) C hR (shX8 G) ltX8 cwX8_95 (by omega) (by decide) rfl rfl (by decide) dX8_one_117 (spX8_fail (Nat.le_refl _) hw) (fun v_ τ_ hw => ?_)
          obtain ⟨rfl, hw⟩ := hw
          obtain ⟨σ_2, rfl⟩ : ∃ z, z = τ_ := ⟨_, rfl⟩
          exact go_vret C hr hw dX8_one_120
        · replace hw := hw.2 hc
          exact (gbX8_one_106 C hr hR hnl h5 hFX8_around hd) _ _ _ hw
set_option maxRecDepth 20000 in
set_option maxHeartbeats 4000000 in
theorem spX8_one {l : Launch} {G : GT} {d : Nat} {FX8_around : Int32 → Int32 → St → (St → Prop) → Prop} {dF : Nat} (h5 : 5 ≤ dF) (hFX8_around : ∀ (a1 : Int32) (a2 : Int32) (σ : St) (post : St → Prop), FX8_around a1 a2 σ post → Sp l G dF yX8_around cX8_around 3 none [.ref (G.2.2.1 42), .int a1, .int a2] σ (fun v τ => v = none ∧ post τ)) (hd : dF + 1 ≤ d)   {a1 : Int32} {σ : St} {post : St → Prop} (hw : wpX8_one FX8_around a1 σ post) : Sp l G d yX8_one cX8_one 3 none [.ref (G.2.2.1 42), .int a1] σ (fun v τ => v = none ∧ post τ) := by
  refine Sp.of (by decide) (by decide) fun X C hr hR hnl => ?_
  show Go X G 0 [(0, .ref (G.2.2.1 42)), (1, .int a1)] [] σ
  have hw : ∀ v2_1 : Int32, v2_1 = (gI σ 42 8) →
  ((¬ v2_1 = 36 →
    ((v2_1 < 0 →
      wbX8_one_82 FX8_around post a1 v2_1 σ) ∧
    (¬ v2_1 < 0 →
      ((14 ≤ v2_1 →
        wbX8_one_82 FX8_around post a1 v2_1 σ) ∧
      (¬ 14 ≤ v2_1 →
        ∃ k_2, gR σ 42 9 = some (30 + 2 * k_2) ∧ k_2 < 6 ∧ (
        wpX9_put k_2 v2_1 σ (fun σ_4 =>
        wpX8_advance  σ_4 (fun σ_6 =>
        post σ_6)))))))) ∧
  (v2_1 = 36 →
    vp_in (gI σ 42 7) 301 ∧ (
    (((gI σ 46 (gI σ 42 7).toNatClampNeg) ≤ 9999 →
      wbX8_one_31 FX8_around post σ) ∧
    (¬ (gI σ 46 (gI σ 42 7).toNatClampNeg) ≤ 9999 →
      wpX8_fail 2 σ (fun σ_8 =>
      wbX8_one_31 FX8_around post σ_8)))))) := hw
  refine go_aload_n C 0 rfl rfl dX8_one_0 ?_
  refine go_get (v := .int (gI σ 42 8)) C (shX8 G) ltX8 lkX8_52 rfl dX8_one_1 ?_
  refine go_topi (fun v2_1 ev2_1 => ?_)
  replace hw := hw v2_1 ev2_1
  refine go_istore_n (lv2 := [(2, .int v2_1), (0, .ref (G.2.2.1 42)), (1, .int a1)]) C rfl (by rw [hnl]; decide) rfl dX8_one_4 ?_
  refine go_iload_n C 0 rfl rfl dX8_one_5 ?_
  refine go_bipush (v := 36) C rfl dX8_one_6 ?_
  refine go_icmp_ne C 57 rfl dX8_one_8 (fun hc => ?_) (fun hc => ?_)
  · replace hw := hw.1 hc
    refine go_iload_n C 0 rfl rfl dX8_one_57 ?_
    refine go_if_lt C 82 rfl dX8_one_58 (fun hc => ?_) (fun hc => ?_)
    · replace hw := hw.1 hc
      refine go_sub [1, 2, 0] rfl ?_
      exact (gbX8_one_82 C hr hR hnl h5 hFX8_around hd) _ _ _ hw
    · replace hw := hw.2 hc
      refine go_iload_n C 0 rfl rfl dX8_one_61 ?_
      refine go_bipush (v := 14) C rfl dX8_one_62 ?_
      refine go_icmp_ge C 82 rfl dX8_one_64 (fun hc => ?_) (fun hc => ?_)
      · replace hw := hw.1 hc
        refine go_sub [1, 2, 0] rfl ?_
        exact (gbX8_one_82 C hr hR hnl h5 hFX8_around hd) _ _ _ hw
      · replace hw := hw.2 hc
        refine go_aload_n C 1 rfl rfl dX8_one_67 ?_
        obtain ⟨k_2, gk_2, hk_2, hw⟩ := hw
        refine go_get (v := .ref (G.2.2.1 (30 + 2 * k_2))) C (shX8 G) ltX8 lkX8_34 (by show some (va_rf ((gR σ 42 9).map G.2.2.1)) = _; rw [gk_2]; rfl) dX8_one_68 ?_
        refine go_iload_n C 0 rfl rfl dX8_one_71 ?_
        refine go_callV (as := [.int v2_1]) C hR (shX9 G hk_2) (ltX9 hk_2) cwX8_101 (by omega) (by decide) rfl rfl (by decide) dX8_one_72 (spX9_put (Nat.le_refl _) hk_2 hw) (fun v_ τ_ hw => ?_)
        obtain ⟨rfl, hw⟩ := hw
        obtain ⟨σ_4, rfl⟩ : ∃ z, z = τ_ := ⟨_, rfl⟩
        refine go_aload_n C 1 rfl rfl dX8_one_75 ?_
        refine go_callV (as := []) C hR (shX8 G) ltX8 cwX8_92 (by omega) (by decide) rfl rfl (by decide) dX8_one_76 (spX8_advance (Nat.le_refl _) hw) (fun v_ τ_ hw => ?_)
        obtain ⟨rfl, hw⟩ := hw
        obtain ⟨σ_6, rfl⟩ : ∃ z, z = τ_ := ⟨_, rfl⟩
        refine go_goto C 120 rfl dX8_one_79 ?_
        exact go_vret C hr hw dX8_one_120
  · replace hw := hw.2 hc
    refine go_aload_n C 1 rfl rfl dX8_one_11 ?_
    refine go_get (v := .ref (G.2.2.1 46)) C (shX8 G) ltX8 lkX8_28 rfl dX8_one_12 ?_
    refine go_aload_n C 1 rfl rfl dX8_one_15 ?_
    refine go_get (v := .int (gI σ 42 7)) C (shX8 G) ltX8 lkX8_49 rfl dX8_one_16 ?_
    refine go_iald C (saX8_numbers G) laX8_numbers hw.1 dX8_one_19 ?_
    replace hw := hw.2
    refine go_sipush (v := 9999) C rfl dX8_one_20 ?_
    refine go_icmp_le C 31 rfl dX8_one_23 (fun hc => ?_) (fun hc => ?_)
    · replace hw := hw.1 hc
      refine go_sub [1] rfl ?_
      exact (gbX8_one_31 C hr hR hnl h5 hFX8_around hd) _ hw
    · replace hw := hw.2 hc
      refine go_aload_n C 1 rfl rfl dX8_one_26 ?_
      refine go_iconst (v := 2) C rfl dX8_one_27 ?_
      refine go_callV (as := [.int 2]) C hR (shX8 G) ltX8 cwX8_95 (by omega) (by decide) rfl rfl (by decide) dX8_one_28 (spX8_fail (Nat.le_refl _) hw) (fun v_ τ_ hw => ?_)
      obtain ⟨rfl, hw⟩ := hw
      obtain ⟨σ_8, rfl⟩ : ∃ z, z = τ_ := ⟨_, rfl⟩
      refine go_sub [1] rfl ?_
      exact (gbX8_one_31 C hr hR hnl h5 hFX8_around hd) _ hw
-- CradleNames$Reader.product(I)V
def wbX8_product_32 (FX8_around : Int32 → Int32 → St → (St → Prop) → Prop) (K7 : Int32 → Int32 → St → Prop) (post : St → Prop) (v1 : Int32) (v2 : Int32) (σ : St) : Prop :=
  ∀ v3_1 : Int32, v3_1 = (gI σ 42 8) →
  wpX8_advance  σ (fun σ_3 =>
  wpX8_one FX8_around v1 σ_3 (fun σ_5 =>
  ∃ k_6, gR σ_5 42 9 = some (30 + 2 * k_6) ∧ k_6 < 6 ∧ (
  wpX9_put k_6 v3_1 σ_5 (fun σ_8 =>
  ∀ v2_9 : Int32, v2_9 = v2 + 1 →
  K7 v1 v2_9 σ_8))))
def wbX8_product_7 (FX8_around : Int32 → Int32 → St → (St → Prop) → Prop)  (post : St → Prop) : Nat → Int32 → Int32 → St → Prop
  | 0, _, _, _ => False
  | n + 1, v1, v2, σ =>
    ((300 ≤ v2 →
      post σ) ∧
    (¬ 300 ≤ v2 →
      (((gI σ 42 8) = 30 →
        wbX8_product_32 FX8_around (wbX8_product_7 FX8_around post n) post v1 v2 σ) ∧
      (¬ (gI σ 42 8) = 30 →
        ((¬ (gI σ 42 8) = 31 →
          post σ) ∧
        ((gI σ 42 8) = 31 →
          wbX8_product_32 FX8_around (wbX8_product_7 FX8_around post n) post v1 v2 σ))))))
def wpX8_product (FX8_around : Int32 → Int32 → St → (St → Prop) → Prop) (a1 : Int32) (σ : St) (post : St → Prop) : Prop :=
  wpX8_one FX8_around a1 σ (fun σ_2 =>
  ∃ n, wbX8_product_7 FX8_around post n a1 0 σ_2)
set_option maxRecDepth 20000 in
set_option maxHeartbeats 4000000 in
theorem gbX8_product_32 {X : XT} {G : GT} {l : Launch} {d : Nat}  {post : St → Prop} (C : Cx X G cX8_product RX8) (hr : Rt X G none (fun v τ => v = none ∧ post τ)) (hR : Rm X l d) (hnl : X.2.2.2.2.2.2.2.2.2.2.1 = 4) {FX8_around : Int32 → Int32 → St → (St → Prop) → Prop} {dF : Nat} (h5 : 5 ≤ dF) (hFX8_around : ∀ (a1 : Int32) (a2 : Int32) (σ : St) (post : St → Prop), FX8_around a1 a2 σ post → Sp l G dF yX8_around cX8_around 3 none [.ref (G.2.2.1 42), .int a1, .int a2] σ (fun v τ => v = none ∧ post τ)) (hd : dF + 2 ≤ d)  {K7 : Int32 → Int32 → St → Prop} (hK7 : ∀ (v1 : Int32) (v2 : Int32) (σ : St), K7 v1 v2 σ → Go X G 7 [(0, .ref (G.2.2.1 42)), (1, .int v1), (2, .int v2)] [] σ)
    : ∀ (v1 : Int32) (v2 : Int32) (σ : St), wbX8_product_32 FX8_around K7 post v1 v2 σ → Go X G 32 [(0, .ref (G.2.2.1 42)), (1, .int v1), (2, .int v2)] [] σ := by
  intro v1 v2 σ hw
  have hw : ∀ v3_1 : Int32, v3_1 = (gI σ 42 8) →
  wpX8_advance  σ (fun σ_3 =>
  wpX8_one FX8_around v1 σ_3 (fun σ_5 =>
  ∃ k_6, gR σ_5 42 9 = some (30 + 2 * k_6) ∧ k_6 < 6 ∧ (
  wpX9_put k_6 v3_1 σ_5 (fun σ_8 =>
  ∀ v2_9 : Int32, v2_9 = v2 + 1 →
  K7 v1 v2_9 σ_8)))) := hw
  refine go_aload_n C 0 rfl rfl dX8_product_32 ?_
  refine go_get (v := .int (gI σ 42 8)) C (shX8 G) ltX8 lkX8_52 rfl dX8_product_33 ?_
  refine go_topi (fun v3_1 ev3_1 => ?_)
  replace hw := hw v3_1 ev3_1
  refine go_istore_n (lv2 := [(3, .int v3_1), (0, .ref (G.2.2.1 42)), (1, .int v1), (2, .int v2)]) C rfl (by rw [hnl]; decide) rfl dX8_product_36 ?_
  refine go_aload_n C 1 rfl rfl dX8_product_37 ?_
  refine go_callV (as := []) C hR (shX8 G) ltX8 cwX8_92 (by omega) (by decide) rfl rfl (by decide) dX8_product_38 (spX8_advance (Nat.le_refl _) hw) (fun v_ τ_ hw => ?_)
  obtain ⟨rfl, hw⟩ := hw
  obtain ⟨σ_3, rfl⟩ : ∃ z, z = τ_ := ⟨_, rfl⟩
  refine go_aload_n C 1 rfl rfl dX8_product_41 ?_
  refine go_iload_n C 2 rfl rfl dX8_product_42 ?_
  refine go_callV (as := [.int v1]) C hR (shX8 G) ltX8 cwX8_125 (by omega) (by decide) rfl rfl (by decide) dX8_product_43 (spX8_one h5 hFX8_around (Nat.le_refl _) hw) (fun v_ τ_ hw => ?_)
  obtain ⟨rfl, hw⟩ := hw
  obtain ⟨σ_5, rfl⟩ : ∃ z, z = τ_ := ⟨_, rfl⟩
  refine go_aload_n C 1 rfl rfl dX8_product_46 ?_
  obtain ⟨k_6, gk_6, hk_6, hw⟩ := hw
  refine go_get (v := .ref (G.2.2.1 (30 + 2 * k_6))) C (shX8 G) ltX8 lkX8_34 (by show some (va_rf ((gR σ_5 42 9).map G.2.2.1)) = _; rw [gk_6]; rfl) dX8_product_47 ?_
  refine go_iload_n C 0 rfl rfl dX8_product_50 ?_
  refine go_callV (as := [.int v3_1]) C hR (shX9 G hk_6) (ltX9 hk_6) cwX8_101 (by omega) (by decide) rfl rfl (by decide) dX8_product_51 (spX9_put (Nat.le_refl _) hk_6 hw) (fun v_ τ_ hw => ?_)
  obtain ⟨rfl, hw⟩ := hw
  obtain ⟨σ_8, rfl⟩ : ∃ z, z = τ_ := ⟨_, rfl⟩
  obtain ⟨v2_9, ev2_9⟩ : ∃ z : Int32, z = v2 + 1 := ⟨_, rfl⟩
  replace hw := hw v2_9 ev2_9
  refine go_iinc (v := v2_9) (lv2 := [(2, .int v2_9), (3, .int v3_1), (0, .ref (G.2.2.1 42)), (1, .int v1)]) C 3 rfl (by rw [ev2_9]; rfl) (by rw [hnl]; decide) rfl dX8_product_54 ?_
  refine go_goto C 7 rfl dX8_product_57 ?_
  refine go_sub [2, 3, 0] rfl ?_
  exact hK7 _ _ _ hw
set_option maxRecDepth 20000 in
set_option maxHeartbeats 4000000 in
theorem gbX8_product_7 {X : XT} {G : GT} {l : Launch} {d : Nat}  {post : St → Prop} (C : Cx X G cX8_product RX8) (hr : Rt X G none (fun v τ => v = none ∧ post τ)) (hR : Rm X l d) (hnl : X.2.2.2.2.2.2.2.2.2.2.1 = 4) {FX8_around : Int32 → Int32 → St → (St → Prop) → Prop} {dF : Nat} (h5 : 5 ≤ dF) (hFX8_around : ∀ (a1 : Int32) (a2 : Int32) (σ : St) (post : St → Prop), FX8_around a1 a2 σ post → Sp l G dF yX8_around cX8_around 3 none [.ref (G.2.2.1 42), .int a1, .int a2] σ (fun v τ => v = none ∧ post τ)) (hd : dF + 2 ≤ d)   
    : ∀ (n : Nat) (v1 : Int32) (v2 : Int32) (σ : St), wbX8_product_7 FX8_around  post n v1 v2 σ → Go X G 7 [(0, .ref (G.2.2.1 42)), (1, .int v1), (2, .int v2)] [] σ := by
  intro n
  induction n with
  | zero => intro v1 v2 σ hw; exact hw.elim
  | succ n ih =>
    intro v1 v2 σ hw
    have hw : ((300 ≤ v2 →
      post σ) ∧
    (¬ 300 ≤ v2 →
      (((gI σ 42 8) = 30 →
        wbX8_product_32 FX8_around (wbX8_product_7 FX8_around post n) post v1 v2 σ) ∧
      (¬ (gI σ 42 8) = 30 →
        ((¬ (gI σ 42 8) = 31 →
          post σ) ∧
        ((gI σ 42 8) = 31 →
          wbX8_product_32 FX8_around (wbX8_product_7 FX8_around post n) post v1 v2 σ)))))) := hw
    refine go_iload_n C 2 rfl rfl dX8_product_7 ?_
    refine go_sipush (v := 300) C rfl dX8_product_8 ?_
    refine go_icmp_ge C 60 rfl dX8_product_11 (fun hc => ?_) (fun hc => ?_)
    · replace hw := hw.1 hc
      exact go_vret C hr hw dX8_product_60
    · replace hw := hw.2 hc
      refine go_aload_n C 0 rfl rfl dX8_product_14 ?_
      refine go_get (v := .int (gI σ 42 8)) C (shX8 G) ltX8 lkX8_52 rfl dX8_product_15 ?_
      refine go_bipush (v := 30) C rfl dX8_product_18 ?_
      refine go_icmp_eq C 32 rfl dX8_product_20 (fun hc => ?_) (fun hc => ?_)
      · replace hw := hw.1 hc
        exact (gbX8_product_32 C hr hR hnl h5 hFX8_around hd ih) _ _ _ hw
      · replace hw := hw.2 hc
        refine go_aload_n C 0 rfl rfl dX8_product_23 ?_
        refine go_get (v := .int (gI σ 42 8)) C (shX8 G) ltX8 lkX8_52 rfl dX8_product_24 ?_
        refine go_bipush (v := 31) C rfl dX8_product_27 ?_
        refine go_icmp_ne C 60 rfl dX8_product_29 (fun hc => ?_) (fun hc => ?_)
        · replace hw := hw.1 hc
          exact go_vret C hr hw dX8_product_60
        · replace hw := hw.2 hc
          exact (gbX8_product_32 C hr hR hnl h5 hFX8_around hd ih) _ _ _ hw
set_option maxRecDepth 20000 in
set_option maxHeartbeats 4000000 in
theorem spX8_product {l : Launch} {G : GT} {d : Nat} {FX8_around : Int32 → Int32 → St → (St → Prop) → Prop} {dF : Nat} (h5 : 5 ≤ dF) (hFX8_around : ∀ (a1 : Int32) (a2 : Int32) (σ : St) (post : St → Prop), FX8_around a1 a2 σ post → Sp l G dF yX8_around cX8_around 3 none [.ref (G.2.2.1 42), .int a1, .int a2] σ (fun v τ => v = none ∧ post τ)) (hd : dF + 2 ≤ d)   {a1 : Int32} {σ : St} {post : St → Prop} (hw : wpX8_product FX8_around a1 σ post) : Sp l G d yX8_product cX8_product 4 none [.ref (G.2.2.1 42), .int a1] σ (fun v τ => v = none ∧ post τ) := by
  refine Sp.of (by decide) (by decide) fun X C hr hR hnl => ?_
  show Go X G 0 [(0, .ref (G.2.2.1 42)), (1, .int a1)] [] σ
  have hw : wpX8_one FX8_around a1 σ (fun σ_2 =>
  ∃ n, wbX8_product_7 FX8_around post n a1 0 σ_2) := hw
  refine go_aload_n C 0 rfl rfl dX8_product_0 ?_
  refine go_iload_n C 1 rfl rfl dX8_product_1 ?_
  refine go_callV (as := [.int a1]) C hR (shX8 G) ltX8 cwX8_125 (by omega) (by decide) rfl rfl (by decide) dX8_product_2 (spX8_one h5 hFX8_around (Nat.le_refl _) hw) (fun v_ τ_ hw => ?_)
  obtain ⟨rfl, hw⟩ := hw
  obtain ⟨σ_2, rfl⟩ : ∃ z, z = τ_ := ⟨_, rfl⟩
  refine go_iconst (v := 0) C rfl dX8_product_5 ?_
  refine go_istore_n (lv2 := [(2, .int 0), (0, .ref (G.2.2.1 42)), (1, .int a1)]) C rfl (by rw [hnl]; decide) rfl dX8_product_6 ?_
  refine go_sub [1, 2, 0] rfl ?_
  obtain ⟨n_0, hw⟩ := hw
  exact (gbX8_product_7 C hr hR hnl h5 hFX8_around hd) n_0 _ _ _ hw
-- CradleNames$Reader.sum(I)V
def wbX8_sum_32 (FX8_around : Int32 → Int32 → St → (St → Prop) → Prop) (K7 : Int32 → Int32 → St → Prop) (post : St → Prop) (v1 : Int32) (v2 : Int32) (σ : St) : Prop :=
  ∀ v3_1 : Int32, v3_1 = (gI σ 42 8) →
  wpX8_advance  σ (fun σ_3 =>
  wpX8_product FX8_around v1 σ_3 (fun σ_5 =>
  ∃ k_6, gR σ_5 42 9 = some (30 + 2 * k_6) ∧ k_6 < 6 ∧ (
  wpX9_put k_6 v3_1 σ_5 (fun σ_8 =>
  ∀ v2_9 : Int32, v2_9 = v2 + 1 →
  K7 v1 v2_9 σ_8))))
def wbX8_sum_7 (FX8_around : Int32 → Int32 → St → (St → Prop) → Prop)  (post : St → Prop) : Nat → Int32 → Int32 → St → Prop
  | 0, _, _, _ => False
  | n + 1, v1, v2, σ =>
    ((300 ≤ v2 →
      post σ) ∧
    (¬ 300 ≤ v2 →
      (((gI σ 42 8) = 28 →
        wbX8_sum_32 FX8_around (wbX8_sum_7 FX8_around post n) post v1 v2 σ) ∧
      (¬ (gI σ 42 8) = 28 →
        ((¬ (gI σ 42 8) = 29 →
          post σ) ∧
        ((gI σ 42 8) = 29 →
          wbX8_sum_32 FX8_around (wbX8_sum_7 FX8_around post n) post v1 v2 σ))))))
def wpX8_sum (FX8_around : Int32 → Int32 → St → (St → Prop) → Prop) (a1 : Int32) (σ : St) (post : St → Prop) : Prop :=
  wpX8_product FX8_around a1 σ (fun σ_2 =>
  ∃ n, wbX8_sum_7 FX8_around post n a1 0 σ_2)
set_option maxRecDepth 20000 in
set_option maxHeartbeats 4000000 in
theorem gbX8_sum_32 {X : XT} {G : GT} {l : Launch} {d : Nat}  {post : St → Prop} (C : Cx X G cX8_sum RX8) (hr : Rt X G none (fun v τ => v = none ∧ post τ)) (hR : Rm X l d) (hnl : X.2.2.2.2.2.2.2.2.2.2.1 = 4) {FX8_around : Int32 → Int32 → St → (St → Prop) → Prop} {dF : Nat} (h5 : 5 ≤ dF) (hFX8_around : ∀ (a1 : Int32) (a2 : Int32) (σ : St) (post : St → Prop), FX8_around a1 a2 σ post → Sp l G dF yX8_around cX8_around 3 none [.ref (G.2.2.1 42), .int a1, .int a2] σ (fun v τ => v = none ∧ post τ)) (hd : dF + 3 ≤ d)  {K7 : Int32 → Int32 → St → Prop} (hK7 : ∀ (v1 : Int32) (v2 : Int32) (σ : St), K7 v1 v2 σ → Go X G 7 [(0, .ref (G.2.2.1 42)), (1, .int v1), (2, .int v2)] [] σ)
    : ∀ (v1 : Int32) (v2 : Int32) (σ : St), wbX8_sum_32 FX8_around K7 post v1 v2 σ → Go X G 32 [(0, .ref (G.2.2.1 42)), (1, .int v1), (2, .int v2)] [] σ := by
  intro v1 v2 σ hw
  have hw : ∀ v3_1 : Int32, v3_1 = (gI σ 42 8) →
  wpX8_advance  σ (fun σ_3 =>
  wpX8_product FX8_around v1 σ_3 (fun σ_5 =>
  ∃ k_6, gR σ_5 42 9 = some (30 + 2 * k_6) ∧ k_6 < 6 ∧ (
  wpX9_put k_6 v3_1 σ_5 (fun σ_8 =>
  ∀ v2_9 : Int32, v2_9 = v2 + 1 →
  K7 v1 v2_9 σ_8)))) := hw
  refine go_aload_n C 0 rfl rfl dX8_sum_32 ?_
  refine go_get (v := .int (gI σ 42 8)) C (shX8 G) ltX8 lkX8_52 rfl dX8_sum_33 ?_
  refine go_topi (fun v3_1 ev3_1 => ?_)
  replace hw := hw v3_1 ev3_1
  refine go_istore_n (lv2 := [(3, .int v3_1), (0, .ref (G.2.2.1 42)), (1, .int v1), (2, .int v2)]) C rfl (by rw [hnl]; decide) rfl dX8_sum_36 ?_
  refine go_aload_n C 1 rfl rfl dX8_sum_37 ?_
  refine go_callV (as := []) C hR (shX8 G) ltX8 cwX8_92 (by omega) (by decide) rfl rfl (by decide) dX8_sum_38 (spX8_advance (Nat.le_refl _) hw) (fun v_ τ_ hw => ?_)
  obtain ⟨rfl, hw⟩ := hw
  obtain ⟨σ_3, rfl⟩ : ∃ z, z = τ_ := ⟨_, rfl⟩
  refine go_aload_n C 1 rfl rfl dX8_sum_41 ?_
  refine go_iload_n C 2 rfl rfl dX8_sum_42 ?_
  refine go_callV (as := [.int v1]) C hR (shX8 G) ltX8 cwX8_122 (by omega) (by decide) rfl rfl (by decide) dX8_sum_43 (spX8_product h5 hFX8_around (Nat.le_refl _) hw) (fun v_ τ_ hw => ?_)
  obtain ⟨rfl, hw⟩ := hw
  obtain ⟨σ_5, rfl⟩ : ∃ z, z = τ_ := ⟨_, rfl⟩
  refine go_aload_n C 1 rfl rfl dX8_sum_46 ?_
  obtain ⟨k_6, gk_6, hk_6, hw⟩ := hw
  refine go_get (v := .ref (G.2.2.1 (30 + 2 * k_6))) C (shX8 G) ltX8 lkX8_34 (by show some (va_rf ((gR σ_5 42 9).map G.2.2.1)) = _; rw [gk_6]; rfl) dX8_sum_47 ?_
  refine go_iload_n C 0 rfl rfl dX8_sum_50 ?_
  refine go_callV (as := [.int v3_1]) C hR (shX9 G hk_6) (ltX9 hk_6) cwX8_101 (by omega) (by decide) rfl rfl (by decide) dX8_sum_51 (spX9_put (Nat.le_refl _) hk_6 hw) (fun v_ τ_ hw => ?_)
  obtain ⟨rfl, hw⟩ := hw
  obtain ⟨σ_8, rfl⟩ : ∃ z, z = τ_ := ⟨_, rfl⟩
  obtain ⟨v2_9, ev2_9⟩ : ∃ z : Int32, z = v2 + 1 := ⟨_, rfl⟩
  replace hw := hw v2_9 ev2_9
  refine go_iinc (v := v2_9) (lv2 := [(2, .int v2_9), (3, .int v3_1), (0, .ref (G.2.2.1 42)), (1, .int v1)]) C 3 rfl (by rw [ev2_9]; rfl) (by rw [hnl]; decide) rfl dX8_sum_54 ?_
  refine go_goto C 7 rfl dX8_sum_57 ?_
  refine go_sub [2, 3, 0] rfl ?_
  exact hK7 _ _ _ hw
set_option maxRecDepth 20000 in
set_option maxHeartbeats 4000000 in
theorem gbX8_sum_7 {X : XT} {G : GT} {l : Launch} {d : Nat}  {post : St → Prop} (C : Cx X G cX8_sum RX8) (hr : Rt X G none (fun v τ => v = none ∧ post τ)) (hR : Rm X l d) (hnl : X.2.2.2.2.2.2.2.2.2.2.1 = 4) {FX8_around : Int32 → Int32 → St → (St → Prop) → Prop} {dF : Nat} (h5 : 5 ≤ dF) (hFX8_around : ∀ (a1 : Int32) (a2 : Int32) (σ : St) (post : St → Prop), FX8_around a1 a2 σ post → Sp l G dF yX8_around cX8_around 3 none [.ref (G.2.2.1 42), .int a1, .int a2] σ (fun v τ => v = none ∧ post τ)) (hd : dF + 3 ≤ d)   
    : ∀ (n : Nat) (v1 : Int32) (v2 : Int32) (σ : St), wbX8_sum_7 FX8_around  post n v1 v2 σ → Go X G 7 [(0, .ref (G.2.2.1 42)), (1, .int v1), (2, .int v2)] [] σ := by
  intro n
  induction n with
  | zero => intro v1 v2 σ hw; exact hw.elim
  | succ n ih =>
    intro v1 v2 σ hw
    have hw : ((300 ≤ v2 →
      post σ) ∧
    (¬ 300 ≤ v2 →
      (((gI σ 42 8) = 28 →
        wbX8_sum_32 FX8_around (wbX8_sum_7 FX8_around post n) post v1 v2 σ) ∧
      (¬ (gI σ 42 8) = 28 →
        ((¬ (gI σ 42 8) = 29 →
          post σ) ∧
        ((gI σ 42 8) = 29 →
          wbX8_sum_32 FX8_around (wbX8_sum_7 FX8_around post n) post v1 v2 σ)))))) := hw
    refine go_iload_n C 2 rfl rfl dX8_sum_7 ?_
    refine go_sipush (v := 300) C rfl dX8_sum_8 ?_
    refine go_icmp_ge C 60 rfl dX8_sum_11 (fun hc => ?_) (fun hc => ?_)
    · replace hw := hw.1 hc
      exact go_vret C hr hw dX8_sum_60
    · replace hw := hw.2 hc
      refine go_aload_n C 0 rfl rfl dX8_sum_14 ?_
      refine go_get (v := .int (gI σ 42 8)) C (shX8 G) ltX8 lkX8_52 rfl dX8_sum_15 ?_
      refine go_bipush (v := 28) C rfl dX8_sum_18 ?_
      refine go_icmp_eq C 32 rfl dX8_sum_20 (fun hc => ?_) (fun hc => ?_)
      · replace hw := hw.1 hc
        exact (gbX8_sum_32 C hr hR hnl h5 hFX8_around hd ih) _ _ _ hw
      · replace hw := hw.2 hc
        refine go_aload_n C 0 rfl rfl dX8_sum_23 ?_
        refine go_get (v := .int (gI σ 42 8)) C (shX8 G) ltX8 lkX8_52 rfl dX8_sum_24 ?_
        refine go_bipush (v := 29) C rfl dX8_sum_27 ?_
        refine go_icmp_ne C 60 rfl dX8_sum_29 (fun hc => ?_) (fun hc => ?_)
        · replace hw := hw.1 hc
          exact go_vret C hr hw dX8_sum_60
        · replace hw := hw.2 hc
          exact (gbX8_sum_32 C hr hR hnl h5 hFX8_around hd ih) _ _ _ hw
set_option maxRecDepth 20000 in
set_option maxHeartbeats 4000000 in
theorem spX8_sum {l : Launch} {G : GT} {d : Nat} {FX8_around : Int32 → Int32 → St → (St → Prop) → Prop} {dF : Nat} (h5 : 5 ≤ dF) (hFX8_around : ∀ (a1 : Int32) (a2 : Int32) (σ : St) (post : St → Prop), FX8_around a1 a2 σ post → Sp l G dF yX8_around cX8_around 3 none [.ref (G.2.2.1 42), .int a1, .int a2] σ (fun v τ => v = none ∧ post τ)) (hd : dF + 3 ≤ d)   {a1 : Int32} {σ : St} {post : St → Prop} (hw : wpX8_sum FX8_around a1 σ post) : Sp l G d yX8_sum cX8_sum 4 none [.ref (G.2.2.1 42), .int a1] σ (fun v τ => v = none ∧ post τ) := by
  refine Sp.of (by decide) (by decide) fun X C hr hR hnl => ?_
  show Go X G 0 [(0, .ref (G.2.2.1 42)), (1, .int a1)] [] σ
  have hw : wpX8_product FX8_around a1 σ (fun σ_2 =>
  ∃ n, wbX8_sum_7 FX8_around post n a1 0 σ_2) := hw
  refine go_aload_n C 0 rfl rfl dX8_sum_0 ?_
  refine go_iload_n C 1 rfl rfl dX8_sum_1 ?_
  refine go_callV (as := [.int a1]) C hR (shX8 G) ltX8 cwX8_122 (by omega) (by decide) rfl rfl (by decide) dX8_sum_2 (spX8_product h5 hFX8_around (Nat.le_refl _) hw) (fun v_ τ_ hw => ?_)
  obtain ⟨rfl, hw⟩ := hw
  obtain ⟨σ_2, rfl⟩ : ∃ z, z = τ_ := ⟨_, rfl⟩
  refine go_iconst (v := 0) C rfl dX8_sum_5 ?_
  refine go_istore_n (lv2 := [(2, .int 0), (0, .ref (G.2.2.1 42)), (1, .int a1)]) C rfl (by rw [hnl]; decide) rfl dX8_sum_6 ?_
  refine go_sub [1, 2, 0] rfl ?_
  obtain ⟨n_0, hw⟩ := hw
  exact (gbX8_sum_7 C hr hR hnl h5 hFX8_around hd) n_0 _ _ _ hw
-- CradleNames$Reader.around(II)V
def wbX8_around_112 (FX8_around : Int32 → Int32 → St → (St → Prop) → Prop)  (post : St → Prop)  (σ : St) : Prop :=
  wpX8_expect 33 σ (fun σ_2 =>
  post σ_2)
def wbX8_around_41 (FX8_around : Int32 → Int32 → St → (St → Prop) → Prop)  (post : St → Prop) (v1 : Int32) (v2 : Int32) (σ : St) : Prop :=
  ((¬ (gI σ 42 8) = 39 →
    wpX8_advance  σ (fun σ_2 =>
    ((¬ v1 = 29 →
      wpX8_sum FX8_around (v2 + 1) σ_2 (fun σ_4 =>
      ((v1 = 32 →
        wbX8_around_112 FX8_around post σ_4) ∧
      (¬ v1 = 32 →
        wpX8_expect 34 σ_4 (fun σ_6 =>
        wpX8_sum FX8_around (v2 + 1) σ_6 (fun σ_8 =>
        ∃ k_9, gR σ_8 42 9 = some (30 + 2 * k_9) ∧ k_9 < 6 ∧ (
        wpX9_put k_9 v1 σ_8 (fun σ_11 =>
        wbX8_around_112 FX8_around post σ_11)))))))) ∧
    (v1 = 29 →
      wpX8_one FX8_around (v2 + 1) σ_2 (fun σ_13 =>
      ∃ k_14, gR σ_13 42 9 = some (30 + 2 * k_14) ∧ k_14 < 6 ∧ (
      wpX9_put k_14 40 σ_13 (fun σ_16 =>
      post σ_16))))))) ∧
  ((gI σ 42 8) = 39 →
    post σ))
def wbX8_around_12 (FX8_around : Int32 → Int32 → St → (St → Prop) → Prop) (K30 : Int32 → Int32 → St → Prop) (post : St → Prop) (v1 : Int32) (v2 : Int32) (σ : St) : Prop :=
  wpX8_advance  σ (fun σ_2 =>
  (((gI σ_2 42 8) = 32 →
    K30 v1 v2 σ_2) ∧
  (¬ (gI σ_2 42 8) = 32 →
    wpX8_fail 1 σ_2 (fun σ_4 =>
    K30 v1 v2 σ_4))))
def wbX8_around_30 (FX8_around : Int32 → Int32 → St → (St → Prop) → Prop)  (post : St → Prop) (v1 : Int32) (v2 : Int32) (σ : St) : Prop :=
  ((v2 < 8 →
    wbX8_around_41 FX8_around post v1 v2 σ) ∧
  (¬ v2 < 8 →
    wpX8_fail 3 σ (fun σ_2 =>
    wbX8_around_41 FX8_around post v1 v2 σ_2)))
def wpX8_around (FX8_around : Int32 → Int32 → St → (St → Prop) → Prop) (a1 : Int32) (a2 : Int32) (σ : St) (post : St → Prop) : Prop :=
  ((a1 = 20 →
    wbX8_around_12 FX8_around (wbX8_around_30 FX8_around post) post a1 a2 σ) ∧
  (¬ a1 = 20 →
    ((¬ a1 = 21 →
      wbX8_around_30 FX8_around post a1 a2 σ) ∧
    (a1 = 21 →
      wbX8_around_12 FX8_around (wbX8_around_30 FX8_around post) post a1 a2 σ))))
def wrX8_around : Nat → Int32 → Int32 → St → (St → Prop) → Prop
  | 0, _, _, _, _ => False
  | n + 1, a1, a2, σ, post => wpX8_around (wrX8_around n) a1 a2 σ post
set_option maxRecDepth 20000 in
set_option maxHeartbeats 4000000 in
theorem gbX8_around_112 {X : XT} {G : GT} {l : Launch} {d : Nat}  {post : St → Prop} (C : Cx X G cX8_around RX8) (hr : Rt X G none (fun v τ => v = none ∧ post τ)) (hR : Rm X l d) (hnl : X.2.2.2.2.2.2.2.2.2.2.1 = 3) {FX8_around : Int32 → Int32 → St → (St → Prop) → Prop} {dF : Nat} (h5 : 5 ≤ dF) (hFX8_around : ∀ (a1 : Int32) (a2 : Int32) (σ : St) (post : St → Prop), FX8_around a1 a2 σ post → Sp l G dF yX8_around cX8_around 3 none [.ref (G.2.2.1 42), .int a1, .int a2] σ (fun v τ => v = none ∧ post τ)) (hd : dF + 4 ≤ d)   
    : ∀ (σ : St), wbX8_around_112 FX8_around  post σ → Go X G 112 [(0, .ref (G.2.2.1 42))] [] σ := by
  intro σ hw
  have hw : wpX8_expect 33 σ (fun σ_2 =>
  post σ_2) := hw
  refine go_aload_n C 0 rfl rfl dX8_around_112 ?_
  refine go_bipush (v := 33) C rfl dX8_around_113 ?_
  refine go_callV (as := [.int 33]) C hR (shX8 G) ltX8 cwX8_110 (by omega) (by decide) rfl rfl (by decide) dX8_around_115 (spX8_expect (Nat.le_refl _) hw) (fun v_ τ_ hw => ?_)
  obtain ⟨rfl, hw⟩ := hw
  obtain ⟨σ_2, rfl⟩ : ∃ z, z = τ_ := ⟨_, rfl⟩
  exact go_vret C hr hw dX8_around_118
set_option maxRecDepth 20000 in
set_option maxHeartbeats 4000000 in
theorem gbX8_around_41 {X : XT} {G : GT} {l : Launch} {d : Nat}  {post : St → Prop} (C : Cx X G cX8_around RX8) (hr : Rt X G none (fun v τ => v = none ∧ post τ)) (hR : Rm X l d) (hnl : X.2.2.2.2.2.2.2.2.2.2.1 = 3) {FX8_around : Int32 → Int32 → St → (St → Prop) → Prop} {dF : Nat} (h5 : 5 ≤ dF) (hFX8_around : ∀ (a1 : Int32) (a2 : Int32) (σ : St) (post : St → Prop), FX8_around a1 a2 σ post → Sp l G dF yX8_around cX8_around 3 none [.ref (G.2.2.1 42), .int a1, .int a2] σ (fun v τ => v = none ∧ post τ)) (hd : dF + 4 ≤ d)   
    : ∀ (v1 : Int32) (v2 : Int32) (σ : St), wbX8_around_41 FX8_around  post v1 v2 σ → Go X G 41 [(0, .ref (G.2.2.1 42)), (1, .int v1), (2, .int v2)] [] σ := by
  intro v1 v2 σ hw
  have hw : ((¬ (gI σ 42 8) = 39 →
    wpX8_advance  σ (fun σ_2 =>
    ((¬ v1 = 29 →
      wpX8_sum FX8_around (v2 + 1) σ_2 (fun σ_4 =>
      ((v1 = 32 →
        wbX8_around_112 FX8_around post σ_4) ∧
      (¬ v1 = 32 →
        wpX8_expect 34 σ_4 (fun σ_6 =>
        wpX8_sum FX8_around (v2 + 1) σ_6 (fun σ_8 =>
        ∃ k_9, gR σ_8 42 9 = some (30 + 2 * k_9) ∧ k_9 < 6 ∧ (
        wpX9_put k_9 v1 σ_8 (fun σ_11 =>
        wbX8_around_112 FX8_around post σ_11)))))))) ∧
    (v1 = 29 →
      wpX8_one FX8_around (v2 + 1) σ_2 (fun σ_13 =>
      ∃ k_14, gR σ_13 42 9 = some (30 + 2 * k_14) ∧ k_14 < 6 ∧ (
      wpX9_put k_14 40 σ_13 (fun σ_16 =>
      post σ_16))))))) ∧
  ((gI σ 42 8) = 39 →
    post σ)) := hw
  refine go_aload_n C 0 rfl rfl dX8_around_41 ?_
  refine go_get (v := .int (gI σ 42 8)) C (shX8 G) ltX8 lkX8_52 rfl dX8_around_42 ?_
  refine go_bipush (v := 39) C rfl dX8_around_45 ?_
  refine go_icmp_ne C 51 rfl dX8_around_47 (fun hc => ?_) (fun hc => ?_)
  · replace hw := hw.1 hc
    refine go_aload_n C 0 rfl rfl dX8_around_51 ?_
    refine go_callV (as := []) C hR (shX8 G) ltX8 cwX8_92 (by omega) (by decide) rfl rfl (by decide) dX8_around_52 (spX8_advance (Nat.le_refl _) hw) (fun v_ τ_ hw => ?_)
    obtain ⟨rfl, hw⟩ := hw
    obtain ⟨σ_2, rfl⟩ : ∃ z, z = τ_ := ⟨_, rfl⟩
    refine go_iload_n C 1 rfl rfl dX8_around_55 ?_
    refine go_bipush (v := 29) C rfl dX8_around_56 ?_
    refine go_icmp_ne C 78 rfl dX8_around_58 (fun hc => ?_) (fun hc => ?_)
    · replace hw := hw.1 hc
      refine go_aload_n C 0 rfl rfl dX8_around_78 ?_
      refine go_iload_n C 2 rfl rfl dX8_around_79 ?_
      refine go_iconst (v := 1) C rfl dX8_around_80 ?_
      refine go_iadd C dX8_around_81 ?_
      refine go_callV (as := [.int (v2 + 1)]) C hR (shX8 G) ltX8 cwX8_98 (by omega) (by decide) rfl rfl (by decide) dX8_around_82 (spX8_sum h5 hFX8_around (Nat.le_refl _) hw) (fun v_ τ_ hw => ?_)
      obtain ⟨rfl, hw⟩ := hw
      obtain ⟨σ_4, rfl⟩ : ∃ z, z = τ_ := ⟨_, rfl⟩
      refine go_iload_n C 1 rfl rfl dX8_around_85 ?_
      refine go_bipush (v := 32) C rfl dX8_around_86 ?_
      refine go_icmp_eq C 112 rfl dX8_around_88 (fun hc => ?_) (fun hc => ?_)
      · replace hw := hw.1 hc
        refine go_sub [0] rfl ?_
        exact (gbX8_around_112 C hr hR hnl h5 hFX8_around hd) _ hw
      · replace hw := hw.2 hc
        refine go_aload_n C 0 rfl rfl dX8_around_91 ?_
        refine go_bipush (v := 34) C rfl dX8_around_92 ?_
        refine go_callV (as := [.int 34]) C hR (shX8 G) ltX8 cwX8_110 (by omega) (by decide) rfl rfl (by decide) dX8_around_94 (spX8_expect (Nat.le_refl _) hw) (fun v_ τ_ hw => ?_)
        obtain ⟨rfl, hw⟩ := hw
        obtain ⟨σ_6, rfl⟩ : ∃ z, z = τ_ := ⟨_, rfl⟩
        refine go_aload_n C 0 rfl rfl dX8_around_97 ?_
        refine go_iload_n C 2 rfl rfl dX8_around_98 ?_
        refine go_iconst (v := 1) C rfl dX8_around_99 ?_
        refine go_iadd C dX8_around_100 ?_
        refine go_callV (as := [.int (v2 + 1)]) C hR (shX8 G) ltX8 cwX8_98 (by omega) (by decide) rfl rfl (by decide) dX8_around_101 (spX8_sum h5 hFX8_around (Nat.le_refl _) hw) (fun v_ τ_ hw => ?_)
        obtain ⟨rfl, hw⟩ := hw
        obtain ⟨σ_8, rfl⟩ : ∃ z, z = τ_ := ⟨_, rfl⟩
        refine go_aload_n C 0 rfl rfl dX8_around_104 ?_
        obtain ⟨k_9, gk_9, hk_9, hw⟩ := hw
        refine go_get (v := .ref (G.2.2.1 (30 + 2 * k_9))) C (shX8 G) ltX8 lkX8_34 (by show some (va_rf ((gR σ_8 42 9).map G.2.2.1)) = _; rw [gk_9]; rfl) dX8_around_105 ?_
        refine go_iload_n C 1 rfl rfl dX8_around_108 ?_
        refine go_callV (as := [.int v1]) C hR (shX9 G hk_9) (ltX9 hk_9) cwX8_101 (by omega) (by decide) rfl rfl (by decide) dX8_around_109 (spX9_put (Nat.le_refl _) hk_9 hw) (fun v_ τ_ hw => ?_)
        obtain ⟨rfl, hw⟩ := hw
        obtain ⟨σ_11, rfl⟩ : ∃ z, z = τ_ := ⟨_, rfl⟩
        refine go_sub [0] rfl ?_
        exact (gbX8_around_112 C hr hR hnl h5 hFX8_around hd) _ hw
    · replace hw := hw.2 hc
      refine go_aload_n C 0 rfl rfl dX8_around_61 ?_
      refine go_iload_n C 2 rfl rfl dX8_around_62 ?_
      refine go_iconst (v := 1) C rfl dX8_around_63 ?_
      refine go_iadd C dX8_around_64 ?_
      refine go_callV (as := [.int (v2 + 1)]) C hR (shX8 G) ltX8 cwX8_125 (by omega) (by decide) rfl rfl (by decide) dX8_around_65 (spX8_one h5 hFX8_around (Nat.le_refl _) hw) (fun v_ τ_ hw => ?_)
      obtain ⟨rfl, hw⟩ := hw
      obtain ⟨σ_13, rfl⟩ : ∃ z, z = τ_ := ⟨_, rfl⟩
      refine go_aload_n C 0 rfl rfl dX8_around_68 ?_
      obtain ⟨k_14, gk_14, hk_14, hw⟩ := hw
      refine go_get (v := .ref (G.2.2.1 (30 + 2 * k_14))) C (shX8 G) ltX8 lkX8_34 (by show some (va_rf ((gR σ_13 42 9).map G.2.2.1)) = _; rw [gk_14]; rfl) dX8_around_69 ?_
      refine go_bipush (v := 40) C rfl dX8_around_72 ?_
      refine go_callV (as := [.int 40]) C hR (shX9 G hk_14) (ltX9 hk_14) cwX8_101 (by omega) (by decide) rfl rfl (by decide) dX8_around_74 (spX9_put (Nat.le_refl _) hk_14 hw) (fun v_ τ_ hw => ?_)
      obtain ⟨rfl, hw⟩ := hw
      obtain ⟨σ_16, rfl⟩ : ∃ z, z = τ_ := ⟨_, rfl⟩
      exact go_vret C hr hw dX8_around_77
  · replace hw := hw.2 hc
    exact go_vret C hr hw dX8_around_50
set_option maxRecDepth 20000 in
set_option maxHeartbeats 4000000 in
theorem gbX8_around_12 {X : XT} {G : GT} {l : Launch} {d : Nat}  {post : St → Prop} (C : Cx X G cX8_around RX8) (hr : Rt X G none (fun v τ => v = none ∧ post τ)) (hR : Rm X l d) (hnl : X.2.2.2.2.2.2.2.2.2.2.1 = 3) {FX8_around : Int32 → Int32 → St → (St → Prop) → Prop} {dF : Nat} (h5 : 5 ≤ dF) (hFX8_around : ∀ (a1 : Int32) (a2 : Int32) (σ : St) (post : St → Prop), FX8_around a1 a2 σ post → Sp l G dF yX8_around cX8_around 3 none [.ref (G.2.2.1 42), .int a1, .int a2] σ (fun v τ => v = none ∧ post τ)) (hd : dF + 4 ≤ d)  {K30 : Int32 → Int32 → St → Prop} (hK30 : ∀ (v1 : Int32) (v2 : Int32) (σ : St), K30 v1 v2 σ → Go X G 30 [(0, .ref (G.2.2.1 42)), (1, .int v1), (2, .int v2)] [] σ)
    : ∀ (v1 : Int32) (v2 : Int32) (σ : St), wbX8_around_12 FX8_around K30 post v1 v2 σ → Go X G 12 [(0, .ref (G.2.2.1 42)), (1, .int v1), (2, .int v2)] [] σ := by
  intro v1 v2 σ hw
  have hw : wpX8_advance  σ (fun σ_2 =>
  (((gI σ_2 42 8) = 32 →
    K30 v1 v2 σ_2) ∧
  (¬ (gI σ_2 42 8) = 32 →
    wpX8_fail 1 σ_2 (fun σ_4 =>
    K30 v1 v2 σ_4)))) := hw
  refine go_aload_n C 0 rfl rfl dX8_around_12 ?_
  refine go_callV (as := []) C hR (shX8 G) ltX8 cwX8_92 (by omega) (by decide) rfl rfl (by decide) dX8_around_13 (spX8_advance (Nat.le_refl _) hw) (fun v_ τ_ hw => ?_)
  obtain ⟨rfl, hw⟩ := hw
  obtain ⟨σ_2, rfl⟩ : ∃ z, z = τ_ := ⟨_, rfl⟩
  refine go_aload_n C 0 rfl rfl dX8_around_16 ?_
  refine go_get (v := .int (gI σ_2 42 8)) C (shX8 G) ltX8 lkX8_52 rfl dX8_around_17 ?_
  refine go_bipush (v := 32) C rfl dX8_around_20 ?_
  refine go_icmp_eq C 30 rfl dX8_around_22 (fun hc => ?_) (fun hc => ?_)
  · replace hw := hw.1 hc
    exact hK30 _ _ _ hw
  · replace hw := hw.2 hc
    refine go_aload_n C 0 rfl rfl dX8_around_25 ?_
    refine go_iconst (v := 1) C rfl dX8_around_26 ?_
    refine go_callV (as := [.int 1]) C hR (shX8 G) ltX8 cwX8_95 (by omega) (by decide) rfl rfl (by decide) dX8_around_27 (spX8_fail (Nat.le_refl _) hw) (fun v_ τ_ hw => ?_)
    obtain ⟨rfl, hw⟩ := hw
    obtain ⟨σ_4, rfl⟩ : ∃ z, z = τ_ := ⟨_, rfl⟩
    exact hK30 _ _ _ hw
set_option maxRecDepth 20000 in
set_option maxHeartbeats 4000000 in
theorem gbX8_around_30 {X : XT} {G : GT} {l : Launch} {d : Nat}  {post : St → Prop} (C : Cx X G cX8_around RX8) (hr : Rt X G none (fun v τ => v = none ∧ post τ)) (hR : Rm X l d) (hnl : X.2.2.2.2.2.2.2.2.2.2.1 = 3) {FX8_around : Int32 → Int32 → St → (St → Prop) → Prop} {dF : Nat} (h5 : 5 ≤ dF) (hFX8_around : ∀ (a1 : Int32) (a2 : Int32) (σ : St) (post : St → Prop), FX8_around a1 a2 σ post → Sp l G dF yX8_around cX8_around 3 none [.ref (G.2.2.1 42), .int a1, .int a2] σ (fun v τ => v = none ∧ post τ)) (hd : dF + 4 ≤ d)   
    : ∀ (v1 : Int32) (v2 : Int32) (σ : St), wbX8_around_30 FX8_around  post v1 v2 σ → Go X G 30 [(0, .ref (G.2.2.1 42)), (1, .int v1), (2, .int v2)] [] σ := by
  intro v1 v2 σ hw
  have hw : ((v2 < 8 →
    wbX8_around_41 FX8_around post v1 v2 σ) ∧
  (¬ v2 < 8 →
    wpX8_fail 3 σ (fun σ_2 =>
    wbX8_around_41 FX8_around post v1 v2 σ_2))) := hw
  refine go_iload_n C 2 rfl rfl dX8_around_30 ?_
  refine go_bipush (v := 8) C rfl dX8_around_31 ?_
  refine go_icmp_lt C 41 rfl dX8_around_33 (fun hc => ?_) (fun hc => ?_)
  · replace hw := hw.1 hc
    exact (gbX8_around_41 C hr hR hnl h5 hFX8_around hd) _ _ _ hw
  · replace hw := hw.2 hc
    refine go_aload_n C 0 rfl rfl dX8_around_36 ?_
    refine go_iconst (v := 3) C rfl dX8_around_37 ?_
    refine go_callV (as := [.int 3]) C hR (shX8 G) ltX8 cwX8_95 (by omega) (by decide) rfl rfl (by decide) dX8_around_38 (spX8_fail (Nat.le_refl _) hw) (fun v_ τ_ hw => ?_)
    obtain ⟨rfl, hw⟩ := hw
    obtain ⟨σ_2, rfl⟩ : ∃ z, z = τ_ := ⟨_, rfl⟩
    exact (gbX8_around_41 C hr hR hnl h5 hFX8_around hd) _ _ _ hw
set_option maxRecDepth 20000 in
set_option maxHeartbeats 4000000 in
theorem spX8_around {l : Launch} {G : GT} {d : Nat} {FX8_around : Int32 → Int32 → St → (St → Prop) → Prop} {dF : Nat} (h5 : 5 ≤ dF) (hFX8_around : ∀ (a1 : Int32) (a2 : Int32) (σ : St) (post : St → Prop), FX8_around a1 a2 σ post → Sp l G dF yX8_around cX8_around 3 none [.ref (G.2.2.1 42), .int a1, .int a2] σ (fun v τ => v = none ∧ post τ)) (hd : dF + 4 ≤ d)   {a1 : Int32} {a2 : Int32} {σ : St} {post : St → Prop} (hw : wpX8_around FX8_around a1 a2 σ post) : Sp l G d yX8_around cX8_around 3 none [.ref (G.2.2.1 42), .int a1, .int a2] σ (fun v τ => v = none ∧ post τ) := by
  refine Sp.of (by decide) (by decide) fun X C hr hR hnl => ?_
  show Go X G 0 [(0, .ref (G.2.2.1 42)), (1, .int a1), (2, .int a2)] [] σ
  have hw : ((a1 = 20 →
    wbX8_around_12 FX8_around (wbX8_around_30 FX8_around post) post a1 a2 σ) ∧
  (¬ a1 = 20 →
    ((¬ a1 = 21 →
      wbX8_around_30 FX8_around post a1 a2 σ) ∧
    (a1 = 21 →
      wbX8_around_12 FX8_around (wbX8_around_30 FX8_around post) post a1 a2 σ)))) := hw
  refine go_iload_n C 1 rfl rfl dX8_around_0 ?_
  refine go_bipush (v := 20) C rfl dX8_around_1 ?_
  refine go_icmp_eq C 12 rfl dX8_around_3 (fun hc => ?_) (fun hc => ?_)
  · replace hw := hw.1 hc
    exact (gbX8_around_12 C hr hR hnl h5 hFX8_around hd (gbX8_around_30 C hr hR hnl h5 hFX8_around hd)) _ _ _ hw
  · replace hw := hw.2 hc
    refine go_iload_n C 1 rfl rfl dX8_around_6 ?_
    refine go_bipush (v := 21) C rfl dX8_around_7 ?_
    refine go_icmp_ne C 30 rfl dX8_around_9 (fun hc => ?_) (fun hc => ?_)
    · replace hw := hw.1 hc
      exact (gbX8_around_30 C hr hR hnl h5 hFX8_around hd) _ _ _ hw
    · replace hw := hw.2 hc
      exact (gbX8_around_12 C hr hR hnl h5 hFX8_around hd (gbX8_around_30 C hr hR hnl h5 hFX8_around hd)) _ _ _ hw
theorem srX8_around {l : Launch} {G : GT} : ∀ (n : Nat) (a1 : Int32) (a2 : Int32) (σ : St) (post : St → Prop), wrX8_around n a1 a2 σ post → Sp l G (5 + 4 * n) yX8_around cX8_around 3 none [.ref (G.2.2.1 42), .int a1, .int a2] σ (fun v τ => v = none ∧ post τ)
  | 0, _, _, _, _, hw => hw.elim
  | n + 1, _, _, _, _, hw => spX8_around (by omega) (srX8_around n) (by omega)  hw
-- CradleNames$Reader.ask()V
def wbX8_ask_89   (post : St → Prop) : Nat → Int32 → Int32 → St → Prop
  | 0, _, _, _ => False
  | n + 1, v1, v3, σ =>
    ((v1 ≤ v3 →
      post σ) ∧
    (¬ v1 ≤ v3 →
      ∃ k_1, gR σ 42 9 = some (30 + 2 * k_1) ∧ k_1 < 6 ∧ (
      wpX9_put k_1 19 σ (fun σ_3 =>
      ∀ v3_4 : Int32, v3_4 = v3 + 1 →
      wbX8_ask_89 post n v1 v3_4 σ_3))))
def wbX8_ask_65  (K70 : Int32 → Int32 → St → Prop) (post : St → Prop) (v1 : Int32) (v2 : Int32) (σ : St) : Prop :=
  wpX8_fail 1 σ (fun σ_2 =>
  K70 v1 v2 σ_2)
def wbX8_ask_70   (post : St → Prop) (v1 : Int32) (v2 : Int32) (σ : St) : Prop :=
  wpX8_advance  σ (fun σ_2 =>
  wpX8_sum (wrX8_around 12) v1 σ_2 (fun σ_4 =>
  ∃ k_5, gR σ_4 42 9 = some (30 + 2 * k_5) ∧ k_5 < 6 ∧ (
  wpX9_put k_5 v2 σ_4 (fun σ_7 =>
  ∃ n, wbX8_ask_89 post n v1 0 σ_7))))
def wbX8_ask_30  (K4 : Int32 → Int32 → St → Prop) (post : St → Prop) (v1 : Int32) (v2 : Int32) (σ : St) : Prop :=
  wpX8_advance  σ (fun σ_2 =>
  ∀ v1_3 : Int32, v1_3 = v1 + 1 →
  ∀ v2_4 : Int32, v2_4 = v2 + 1 →
  K4 v1_3 v2_4 σ_2)
def wbX8_ask_43   (post : St → Prop) (v1 : Int32) (σ : St) : Prop :=
  wpX8_sum (wrX8_around 12) v1 σ (fun σ_2 =>
  ∀ v2_3 : Int32, v2_3 = (gI σ_2 42 8) →
  ((v2_3 < 22 →
    wbX8_ask_65 (wbX8_ask_70 post) post v1 v2_3 σ_2) ∧
  (¬ v2_3 < 22 →
    ((v2_3 ≤ 27 →
      wbX8_ask_70 post v1 v2_3 σ_2) ∧
    (¬ v2_3 ≤ 27 →
      wbX8_ask_65 (wbX8_ask_70 post) post v1 v2_3 σ_2)))))
def wbX8_ask_4   (post : St → Prop) : Nat → Int32 → Int32 → St → Prop
  | 0, _, _, _ => False
  | n + 1, v1, v2, σ =>
    ((8 < v2 →
      wbX8_ask_43 post v1 σ) ∧
    (¬ 8 < v2 →
      ((¬ (gI σ 42 8) = 19 →
        wbX8_ask_43 post v1 σ) ∧
      ((gI σ 42 8) = 19 →
        ((v1 < 8 →
          wbX8_ask_30 (wbX8_ask_4 post n) post v1 v2 σ) ∧
        (¬ v1 < 8 →
          wpX8_fail 3 σ (fun σ_2 =>
          wbX8_ask_30 (wbX8_ask_4 post n) post v1 v2 σ_2)))))))
def wpX8_ask   (σ : St) (post : St → Prop) : Prop :=
  ∃ n, wbX8_ask_4 post n 0 0 σ
set_option maxRecDepth 20000 in
set_option maxHeartbeats 4000000 in
theorem gbX8_ask_89 {X : XT} {G : GT} {l : Launch} {d : Nat}  {post : St → Prop} (C : Cx X G cX8_ask RX8) (hr : Rt X G none (fun v τ => v = none ∧ post τ)) (hR : Rm X l d) (hnl : X.2.2.2.2.2.2.2.2.2.2.1 = 4)  (hd : 57 ≤ d)   
    : ∀ (n : Nat) (v1 : Int32) (v3 : Int32) (σ : St), wbX8_ask_89   post n v1 v3 σ → Go X G 89 [(0, .ref (G.2.2.1 42)), (1, .int v1), (3, .int v3)] [] σ := by
  intro n
  induction n with
  | zero => intro v1 v3 σ hw; exact hw.elim
  | succ n ih =>
    intro v1 v3 σ hw
    have hw : ((v1 ≤ v3 →
      post σ) ∧
    (¬ v1 ≤ v3 →
      ∃ k_1, gR σ 42 9 = some (30 + 2 * k_1) ∧ k_1 < 6 ∧ (
      wpX9_put k_1 19 σ (fun σ_3 =>
      ∀ v3_4 : Int32, v3_4 = v3 + 1 →
      wbX8_ask_89 post n v1 v3_4 σ_3)))) := hw
    refine go_iload_n C 2 rfl rfl dX8_ask_89 ?_
    refine go_iload_n C 1 rfl rfl dX8_ask_90 ?_
    refine go_icmp_ge C 109 rfl dX8_ask_91 (fun hc => ?_) (fun hc => ?_)
    · replace hw := hw.1 hc
      exact go_vret C hr hw dX8_ask_109
    · replace hw := hw.2 hc
      refine go_aload_n C 0 rfl rfl dX8_ask_94 ?_
      obtain ⟨k_1, gk_1, hk_1, hw⟩ := hw
      refine go_get (v := .ref (G.2.2.1 (30 + 2 * k_1))) C (shX8 G) ltX8 lkX8_34 (by show some (va_rf ((gR σ 42 9).map G.2.2.1)) = _; rw [gk_1]; rfl) dX8_ask_95 ?_
      refine go_bipush (v := 19) C rfl dX8_ask_98 ?_
      refine go_callV (as := [.int 19]) C hR (shX9 G hk_1) (ltX9 hk_1) cwX8_101 (Nat.le_trans (by decide) hd) (by decide) rfl rfl (by decide) dX8_ask_100 (spX9_put (Nat.le_refl _) hk_1 hw) (fun v_ τ_ hw => ?_)
      obtain ⟨rfl, hw⟩ := hw
      obtain ⟨σ_3, rfl⟩ : ∃ z, z = τ_ := ⟨_, rfl⟩
      obtain ⟨v3_4, ev3_4⟩ : ∃ z : Int32, z = v3 + 1 := ⟨_, rfl⟩
      replace hw := hw v3_4 ev3_4
      refine go_iinc (v := v3_4) (lv2 := [(3, .int v3_4), (0, .ref (G.2.2.1 42)), (1, .int v1)]) C 2 rfl (by rw [ev3_4]; rfl) (by rw [hnl]; decide) rfl dX8_ask_103 ?_
      refine go_goto C 89 rfl dX8_ask_106 ?_
      refine go_sub [1, 2, 0] rfl ?_
      exact ih _ _ _ hw
set_option maxRecDepth 20000 in
set_option maxHeartbeats 4000000 in
theorem gbX8_ask_65 {X : XT} {G : GT} {l : Launch} {d : Nat}  {post : St → Prop} (C : Cx X G cX8_ask RX8) (hr : Rt X G none (fun v τ => v = none ∧ post τ)) (hR : Rm X l d) (hnl : X.2.2.2.2.2.2.2.2.2.2.1 = 4)  (hd : 57 ≤ d)  {K70 : Int32 → Int32 → St → Prop} (hK70 : ∀ (v1 : Int32) (v2 : Int32) (σ : St), K70 v1 v2 σ → Go X G 70 [(0, .ref (G.2.2.1 42)), (1, .int v1), (2, .int v2)] [] σ)
    : ∀ (v1 : Int32) (v2 : Int32) (σ : St), wbX8_ask_65  K70 post v1 v2 σ → Go X G 65 [(0, .ref (G.2.2.1 42)), (1, .int v1), (2, .int v2)] [] σ := by
  intro v1 v2 σ hw
  have hw : wpX8_fail 1 σ (fun σ_2 =>
  K70 v1 v2 σ_2) := hw
  refine go_aload_n C 0 rfl rfl dX8_ask_65 ?_
  refine go_iconst (v := 1) C rfl dX8_ask_66 ?_
  refine go_callV (as := [.int 1]) C hR (shX8 G) ltX8 cwX8_95 (Nat.le_trans (by decide) hd) (by decide) rfl rfl (by decide) dX8_ask_67 (spX8_fail (Nat.le_refl _) hw) (fun v_ τ_ hw => ?_)
  obtain ⟨rfl, hw⟩ := hw
  obtain ⟨σ_2, rfl⟩ : ∃ z, z = τ_ := ⟨_, rfl⟩
  exact hK70 _ _ _ hw
set_option maxRecDepth 20000 in
set_option maxHeartbeats 4000000 in
theorem gbX8_ask_70 {X : XT} {G : GT} {l : Launch} {d : Nat}  {post : St → Prop} (C : Cx X G cX8_ask RX8) (hr : Rt X G none (fun v τ => v = none ∧ post τ)) (hR : Rm X l d) (hnl : X.2.2.2.2.2.2.2.2.2.2.1 = 4)  (hd : 57 ≤ d)   
    : ∀ (v1 : Int32) (v2 : Int32) (σ : St), wbX8_ask_70   post v1 v2 σ → Go X G 70 [(0, .ref (G.2.2.1 42)), (1, .int v1), (2, .int v2)] [] σ := by
  intro v1 v2 σ hw
  have hw : wpX8_advance  σ (fun σ_2 =>
  wpX8_sum (wrX8_around 12) v1 σ_2 (fun σ_4 =>
  ∃ k_5, gR σ_4 42 9 = some (30 + 2 * k_5) ∧ k_5 < 6 ∧ (
  wpX9_put k_5 v2 σ_4 (fun σ_7 =>
  ∃ n, wbX8_ask_89 post n v1 0 σ_7)))) := hw
  refine go_aload_n C 0 rfl rfl dX8_ask_70 ?_
  refine go_callV (as := []) C hR (shX8 G) ltX8 cwX8_92 (Nat.le_trans (by decide) hd) (by decide) rfl rfl (by decide) dX8_ask_71 (spX8_advance (Nat.le_refl _) hw) (fun v_ τ_ hw => ?_)
  obtain ⟨rfl, hw⟩ := hw
  obtain ⟨σ_2, rfl⟩ : ∃ z, z = τ_ := ⟨_, rfl⟩
  refine go_aload_n C 0 rfl rfl dX8_ask_74 ?_
  refine go_iload_n C 1 rfl rfl dX8_ask_75 ?_
  refine go_callV (as := [.int v1]) C hR (shX8 G) ltX8 cwX8_98 (Nat.le_trans (by decide) hd) (by decide) rfl rfl (by decide) dX8_ask_76 (spX8_sum (dF := 53) (by decide) (srX8_around 12) (Nat.le_refl _) hw) (fun v_ τ_ hw => ?_)
  obtain ⟨rfl, hw⟩ := hw
  obtain ⟨σ_4, rfl⟩ : ∃ z, z = τ_ := ⟨_, rfl⟩
  refine go_aload_n C 0 rfl rfl dX8_ask_79 ?_
  obtain ⟨k_5, gk_5, hk_5, hw⟩ := hw
  refine go_get (v := .ref (G.2.2.1 (30 + 2 * k_5))) C (shX8 G) ltX8 lkX8_34 (by show some (va_rf ((gR σ_4 42 9).map G.2.2.1)) = _; rw [gk_5]; rfl) dX8_ask_80 ?_
  refine go_iload_n C 2 rfl rfl dX8_ask_83 ?_
  refine go_callV (as := [.int v2]) C hR (shX9 G hk_5) (ltX9 hk_5) cwX8_101 (Nat.le_trans (by decide) hd) (by decide) rfl rfl (by decide) dX8_ask_84 (spX9_put (Nat.le_refl _) hk_5 hw) (fun v_ τ_ hw => ?_)
  obtain ⟨rfl, hw⟩ := hw
  obtain ⟨σ_7, rfl⟩ : ∃ z, z = τ_ := ⟨_, rfl⟩
  refine go_iconst (v := 0) C rfl dX8_ask_87 ?_
  refine go_istore_n (lv2 := [(3, .int 0), (0, .ref (G.2.2.1 42)), (1, .int v1), (2, .int v2)]) C rfl (by rw [hnl]; decide) rfl dX8_ask_88 ?_
  refine go_sub [1, 2, 0] rfl ?_
  obtain ⟨n_0, hw⟩ := hw
  exact (gbX8_ask_89 C hr hR hnl hd) n_0 _ _ _ hw
set_option maxRecDepth 20000 in
set_option maxHeartbeats 4000000 in
theorem gbX8_ask_30 {X : XT} {G : GT} {l : Launch} {d : Nat}  {post : St → Prop} (C : Cx X G cX8_ask RX8) (hr : Rt X G none (fun v τ => v = none ∧ post τ)) (hR : Rm X l d) (hnl : X.2.2.2.2.2.2.2.2.2.2.1 = 4)  (hd : 57 ≤ d)  {K4 : Int32 → Int32 → St → Prop} (hK4 : ∀ (v1 : Int32) (v2 : Int32) (σ : St), K4 v1 v2 σ → Go X G 4 [(0, .ref (G.2.2.1 42)), (1, .int v1), (2, .int v2)] [] σ)
    : ∀ (v1 : Int32) (v2 : Int32) (σ : St), wbX8_ask_30  K4 post v1 v2 σ → Go X G 30 [(0, .ref (G.2.2.1 42)), (1, .int v1), (2, .int v2)] [] σ := by
  intro v1 v2 σ hw
  have hw : wpX8_advance  σ (fun σ_2 =>
  ∀ v1_3 : Int32, v1_3 = v1 + 1 →
  ∀ v2_4 : Int32, v2_4 = v2 + 1 →
  K4 v1_3 v2_4 σ_2) := hw
  refine go_aload_n C 0 rfl rfl dX8_ask_30 ?_
  refine go_callV (as := []) C hR (shX8 G) ltX8 cwX8_92 (Nat.le_trans (by decide) hd) (by decide) rfl rfl (by decide) dX8_ask_31 (spX8_advance (Nat.le_refl _) hw) (fun v_ τ_ hw => ?_)
  obtain ⟨rfl, hw⟩ := hw
  obtain ⟨σ_2, rfl⟩ : ∃ z, z = τ_ := ⟨_, rfl⟩
  obtain ⟨v1_3, ev1_3⟩ : ∃ z : Int32, z = v1 + 1 := ⟨_, rfl⟩
  replace hw := hw v1_3 ev1_3
  refine go_iinc (v := v1_3) (lv2 := [(1, .int v1_3), (0, .ref (G.2.2.1 42)), (2, .int v2)]) C 1 rfl (by rw [ev1_3]; rfl) (by rw [hnl]; decide) rfl dX8_ask_34 ?_
  obtain ⟨v2_4, ev2_4⟩ : ∃ z : Int32, z = v2 + 1 := ⟨_, rfl⟩
  replace hw := hw v2_4 ev2_4
  refine go_iinc (v := v2_4) (lv2 := [(2, .int v2_4), (1, .int v1_3), (0, .ref (G.2.2.1 42))]) C 2 rfl (by rw [ev2_4]; rfl) (by rw [hnl]; decide) rfl dX8_ask_37 ?_
  refine go_goto C 4 rfl dX8_ask_40 ?_
  refine go_sub [2, 1, 0] rfl ?_
  exact hK4 _ _ _ hw
set_option maxRecDepth 20000 in
set_option maxHeartbeats 4000000 in
theorem gbX8_ask_43 {X : XT} {G : GT} {l : Launch} {d : Nat}  {post : St → Prop} (C : Cx X G cX8_ask RX8) (hr : Rt X G none (fun v τ => v = none ∧ post τ)) (hR : Rm X l d) (hnl : X.2.2.2.2.2.2.2.2.2.2.1 = 4)  (hd : 57 ≤ d)   
    : ∀ (v1 : Int32) (σ : St), wbX8_ask_43   post v1 σ → Go X G 43 [(0, .ref (G.2.2.1 42)), (1, .int v1)] [] σ := by
  intro v1 σ hw
  have hw : wpX8_sum (wrX8_around 12) v1 σ (fun σ_2 =>
  ∀ v2_3 : Int32, v2_3 = (gI σ_2 42 8) →
  ((v2_3 < 22 →
    wbX8_ask_65 (wbX8_ask_70 post) post v1 v2_3 σ_2) ∧
  (¬ v2_3 < 22 →
    ((v2_3 ≤ 27 →
      wbX8_ask_70 post v1 v2_3 σ_2) ∧
    (¬ v2_3 ≤ 27 →
      wbX8_ask_65 (wbX8_ask_70 post) post v1 v2_3 σ_2))))) := hw
  refine go_aload_n C 0 rfl rfl dX8_ask_43 ?_
  refine go_iload_n C 1 rfl rfl dX8_ask_44 ?_
  refine go_callV (as := [.int v1]) C hR (shX8 G) ltX8 cwX8_98 (Nat.le_trans (by decide) hd) (by decide) rfl rfl (by decide) dX8_ask_45 (spX8_sum (dF := 53) (by decide) (srX8_around 12) (Nat.le_refl _) hw) (fun v_ τ_ hw => ?_)
  obtain ⟨rfl, hw⟩ := hw
  obtain ⟨σ_2, rfl⟩ : ∃ z, z = τ_ := ⟨_, rfl⟩
  refine go_aload_n C 0 rfl rfl dX8_ask_48 ?_
  refine go_get (v := .int (gI σ_2 42 8)) C (shX8 G) ltX8 lkX8_52 rfl dX8_ask_49 ?_
  refine go_topi (fun v2_3 ev2_3 => ?_)
  replace hw := hw v2_3 ev2_3
  refine go_istore_n (lv2 := [(2, .int v2_3), (0, .ref (G.2.2.1 42)), (1, .int v1)]) C rfl (by rw [hnl]; decide) rfl dX8_ask_52 ?_
  refine go_iload_n C 0 rfl rfl dX8_ask_53 ?_
  refine go_bipush (v := 22) C rfl dX8_ask_54 ?_
  refine go_icmp_lt C 65 rfl dX8_ask_56 (fun hc => ?_) (fun hc => ?_)
  · replace hw := hw.1 hc
    refine go_sub [1, 2, 0] rfl ?_
    exact (gbX8_ask_65 C hr hR hnl hd (gbX8_ask_70 C hr hR hnl hd)) _ _ _ hw
  · replace hw := hw.2 hc
    refine go_iload_n C 0 rfl rfl dX8_ask_59 ?_
    refine go_bipush (v := 27) C rfl dX8_ask_60 ?_
    refine go_icmp_le C 70 rfl dX8_ask_62 (fun hc => ?_) (fun hc => ?_)
    · replace hw := hw.1 hc
      refine go_sub [1, 2, 0] rfl ?_
      exact (gbX8_ask_70 C hr hR hnl hd) _ _ _ hw
    · replace hw := hw.2 hc
      refine go_sub [1, 2, 0] rfl ?_
      exact (gbX8_ask_65 C hr hR hnl hd (gbX8_ask_70 C hr hR hnl hd)) _ _ _ hw
set_option maxRecDepth 20000 in
set_option maxHeartbeats 4000000 in
theorem gbX8_ask_4 {X : XT} {G : GT} {l : Launch} {d : Nat}  {post : St → Prop} (C : Cx X G cX8_ask RX8) (hr : Rt X G none (fun v τ => v = none ∧ post τ)) (hR : Rm X l d) (hnl : X.2.2.2.2.2.2.2.2.2.2.1 = 4)  (hd : 57 ≤ d)   
    : ∀ (n : Nat) (v1 : Int32) (v2 : Int32) (σ : St), wbX8_ask_4   post n v1 v2 σ → Go X G 4 [(0, .ref (G.2.2.1 42)), (1, .int v1), (2, .int v2)] [] σ := by
  intro n
  induction n with
  | zero => intro v1 v2 σ hw; exact hw.elim
  | succ n ih =>
    intro v1 v2 σ hw
    have hw : ((8 < v2 →
      wbX8_ask_43 post v1 σ) ∧
    (¬ 8 < v2 →
      ((¬ (gI σ 42 8) = 19 →
        wbX8_ask_43 post v1 σ) ∧
      ((gI σ 42 8) = 19 →
        ((v1 < 8 →
          wbX8_ask_30 (wbX8_ask_4 post n) post v1 v2 σ) ∧
        (¬ v1 < 8 →
          wpX8_fail 3 σ (fun σ_2 =>
          wbX8_ask_30 (wbX8_ask_4 post n) post v1 v2 σ_2))))))) := hw
    refine go_iload_n C 2 rfl rfl dX8_ask_4 ?_
    refine go_bipush (v := 8) C rfl dX8_ask_5 ?_
    refine go_icmp_gt C 43 rfl dX8_ask_7 (fun hc => ?_) (fun hc => ?_)
    · replace hw := hw.1 hc
      refine go_sub [0, 1] rfl ?_
      exact (gbX8_ask_43 C hr hR hnl hd) _ _ hw
    · replace hw := hw.2 hc
      refine go_aload_n C 0 rfl rfl dX8_ask_10 ?_
      refine go_get (v := .int (gI σ 42 8)) C (shX8 G) ltX8 lkX8_52 rfl dX8_ask_11 ?_
      refine go_bipush (v := 19) C rfl dX8_ask_14 ?_
      refine go_icmp_ne C 43 rfl dX8_ask_16 (fun hc => ?_) (fun hc => ?_)
      · replace hw := hw.1 hc
        refine go_sub [0, 1] rfl ?_
        exact (gbX8_ask_43 C hr hR hnl hd) _ _ hw
      · replace hw := hw.2 hc
        refine go_iload_n C 1 rfl rfl dX8_ask_19 ?_
        refine go_bipush (v := 8) C rfl dX8_ask_20 ?_
        refine go_icmp_lt C 30 rfl dX8_ask_22 (fun hc => ?_) (fun hc => ?_)
        · replace hw := hw.1 hc
          exact (gbX8_ask_30 C hr hR hnl hd ih) _ _ _ hw
        · replace hw := hw.2 hc
          refine go_aload_n C 0 rfl rfl dX8_ask_25 ?_
          refine go_iconst (v := 3) C rfl dX8_ask_26 ?_
          refine go_callV (as := [.int 3]) C hR (shX8 G) ltX8 cwX8_95 (Nat.le_trans (by decide) hd) (by decide) rfl rfl (by decide) dX8_ask_27 (spX8_fail (Nat.le_refl _) hw) (fun v_ τ_ hw => ?_)
          obtain ⟨rfl, hw⟩ := hw
          obtain ⟨σ_2, rfl⟩ : ∃ z, z = τ_ := ⟨_, rfl⟩
          exact (gbX8_ask_30 C hr hR hnl hd ih) _ _ _ hw
set_option maxRecDepth 20000 in
set_option maxHeartbeats 4000000 in
theorem spX8_ask {l : Launch} {G : GT} {d : Nat}  (hd : 57 ≤ d)    {σ : St} {post : St → Prop} (hw : wpX8_ask   σ post) : Sp l G d yX8_ask cX8_ask 4 none [.ref (G.2.2.1 42)] σ (fun v τ => v = none ∧ post τ) := by
  refine Sp.of (by decide) (by decide) fun X C hr hR hnl => ?_
  show Go X G 0 [(0, .ref (G.2.2.1 42))] [] σ
  have hw : ∃ n, wbX8_ask_4 post n 0 0 σ := hw
  refine go_iconst (v := 0) C rfl dX8_ask_0 ?_
  refine go_istore_n (lv2 := [(1, .int 0), (0, .ref (G.2.2.1 42))]) C rfl (by rw [hnl]; decide) rfl dX8_ask_1 ?_
  refine go_iconst (v := 0) C rfl dX8_ask_2 ?_
  refine go_istore_n (lv2 := [(2, .int 0), (1, .int 0), (0, .ref (G.2.2.1 42))]) C rfl (by rw [hnl]; decide) rfl dX8_ask_3 ?_
  refine go_sub [2, 1, 0] rfl ?_
  obtain ⟨n_0, hw⟩ := hw
  exact (gbX8_ask_4 C hr hR hnl hd) n_0 _ _ _ hw
