-- CradleNames$Judge.fits(I)Z
set_option maxRecDepth 20000 in
set_option maxHeartbeats 4000000 in
theorem spX3_fits {l : Launch} {G : GT} {d : Nat}  (hd : 1 ≤ d)  (hN : 75 ≤ G.2.2.2.2.2)  {a1 : Int32} {σ : St} {post : Int32 → St → Prop} (hw : wpX3_fits  a1 σ post) : Sp l G d yX3_fits cX3_fits 2 (some .boolean) [.ref (G.2.2.1 47), .int a1] σ (fun v τ => ∃ r : Int32, v = some (.int r) ∧ post r τ) := by
  refine Sp.of (by decide) (Nat.le_of_ble_eq_true rfl) fun X C hr hR hnl => ?_
  show Go X G 0 [(0, .ref (G.2.2.1 47)), (1, .int a1)] [] σ
  have hw : vp_in a1 16 ∧ (
  (((gI σ 47 9) < (gI σ 5 a1.toNatClampNeg) →
    post 0 σ) ∧
  (¬ (gI σ 47 9) < (gI σ 5 a1.toNatClampNeg) →
    vp_in a1 16 ∧ (
    ((¬ (((gI σ 4 a1.toNatClampNeg) >>> ((gI σ 47 12) &&& 31)) &&& 1) = 1 →
      post 0 σ) ∧
    ((((gI σ 4 a1.toNatClampNeg) >>> ((gI σ 47 12) &&& 31)) &&& 1) = 1 →
      ((¬ (((gI σ 47 13) >>> (a1 &&& 31)) &&& 1) = 1 →
        post 0 σ) ∧
      ((((gI σ 47 13) >>> (a1 &&& 31)) &&& 1) = 1 →
        post 1 σ)))))))) := hw
  refine go_aload_n C 0 rfl rfl dX3_fits_0 ?_
  refine go_get (v := .ref (G.2.2.1 1)) C (shX3 G) (ltX3 hN) lkX3_26 rfl dX3_fits_1 ?_
  refine go_get (v := .ref (G.2.2.1 5)) C (shX5 G) (ltX5 hN) lkX3_63 rfl dX3_fits_4 ?_
  refine go_iload_n C 1 rfl rfl dX3_fits_7 ?_
  refine go_iald C (saX5_toldIn G) (laX5_toldIn hN) hw.1 dX3_fits_8 ?_
  replace hw := hw.2
  refine go_aload_n C 0 rfl rfl dX3_fits_9 ?_
  refine go_get (v := .int (gI σ 47 9)) C (shX3 G) (ltX3 hN) lkX3_42 rfl dX3_fits_10 ?_
  refine go_icmp_gt C 52 rfl dX3_fits_13 (fun hc => ?_) (fun hc => ?_)
  · replace hw := hw.1 hc
    refine go_iconst (v := 0) C rfl dX3_fits_52 ?_
    exact go_zret C hr rfl ⟨_, rfl, hw⟩ dX3_fits_53
  · replace hw := hw.2 hc
    refine go_aload_n C 0 rfl rfl dX3_fits_16 ?_
    refine go_get (v := .ref (G.2.2.1 1)) C (shX3 G) (ltX3 hN) lkX3_26 rfl dX3_fits_17 ?_
    refine go_get (v := .ref (G.2.2.1 4)) C (shX5 G) (ltX5 hN) lkX3_68 rfl dX3_fits_20 ?_
    refine go_iload_n C 1 rfl rfl dX3_fits_23 ?_
    refine go_iald C (saX5_sexes G) (laX5_sexes hN) hw.1 dX3_fits_24 ?_
    replace hw := hw.2
    refine go_aload_n C 0 rfl rfl dX3_fits_25 ?_
    refine go_get (v := .int (gI σ 47 12)) C (shX3 G) (ltX3 hN) lkX3_51 rfl dX3_fits_26 ?_
    refine go_ishr C dX3_fits_29 ?_
    refine go_iconst (v := 1) C rfl dX3_fits_30 ?_
    refine go_iand C dX3_fits_31 ?_
    refine go_iconst (v := 1) C rfl dX3_fits_32 ?_
    refine go_icmp_ne C 52 rfl dX3_fits_33 (fun hc => ?_) (fun hc => ?_)
    · replace hw := hw.1 hc
      refine go_iconst (v := 0) C rfl dX3_fits_52 ?_
      exact go_zret C hr rfl ⟨_, rfl, hw⟩ dX3_fits_53
    · replace hw := hw.2 hc
      refine go_aload_n C 0 rfl rfl dX3_fits_36 ?_
      refine go_get (v := .int (gI σ 47 13)) C (shX3 G) (ltX3 hN) lkX3_60 rfl dX3_fits_37 ?_
      refine go_iload_n C 1 rfl rfl dX3_fits_40 ?_
      refine go_ishr C dX3_fits_41 ?_
      refine go_iconst (v := 1) C rfl dX3_fits_42 ?_
      refine go_iand C dX3_fits_43 ?_
      refine go_iconst (v := 1) C rfl dX3_fits_44 ?_
      refine go_icmp_ne C 52 rfl dX3_fits_45 (fun hc => ?_) (fun hc => ?_)
      · replace hw := hw.1 hc
        refine go_iconst (v := 0) C rfl dX3_fits_52 ?_
        exact go_zret C hr rfl ⟨_, rfl, hw⟩ dX3_fits_53
      · replace hw := hw.2 hc
        refine go_iconst (v := 1) C rfl dX3_fits_48 ?_
        refine go_goto C 53 rfl dX3_fits_49 ?_
        exact go_zret C hr rfl ⟨_, rfl, hw⟩ dX3_fits_53
-- CradleNames$Judge.weigh(I)V
set_option maxRecDepth 20000 in
set_option maxHeartbeats 4000000 in
theorem gbX3_weigh_211 {X : XT} {G : GT} {l : Launch} {d : Nat}  {post : St → Prop} (C : Cx X G cX3_weigh RX3) (hr : Rt X G none (fun v τ => v = none ∧ post τ)) (hR : Rm X l d) (hnl : X.2.2.2.2.2.2.2.2.2.2.1 = 7)  (hd : 4 ≤ d) (hN : 75 ≤ G.2.2.2.2.2)  {K10 : Int32 → Int32 → Int32 → Int32 → Int32 → St → Prop} (hK10 : ∀ (v1 : Int32) (v2 : Int32) (v3 : Int32) (v4 : Int32) (v5 : Int32) (σ : St), K10 v1 v2 v3 v4 v5 σ → Go X G 10 [(0, .ref (G.2.2.1 47)), (1, .int v1), (2, .int v2), (3, .int v3), (4, .int v4), (5, .int v5)] [] σ)
    : ∀ (v1 : Int32) (v2 : Int32) (v3 : Int32) (v4 : Int32) (v5 : Int32) (v6 : Int32) (σ : St), wbX3_weigh_211  K10 post v1 v2 v3 v4 v5 v6 σ → Go X G 211 [(0, .ref (G.2.2.1 47)), (1, .int v1), (2, .int v2), (3, .int v3), (4, .int v4), (5, .int v5), (6, .int v6)] [] σ := by
  intro v1 v2 v3 v4 v5 v6 σ hw
  have hw : ((v2 < 2 →
    ∀ v5_1 : Int32, v5_1 = v5 + 1 →
    K10 v1 v2 v3 v4 v5_1 σ) ∧
  (¬ v2 < 2 →
    ∀ v2_2 : Int32, v2_2 = v2 + (-1) →
    vp_in (v2_2 - 1) 64 ∧ (
    vp_in v2_2 64 ∧ (
    wpX3_join v6 (gI σ 48 (v2_2 - 1).toNatClampNeg) (gI σ 48 v2_2.toNatClampNeg) σ (fun r_3 σ_4 =>
    vp_in (v2_2 - 1) 64 ∧ (
    ∀ σ_5 : St, σ_5 = sI σ_4 48 (v2_2 - 1).toNatClampNeg r_3 →
    ∀ v5_6 : Int32, v5_6 = v5 + 1 →
    K10 v1 v2_2 v3 v4 v5_6 σ_5)))))) := hw
  refine go_iload_n C 2 rfl rfl dX3_weigh_211 ?_
  refine go_iconst (v := 2) C rfl dX3_weigh_212 ?_
  refine go_icmp_lt C 246 rfl dX3_weigh_213 (fun hc => ?_) (fun hc => ?_)
  · replace hw := hw.1 hc
    obtain ⟨v5_1, ev5_1⟩ : ∃ z : Int32, z = v5 + 1 := ⟨_, rfl⟩
    replace hw := hw v5_1 ev5_1
    refine go_iinc (v := v5_1) (lv2 := [(5, .int v5_1), (0, .ref (G.2.2.1 47)), (1, .int v1), (2, .int v2), (3, .int v3), (4, .int v4), (6, .int v6)]) C 5 rfl (by rw [ev5_1]; rfl) (by rw [hnl]; decide) rfl dX3_weigh_246 ?_
    refine go_goto C 10 rfl dX3_weigh_249 ?_
    refine go_sub [1, 2, 3, 4, 5, 0] rfl ?_
    exact hK10 _ _ _ _ _ _ hw
  · replace hw := hw.2 hc
    obtain ⟨v2_2, ev2_2⟩ : ∃ z : Int32, z = v2 + (-1) := ⟨_, rfl⟩
    replace hw := hw v2_2 ev2_2
    refine go_iinc (v := v2_2) (lv2 := [(2, .int v2_2), (0, .ref (G.2.2.1 47)), (1, .int v1), (3, .int v3), (4, .int v4), (5, .int v5), (6, .int v6)]) C 2 rfl (by rw [ev2_2]; rfl) (by rw [hnl]; decide) rfl dX3_weigh_216 ?_
    refine go_aload_n C 1 rfl rfl dX3_weigh_219 ?_
    refine go_get (v := .ref (G.2.2.1 48)) C (shX3 G) (ltX3 hN) lkX3_11 rfl dX3_weigh_220 ?_
    refine go_iload_n C 0 rfl rfl dX3_weigh_223 ?_
    refine go_iconst (v := 1) C rfl dX3_weigh_224 ?_
    refine go_isub C dX3_weigh_225 ?_
    refine go_iload C 6 rfl dX3_weigh_226 ?_
    refine go_aload_n C 1 rfl rfl dX3_weigh_228 ?_
    refine go_get (v := .ref (G.2.2.1 48)) C (shX3 G) (ltX3 hN) lkX3_11 rfl dX3_weigh_229 ?_
    refine go_iload_n C 0 rfl rfl dX3_weigh_232 ?_
    refine go_iconst (v := 1) C rfl dX3_weigh_233 ?_
    refine go_isub C dX3_weigh_234 ?_
    refine go_iald C (saX3_stack G) (laX3_stack hN) hw.1 dX3_weigh_235 ?_
    replace hw := hw.2
    refine go_aload_n C 1 rfl rfl dX3_weigh_236 ?_
    refine go_get (v := .ref (G.2.2.1 48)) C (shX3 G) (ltX3 hN) lkX3_11 rfl dX3_weigh_237 ?_
    refine go_iload_n C 0 rfl rfl dX3_weigh_240 ?_
    refine go_iald C (saX3_stack G) (laX3_stack hN) hw.1 dX3_weigh_241 ?_
    replace hw := hw.2
    refine go_callS (as := [.int v6, .int (gI σ 48 (v2_2 - 1).toNatClampNeg), .int (gI σ 48 v2_2.toNatClampNeg)]) C hR cwX3_92 (Nat.le_trans (by decide) hd) (by decide) rfl rfl (Nat.le_of_ble_eq_true rfl) dX3_weigh_242 (spX3_join (Nat.le_refl _) hN hw) (fun v_ τ_ hw => ?_)
    obtain ⟨r_3, rfl, hw⟩ := hw
    obtain ⟨σ_4, rfl⟩ : ∃ z, z = τ_ := ⟨_, rfl⟩
    refine go_iast C (saX3_stack G) (laX3_stack hN) hw.1 dX3_weigh_245 (go_nm fun σ_5 eσ_5 => ?_)
    replace hw := hw.2 σ_5 eσ_5
    obtain ⟨v5_6, ev5_6⟩ : ∃ z : Int32, z = v5 + 1 := ⟨_, rfl⟩
    replace hw := hw v5_6 ev5_6
    refine go_iinc (v := v5_6) (lv2 := [(5, .int v5_6), (2, .int v2_2), (0, .ref (G.2.2.1 47)), (1, .int v1), (3, .int v3), (4, .int v4), (6, .int v6)]) C 5 rfl (by rw [ev5_6]; rfl) (by rw [hnl]; decide) rfl dX3_weigh_246 ?_
    refine go_goto C 10 rfl dX3_weigh_249 ?_
    refine go_sub [2, 3, 1, 4, 5, 0] rfl ?_
    exact hK10 _ _ _ _ _ _ hw
set_option maxRecDepth 20000 in
set_option maxHeartbeats 4000000 in
theorem gbX3_weigh_172 {X : XT} {G : GT} {l : Launch} {d : Nat}  {post : St → Prop} (C : Cx X G cX3_weigh RX3) (hr : Rt X G none (fun v τ => v = none ∧ post τ)) (hR : Rm X l d) (hnl : X.2.2.2.2.2.2.2.2.2.2.1 = 7)  (hd : 4 ≤ d) (hN : 75 ≤ G.2.2.2.2.2)  {K10 : Int32 → Int32 → Int32 → Int32 → Int32 → St → Prop} (hK10 : ∀ (v1 : Int32) (v2 : Int32) (v3 : Int32) (v4 : Int32) (v5 : Int32) (σ : St), K10 v1 v2 v3 v4 v5 σ → Go X G 10 [(0, .ref (G.2.2.1 47)), (1, .int v1), (2, .int v2), (3, .int v3), (4, .int v4), (5, .int v5)] [] σ)
    : ∀ (v1 : Int32) (v2 : Int32) (v3 : Int32) (v4 : Int32) (v5 : Int32) (v6 : Int32) (σ : St), wbX3_weigh_172  K10 post v1 v2 v3 v4 v5 v6 σ → Go X G 172 [(0, .ref (G.2.2.1 47)), (1, .int v1), (2, .int v2), (3, .int v3), (4, .int v4), (5, .int v5), (6, .int v6)] [] σ := by
  intro v1 v2 v3 v4 v5 v6 σ hw
  have hw : ((v2 < 1 →
    wbX3_weigh_211 K10 post v1 v2 v3 v4 v5 v6 σ) ∧
  (¬ v2 < 1 →
    ((¬ v6 = 15 →
      wbX3_weigh_211 K10 post v1 v2 v3 v4 v5 v6 σ) ∧
    (v6 = 15 →
      ∀ v2_1 : Int32, v2_1 = v2 + (-1) →
      ((¬ v4 = 0 →
        ∀ v5_2 : Int32, v5_2 = v5 + 1 →
        K10 v1 v2_1 v3 1 v5_2 σ) ∧
      (v4 = 0 →
        vp_in v2_1 64 ∧ (
        (((gI σ 48 v2_1.toNatClampNeg) = 0 →
          ∀ v5_3 : Int32, v5_3 = v5 + 1 →
          K10 v1 v2_1 v3 0 v5_3 σ) ∧
        (¬ (gI σ 48 v2_1.toNatClampNeg) = 0 →
          ∀ v5_4 : Int32, v5_4 = v5 + 1 →
          K10 v1 v2_1 v3 1 v5_4 σ))))))))) := hw
  refine go_iload_n C 2 rfl rfl dX3_weigh_172 ?_
  refine go_iconst (v := 1) C rfl dX3_weigh_173 ?_
  refine go_icmp_lt C 211 rfl dX3_weigh_174 (fun hc => ?_) (fun hc => ?_)
  · replace hw := hw.1 hc
    exact (gbX3_weigh_211 C hr hR hnl hd hN hK10) _ _ _ _ _ _ _ hw
  · replace hw := hw.2 hc
    refine go_iload C 6 rfl dX3_weigh_177 ?_
    refine go_bipush (v := 15) C rfl dX3_weigh_179 ?_
    refine go_icmp_ne C 211 rfl dX3_weigh_181 (fun hc => ?_) (fun hc => ?_)
    · replace hw := hw.1 hc
      exact (gbX3_weigh_211 C hr hR hnl hd hN hK10) _ _ _ _ _ _ _ hw
    · replace hw := hw.2 hc
      obtain ⟨v2_1, ev2_1⟩ : ∃ z : Int32, z = v2 + (-1) := ⟨_, rfl⟩
      replace hw := hw v2_1 ev2_1
      refine go_iinc (v := v2_1) (lv2 := [(2, .int v2_1), (0, .ref (G.2.2.1 47)), (1, .int v1), (3, .int v3), (4, .int v4), (5, .int v5), (6, .int v6)]) C 2 rfl (by rw [ev2_1]; rfl) (by rw [hnl]; decide) rfl dX3_weigh_184 ?_
      refine go_iload C 4 rfl dX3_weigh_187 ?_
      refine go_if_ne C 201 rfl dX3_weigh_189 (fun hc => ?_) (fun hc => ?_)
      · replace hw := hw.1 hc
        refine go_iconst (v := 1) C rfl dX3_weigh_201 ?_
        refine go_goto C 206 rfl dX3_weigh_202 ?_
        refine go_istore (lv2 := [(4, .int 1), (2, .int v2_1), (0, .ref (G.2.2.1 47)), (1, .int v1), (3, .int v3), (5, .int v5), (6, .int v6)]) C (by rw [hnl]; decide) rfl dX3_weigh_206 ?_
        refine go_goto C 246 rfl dX3_weigh_208 ?_
        obtain ⟨v5_2, ev5_2⟩ : ∃ z : Int32, z = v5 + 1 := ⟨_, rfl⟩
        replace hw := hw v5_2 ev5_2
        refine go_iinc (v := v5_2) (lv2 := [(5, .int v5_2), (4, .int 1), (2, .int v2_1), (0, .ref (G.2.2.1 47)), (1, .int v1), (3, .int v3), (6, .int v6)]) C 5 rfl (by rw [ev5_2]; rfl) (by rw [hnl]; decide) rfl dX3_weigh_246 ?_
        refine go_goto C 10 rfl dX3_weigh_249 ?_
        refine go_sub [3, 4, 2, 5, 1, 0] rfl ?_
        exact hK10 _ _ _ _ _ _ hw
      · replace hw := hw.2 hc
        refine go_aload_n C 1 rfl rfl dX3_weigh_192 ?_
        refine go_get (v := .ref (G.2.2.1 48)) C (shX3 G) (ltX3 hN) lkX3_11 rfl dX3_weigh_193 ?_
        refine go_iload_n C 0 rfl rfl dX3_weigh_196 ?_
        refine go_iald C (saX3_stack G) (laX3_stack hN) hw.1 dX3_weigh_197 ?_
        replace hw := hw.2
        refine go_if_eq C 205 rfl dX3_weigh_198 (fun hc => ?_) (fun hc => ?_)
        · replace hw := hw.1 hc
          refine go_iconst (v := 0) C rfl dX3_weigh_205 ?_
          refine go_istore (lv2 := [(4, .int 0), (2, .int v2_1), (0, .ref (G.2.2.1 47)), (1, .int v1), (3, .int v3), (5, .int v5), (6, .int v6)]) C (by rw [hnl]; decide) rfl dX3_weigh_206 ?_
          refine go_goto C 246 rfl dX3_weigh_208 ?_
          obtain ⟨v5_3, ev5_3⟩ : ∃ z : Int32, z = v5 + 1 := ⟨_, rfl⟩
          replace hw := hw v5_3 ev5_3
          refine go_iinc (v := v5_3) (lv2 := [(5, .int v5_3), (4, .int 0), (2, .int v2_1), (0, .ref (G.2.2.1 47)), (1, .int v1), (3, .int v3), (6, .int v6)]) C 5 rfl (by rw [ev5_3]; rfl) (by rw [hnl]; decide) rfl dX3_weigh_246 ?_
          refine go_goto C 10 rfl dX3_weigh_249 ?_
          refine go_sub [3, 4, 2, 5, 1, 0] rfl ?_
          exact hK10 _ _ _ _ _ _ hw
        · replace hw := hw.2 hc
          refine go_iconst (v := 1) C rfl dX3_weigh_201 ?_
          refine go_goto C 206 rfl dX3_weigh_202 ?_
          refine go_istore (lv2 := [(4, .int 1), (2, .int v2_1), (0, .ref (G.2.2.1 47)), (1, .int v1), (3, .int v3), (5, .int v5), (6, .int v6)]) C (by rw [hnl]; decide) rfl dX3_weigh_206 ?_
          refine go_goto C 246 rfl dX3_weigh_208 ?_
          obtain ⟨v5_4, ev5_4⟩ : ∃ z : Int32, z = v5 + 1 := ⟨_, rfl⟩
          replace hw := hw v5_4 ev5_4
          refine go_iinc (v := v5_4) (lv2 := [(5, .int v5_4), (4, .int 1), (2, .int v2_1), (0, .ref (G.2.2.1 47)), (1, .int v1), (3, .int v3), (6, .int v6)]) C 5 rfl (by rw [ev5_4]; rfl) (by rw [hnl]; decide) rfl dX3_weigh_246 ?_
          refine go_goto C 10 rfl dX3_weigh_249 ?_
          refine go_sub [3, 4, 2, 5, 1, 0] rfl ?_
          exact hK10 _ _ _ _ _ _ hw
set_option maxRecDepth 20000 in
set_option maxHeartbeats 4000000 in
theorem gbX3_weigh_48 {X : XT} {G : GT} {l : Launch} {d : Nat}  {post : St → Prop} (C : Cx X G cX3_weigh RX3) (hr : Rt X G none (fun v τ => v = none ∧ post τ)) (hR : Rm X l d) (hnl : X.2.2.2.2.2.2.2.2.2.2.1 = 7)  (hd : 4 ≤ d) (hN : 75 ≤ G.2.2.2.2.2)  {K10 : Int32 → Int32 → Int32 → Int32 → Int32 → St → Prop} (hK10 : ∀ (v1 : Int32) (v2 : Int32) (v3 : Int32) (v4 : Int32) (v5 : Int32) (σ : St), K10 v1 v2 v3 v4 v5 σ → Go X G 10 [(0, .ref (G.2.2.1 47)), (1, .int v1), (2, .int v2), (3, .int v3), (4, .int v4), (5, .int v5)] [] σ)
    : ∀ (v1 : Int32) (v2 : Int32) (v3 : Int32) (v4 : Int32) (v5 : Int32) (v6 : Int32) (σ : St), wbX3_weigh_48  K10 post v1 v2 v3 v4 v5 v6 σ → Go X G 48 [(0, .ref (G.2.2.1 47)), (1, .int v1), (2, .int v2), (3, .int v3), (4, .int v4), (5, .int v5), (6, .int v6)] [] σ := by
  intro v1 v2 v3 v4 v5 v6 σ hw
  have hw : ((64 ≤ v2 →
    ∀ v5_1 : Int32, v5_1 = v5 + 1 →
    K10 v1 v2 v3 v4 v5_1 σ) ∧
  (¬ 64 ≤ v2 →
    ((v6 < 100 →
      wpX3_heard v6 v1 σ (fun r_2 σ_3 =>
      vp_in v2 64 ∧ (
      ∀ σ_4 : St, σ_4 = sI σ_3 48 v2.toNatClampNeg r_2 →
      ∀ v2_5 : Int32, v2_5 = v2 + 1 →
      ∀ v5_6 : Int32, v5_6 = v5 + 1 →
      K10 v1 v2_5 v3 v4 v5_6 σ_4))) ∧
    (¬ v6 < 100 →
      vp_in v2 64 ∧ (
      ∀ σ_7 : St, σ_7 = sI σ 48 v2.toNatClampNeg (v6 - 100) →
      ∀ v2_8 : Int32, v2_8 = v2 + 1 →
      ∀ v5_9 : Int32, v5_9 = v5 + 1 →
      K10 v1 v2_8 v3 v4 v5_9 σ_7))))) := hw
  refine go_iload_n C 2 rfl rfl dX3_weigh_48 ?_
  refine go_bipush (v := 64) C rfl dX3_weigh_49 ?_
  refine go_icmp_ge C 246 rfl dX3_weigh_51 (fun hc => ?_) (fun hc => ?_)
  · replace hw := hw.1 hc
    obtain ⟨v5_1, ev5_1⟩ : ∃ z : Int32, z = v5 + 1 := ⟨_, rfl⟩
    replace hw := hw v5_1 ev5_1
    refine go_iinc (v := v5_1) (lv2 := [(5, .int v5_1), (0, .ref (G.2.2.1 47)), (1, .int v1), (2, .int v2), (3, .int v3), (4, .int v4), (6, .int v6)]) C 5 rfl (by rw [ev5_1]; rfl) (by rw [hnl]; decide) rfl dX3_weigh_246 ?_
    refine go_goto C 10 rfl dX3_weigh_249 ?_
    refine go_sub [1, 2, 3, 4, 5, 0] rfl ?_
    exact hK10 _ _ _ _ _ _ hw
  · replace hw := hw.2 hc
    refine go_aload_n C 0 rfl rfl dX3_weigh_54 ?_
    refine go_get (v := .ref (G.2.2.1 48)) C (shX3 G) (ltX3 hN) lkX3_11 rfl dX3_weigh_55 ?_
    refine go_iload_n C 2 rfl rfl dX3_weigh_58 ?_
    refine go_iload C 6 rfl dX3_weigh_59 ?_
    refine go_bipush (v := 100) C rfl dX3_weigh_61 ?_
    refine go_icmp_lt C 74 rfl dX3_weigh_63 (fun hc => ?_) (fun hc => ?_)
    · replace hw := hw.1 hc
      refine go_aload_n C 0 rfl rfl dX3_weigh_74 ?_
      refine go_iload C 6 rfl dX3_weigh_75 ?_
      refine go_iload_n C 1 rfl rfl dX3_weigh_77 ?_
      refine go_callV (as := [.int v6, .int v1]) C hR (shX3 G) (ltX3 hN) cwX3_88 (Nat.le_trans (by decide) hd) (by decide) rfl rfl (Nat.le_of_ble_eq_true rfl) dX3_weigh_78 (spX3_heard (Nat.le_refl _) hN hw) (fun v_ τ_ hw => ?_)
      obtain ⟨r_2, rfl, hw⟩ := hw
      obtain ⟨σ_3, rfl⟩ : ∃ z, z = τ_ := ⟨_, rfl⟩
      refine go_iast C (saX3_stack G) (laX3_stack hN) hw.1 dX3_weigh_81 (go_nm fun σ_4 eσ_4 => ?_)
      replace hw := hw.2 σ_4 eσ_4
      obtain ⟨v2_5, ev2_5⟩ : ∃ z : Int32, z = v2 + 1 := ⟨_, rfl⟩
      replace hw := hw v2_5 ev2_5
      refine go_iinc (v := v2_5) (lv2 := [(2, .int v2_5), (0, .ref (G.2.2.1 47)), (1, .int v1), (3, .int v3), (4, .int v4), (5, .int v5), (6, .int v6)]) C 2 rfl (by rw [ev2_5]; rfl) (by rw [hnl]; decide) rfl dX3_weigh_82 ?_
      refine go_goto C 246 rfl dX3_weigh_85 ?_
      obtain ⟨v5_6, ev5_6⟩ : ∃ z : Int32, z = v5 + 1 := ⟨_, rfl⟩
      replace hw := hw v5_6 ev5_6
      refine go_iinc (v := v5_6) (lv2 := [(5, .int v5_6), (2, .int v2_5), (0, .ref (G.2.2.1 47)), (1, .int v1), (3, .int v3), (4, .int v4), (6, .int v6)]) C 5 rfl (by rw [ev5_6]; rfl) (by rw [hnl]; decide) rfl dX3_weigh_246 ?_
      refine go_goto C 10 rfl dX3_weigh_249 ?_
      refine go_sub [2, 3, 1, 4, 5, 0] rfl ?_
      exact hK10 _ _ _ _ _ _ hw
    · replace hw := hw.2 hc
      refine go_iload C 6 rfl dX3_weigh_66 ?_
      refine go_bipush (v := 100) C rfl dX3_weigh_68 ?_
      refine go_isub C dX3_weigh_70 ?_
      refine go_goto C 81 rfl dX3_weigh_71 ?_
      refine go_iast C (saX3_stack G) (laX3_stack hN) hw.1 dX3_weigh_81 (go_nm fun σ_7 eσ_7 => ?_)
      replace hw := hw.2 σ_7 eσ_7
      obtain ⟨v2_8, ev2_8⟩ : ∃ z : Int32, z = v2 + 1 := ⟨_, rfl⟩
      replace hw := hw v2_8 ev2_8
      refine go_iinc (v := v2_8) (lv2 := [(2, .int v2_8), (0, .ref (G.2.2.1 47)), (1, .int v1), (3, .int v3), (4, .int v4), (5, .int v5), (6, .int v6)]) C 2 rfl (by rw [ev2_8]; rfl) (by rw [hnl]; decide) rfl dX3_weigh_82 ?_
      refine go_goto C 246 rfl dX3_weigh_85 ?_
      obtain ⟨v5_9, ev5_9⟩ : ∃ z : Int32, z = v5 + 1 := ⟨_, rfl⟩
      replace hw := hw v5_9 ev5_9
      refine go_iinc (v := v5_9) (lv2 := [(5, .int v5_9), (2, .int v2_8), (0, .ref (G.2.2.1 47)), (1, .int v1), (3, .int v3), (4, .int v4), (6, .int v6)]) C 5 rfl (by rw [ev5_9]; rfl) (by rw [hnl]; decide) rfl dX3_weigh_246 ?_
      refine go_goto C 10 rfl dX3_weigh_249 ?_
      refine go_sub [2, 3, 1, 4, 5, 0] rfl ?_
      exact hK10 _ _ _ _ _ _ hw
set_option maxRecDepth 20000 in
set_option maxHeartbeats 4000000 in
theorem gbX3_weigh_107 {X : XT} {G : GT} {l : Launch} {d : Nat}  {post : St → Prop} (C : Cx X G cX3_weigh RX3) (hr : Rt X G none (fun v τ => v = none ∧ post τ)) (hR : Rm X l d) (hnl : X.2.2.2.2.2.2.2.2.2.2.1 = 7)  (hd : 4 ≤ d) (hN : 75 ≤ G.2.2.2.2.2)  {K10 : Int32 → Int32 → Int32 → Int32 → Int32 → St → Prop} (hK10 : ∀ (v1 : Int32) (v2 : Int32) (v3 : Int32) (v4 : Int32) (v5 : Int32) (σ : St), K10 v1 v2 v3 v4 v5 σ → Go X G 10 [(0, .ref (G.2.2.1 47)), (1, .int v1), (2, .int v2), (3, .int v3), (4, .int v4), (5, .int v5)] [] σ)
    : ∀ (v1 : Int32) (v2 : Int32) (v3 : Int32) (v4 : Int32) (v5 : Int32) (v6 : Int32) (σ : St), wbX3_weigh_107  K10 post v1 v2 v3 v4 v5 v6 σ → Go X G 107 [(0, .ref (G.2.2.1 47)), (1, .int v1), (2, .int v2), (3, .int v3), (4, .int v4), (5, .int v5), (6, .int v6)] [] σ := by
  intro v1 v2 v3 v4 v5 v6 σ hw
  have hw : ((¬ v6 = 40 →
    vp_in (v2 - 1) 64 ∧ (
    vp_in (v2 - 1) 64 ∧ (
    ∀ σ_1 : St, σ_1 = sI σ 48 (v2 - 1).toNatClampNeg (1 - (gI σ 48 (v2 - 1).toNatClampNeg)) →
    ∀ v5_2 : Int32, v5_2 = v5 + 1 →
    K10 v1 v2 v3 v4 v5_2 σ_1))) ∧
  (v6 = 40 →
    vp_in (v2 - 1) 64 ∧ (
    vp_in (v2 - 1) 64 ∧ (
    ∀ σ_3 : St, σ_3 = sI σ 48 (v2 - 1).toNatClampNeg (-(gI σ 48 (v2 - 1).toNatClampNeg)) →
    ∀ v5_4 : Int32, v5_4 = v5 + 1 →
    K10 v1 v2 v3 v4 v5_4 σ_3)))) := hw
  refine go_aload_n C 0 rfl rfl dX3_weigh_107 ?_
  refine go_get (v := .ref (G.2.2.1 48)) C (shX3 G) (ltX3 hN) lkX3_11 rfl dX3_weigh_108 ?_
  refine go_iload_n C 2 rfl rfl dX3_weigh_111 ?_
  refine go_iconst (v := 1) C rfl dX3_weigh_112 ?_
  refine go_isub C dX3_weigh_113 ?_
  refine go_iload C 6 rfl dX3_weigh_114 ?_
  refine go_bipush (v := 40) C rfl dX3_weigh_116 ?_
  refine go_icmp_ne C 133 rfl dX3_weigh_118 (fun hc => ?_) (fun hc => ?_)
  · replace hw := hw.1 hc
    refine go_iconst (v := 1) C rfl dX3_weigh_133 ?_
    refine go_aload_n C 0 rfl rfl dX3_weigh_134 ?_
    refine go_get (v := .ref (G.2.2.1 48)) C (shX3 G) (ltX3 hN) lkX3_11 rfl dX3_weigh_135 ?_
    refine go_iload_n C 2 rfl rfl dX3_weigh_138 ?_
    refine go_iconst (v := 1) C rfl dX3_weigh_139 ?_
    refine go_isub C dX3_weigh_140 ?_
    refine go_iald C (saX3_stack G) (laX3_stack hN) hw.1 dX3_weigh_141 ?_
    replace hw := hw.2
    refine go_isub C dX3_weigh_142 ?_
    refine go_iast C (saX3_stack G) (laX3_stack hN) hw.1 dX3_weigh_143 (go_nm fun σ_1 eσ_1 => ?_)
    replace hw := hw.2 σ_1 eσ_1
    refine go_goto C 246 rfl dX3_weigh_144 ?_
    obtain ⟨v5_2, ev5_2⟩ : ∃ z : Int32, z = v5 + 1 := ⟨_, rfl⟩
    replace hw := hw v5_2 ev5_2
    refine go_iinc (v := v5_2) (lv2 := [(5, .int v5_2), (0, .ref (G.2.2.1 47)), (1, .int v1), (2, .int v2), (3, .int v3), (4, .int v4), (6, .int v6)]) C 5 rfl (by rw [ev5_2]; rfl) (by rw [hnl]; decide) rfl dX3_weigh_246 ?_
    refine go_goto C 10 rfl dX3_weigh_249 ?_
    refine go_sub [1, 2, 3, 4, 5, 0] rfl ?_
    exact hK10 _ _ _ _ _ _ hw
  · replace hw := hw.2 hc
    refine go_aload_n C 0 rfl rfl dX3_weigh_121 ?_
    refine go_get (v := .ref (G.2.2.1 48)) C (shX3 G) (ltX3 hN) lkX3_11 rfl dX3_weigh_122 ?_
    refine go_iload_n C 2 rfl rfl dX3_weigh_125 ?_
    refine go_iconst (v := 1) C rfl dX3_weigh_126 ?_
    refine go_isub C dX3_weigh_127 ?_
    refine go_iald C (saX3_stack G) (laX3_stack hN) hw.1 dX3_weigh_128 ?_
    replace hw := hw.2
    refine go_ineg C dX3_weigh_129 ?_
    refine go_goto C 143 rfl dX3_weigh_130 ?_
    refine go_iast C (saX3_stack G) (laX3_stack hN) hw.1 dX3_weigh_143 (go_nm fun σ_3 eσ_3 => ?_)
    replace hw := hw.2 σ_3 eσ_3
    refine go_goto C 246 rfl dX3_weigh_144 ?_
    obtain ⟨v5_4, ev5_4⟩ : ∃ z : Int32, z = v5 + 1 := ⟨_, rfl⟩
    replace hw := hw v5_4 ev5_4
    refine go_iinc (v := v5_4) (lv2 := [(5, .int v5_4), (0, .ref (G.2.2.1 47)), (1, .int v1), (2, .int v2), (3, .int v3), (4, .int v4), (6, .int v6)]) C 5 rfl (by rw [ev5_4]; rfl) (by rw [hnl]; decide) rfl dX3_weigh_246 ?_
    refine go_goto C 10 rfl dX3_weigh_249 ?_
    refine go_sub [1, 2, 3, 4, 5, 0] rfl ?_
    exact hK10 _ _ _ _ _ _ hw
set_option maxRecDepth 20000 in
set_option maxHeartbeats 4000000 in
theorem gbX3_weigh_147 {X : XT} {G : GT} {l : Launch} {d : Nat}  {post : St → Prop} (C : Cx X G cX3_weigh RX3) (hr : Rt X G none (fun v τ => v = none ∧ post τ)) (hR : Rm X l d) (hnl : X.2.2.2.2.2.2.2.2.2.2.1 = 7)  (hd : 4 ≤ d) (hN : 75 ≤ G.2.2.2.2.2)  {K10 : Int32 → Int32 → Int32 → Int32 → Int32 → St → Prop} (hK10 : ∀ (v1 : Int32) (v2 : Int32) (v3 : Int32) (v4 : Int32) (v5 : Int32) (σ : St), K10 v1 v2 v3 v4 v5 σ → Go X G 10 [(0, .ref (G.2.2.1 47)), (1, .int v1), (2, .int v2), (3, .int v3), (4, .int v4), (5, .int v5)] [] σ)
    : ∀ (v1 : Int32) (v2 : Int32) (v3 : Int32) (v4 : Int32) (v5 : Int32) (v6 : Int32) (σ : St), wbX3_weigh_147  K10 post v1 v2 v3 v4 v5 v6 σ → Go X G 147 [(0, .ref (G.2.2.1 47)), (1, .int v1), (2, .int v2), (3, .int v3), (4, .int v4), (5, .int v5), (6, .int v6)] [] σ := by
  intro v1 v2 v3 v4 v5 v6 σ hw
  have hw : ((v2 < 1 →
    wbX3_weigh_172 K10 post v1 v2 v3 v4 v5 v6 σ) ∧
  (¬ v2 < 1 →
    ((¬ v6 = 14 →
      wbX3_weigh_172 K10 post v1 v2 v3 v4 v5 v6 σ) ∧
    (v6 = 14 →
      ∀ v2_1 : Int32, v2_1 = v2 + (-1) →
      vp_in v2_1 64 ∧ (
      ∀ v3_2 : Int32, v3_2 = (gI σ 48 v2_1.toNatClampNeg) →
      ∀ v5_3 : Int32, v5_3 = v5 + 1 →
      K10 v1 v2_1 v3_2 v4 v5_3 σ))))) := hw
  refine go_iload_n C 2 rfl rfl dX3_weigh_147 ?_
  refine go_iconst (v := 1) C rfl dX3_weigh_148 ?_
  refine go_icmp_lt C 172 rfl dX3_weigh_149 (fun hc => ?_) (fun hc => ?_)
  · replace hw := hw.1 hc
    exact (gbX3_weigh_172 C hr hR hnl hd hN hK10) _ _ _ _ _ _ _ hw
  · replace hw := hw.2 hc
    refine go_iload C 6 rfl dX3_weigh_152 ?_
    refine go_bipush (v := 14) C rfl dX3_weigh_154 ?_
    refine go_icmp_ne C 172 rfl dX3_weigh_156 (fun hc => ?_) (fun hc => ?_)
    · replace hw := hw.1 hc
      exact (gbX3_weigh_172 C hr hR hnl hd hN hK10) _ _ _ _ _ _ _ hw
    · replace hw := hw.2 hc
      obtain ⟨v2_1, ev2_1⟩ : ∃ z : Int32, z = v2 + (-1) := ⟨_, rfl⟩
      replace hw := hw v2_1 ev2_1
      refine go_iinc (v := v2_1) (lv2 := [(2, .int v2_1), (0, .ref (G.2.2.1 47)), (1, .int v1), (3, .int v3), (4, .int v4), (5, .int v5), (6, .int v6)]) C 2 rfl (by rw [ev2_1]; rfl) (by rw [hnl]; decide) rfl dX3_weigh_159 ?_
      refine go_aload_n C 1 rfl rfl dX3_weigh_162 ?_
      refine go_get (v := .ref (G.2.2.1 48)) C (shX3 G) (ltX3 hN) lkX3_11 rfl dX3_weigh_163 ?_
      refine go_iload_n C 0 rfl rfl dX3_weigh_166 ?_
      refine go_iald C (saX3_stack G) (laX3_stack hN) hw.1 dX3_weigh_167 ?_
      replace hw := hw.2
      refine go_topi (fun v3_2 ev3_2 => ?_)
      replace hw := hw v3_2 ev3_2
      refine go_istore_n (lv2 := [(3, .int v3_2), (2, .int v2_1), (0, .ref (G.2.2.1 47)), (1, .int v1), (4, .int v4), (5, .int v5), (6, .int v6)]) C rfl (by rw [hnl]; decide) rfl dX3_weigh_168 ?_
      refine go_goto C 246 rfl dX3_weigh_169 ?_
      obtain ⟨v5_3, ev5_3⟩ : ∃ z : Int32, z = v5 + 1 := ⟨_, rfl⟩
      replace hw := hw v5_3 ev5_3
      refine go_iinc (v := v5_3) (lv2 := [(5, .int v5_3), (3, .int v3_2), (2, .int v2_1), (0, .ref (G.2.2.1 47)), (1, .int v1), (4, .int v4), (6, .int v6)]) C 5 rfl (by rw [ev5_3]; rfl) (by rw [hnl]; decide) rfl dX3_weigh_246 ?_
      refine go_goto C 10 rfl dX3_weigh_249 ?_
      refine go_sub [3, 4, 2, 1, 5, 0] rfl ?_
      exact hK10 _ _ _ _ _ _ hw
set_option maxRecDepth 20000 in
set_option maxHeartbeats 4000000 in
theorem gbX3_weigh_10 {X : XT} {G : GT} {l : Launch} {d : Nat}  {post : St → Prop} (C : Cx X G cX3_weigh RX3) (hr : Rt X G none (fun v τ => v = none ∧ post τ)) (hR : Rm X l d) (hnl : X.2.2.2.2.2.2.2.2.2.2.1 = 7)  (hd : 4 ≤ d) (hN : 75 ≤ G.2.2.2.2.2)   
    : ∀ (n : Nat) (v1 : Int32) (v2 : Int32) (v3 : Int32) (v4 : Int32) (v5 : Int32) (σ : St), wbX3_weigh_10   post n v1 v2 v3 v4 v5 σ → Go X G 10 [(0, .ref (G.2.2.1 47)), (1, .int v1), (2, .int v2), (3, .int v3), (4, .int v4), (5, .int v5)] [] σ := by
  intro n
  induction n with
  | zero => intro v1 v2 v3 v4 v5 σ hw; exact hw.elim
  | succ n ih =>
    intro v1 v2 v3 v4 v5 σ hw
    have hw : ∃ k_1, gR σ 47 5 = some (30 + 2 * k_1) ∧ k_1 < 6 ∧ (
    (((gI σ (30 + 2 * k_1) 1) ≤ v5 →
      vp_in v1 16 ∧ (
      ∀ σ_2 : St, σ_2 = sI σ 49 v1.toNatClampNeg v3 →
      ((¬ v4 = 0 →
        vp_in v1 16 ∧ (
        ∀ σ_3 : St, σ_3 = sI σ_2 50 v1.toNatClampNeg (vp_nar .boolean 0) →
        post σ_3)) ∧
      (v4 = 0 →
        wpX3_fits v1 σ_2 (fun r_4 σ_5 =>
        ((r_4 = 0 →
          vp_in v1 16 ∧ (
          ∀ σ_6 : St, σ_6 = sI σ_5 50 v1.toNatClampNeg (vp_nar .boolean 0) →
          post σ_6)) ∧
        (¬ r_4 = 0 →
          vp_in v1 16 ∧ (
          ∀ σ_7 : St, σ_7 = sI σ_5 50 v1.toNatClampNeg (vp_nar .boolean 1) →
          post σ_7)))))))) ∧
    (¬ (gI σ (30 + 2 * k_1) 1) ≤ v5 →
      ∃ k_8, gR σ 47 5 = some (30 + 2 * k_8) ∧ k_8 < 6 ∧ (
      vp_in v5 300 ∧ (
      ∀ v6_9 : Int32, v6_9 = (gI σ (30 + 2 * k_8 + 1) v5.toNatClampNeg) →
      ((100 ≤ v6_9 →
        wbX3_weigh_48 (wbX3_weigh_10 post n) post v1 v2 v3 v4 v5 v6_9 σ) ∧
      (¬ 100 ≤ v6_9 →
        ((14 ≤ v6_9 →
          ((v2 < 1 →
            wbX3_weigh_147 (wbX3_weigh_10 post n) post v1 v2 v3 v4 v5 v6_9 σ) ∧
          (¬ v2 < 1 →
            ((v6_9 = 40 →
              wbX3_weigh_107 (wbX3_weigh_10 post n) post v1 v2 v3 v4 v5 v6_9 σ) ∧
            (¬ v6_9 = 40 →
              ((¬ v6_9 = 19 →
                wbX3_weigh_147 (wbX3_weigh_10 post n) post v1 v2 v3 v4 v5 v6_9 σ) ∧
              (v6_9 = 19 →
                wbX3_weigh_107 (wbX3_weigh_10 post n) post v1 v2 v3 v4 v5 v6_9 σ))))))) ∧
        (¬ 14 ≤ v6_9 →
          wbX3_weigh_48 (wbX3_weigh_10 post n) post v1 v2 v3 v4 v5 v6_9 σ))))))))) := hw
    refine go_iload C 5 rfl dX3_weigh_10 ?_
    refine go_aload_n C 0 rfl rfl dX3_weigh_12 ?_
    obtain ⟨k_1, gk_1, hk_1, hw⟩ := hw
    refine go_get (v := .ref (G.2.2.1 (30 + 2 * k_1))) C (shX3 G) (ltX3 hN) lkX3_38 (by show some (va_rf ((gR σ 47 5).map G.2.2.1)) = _; rw [gk_1]; rfl) dX3_weigh_13 ?_
    refine go_get (v := .int (gI σ (30 + 2 * k_1) 1)) C (shX9 G hk_1) (ltX9 hN hk_1) lkX3_80 rfl dX3_weigh_16 ?_
    refine go_icmp_ge C 252 rfl dX3_weigh_19 (fun hc => ?_) (fun hc => ?_)
    · replace hw := hw.1 hc
      refine go_aload_n C 0 rfl rfl dX3_weigh_252 ?_
      refine go_get (v := .ref (G.2.2.1 49)) C (shX3 G) (ltX3 hN) lkX3_15 rfl dX3_weigh_253 ?_
      refine go_iload_n C 1 rfl rfl dX3_weigh_256 ?_
      refine go_iload_n C 3 rfl rfl dX3_weigh_257 ?_
      refine go_iast C (saX3_worths G) (laX3_worths hN) hw.1 dX3_weigh_258 (go_nm fun σ_2 eσ_2 => ?_)
      replace hw := hw.2 σ_2 eσ_2
      refine go_aload_n C 0 rfl rfl dX3_weigh_259 ?_
      refine go_get (v := .ref (G.2.2.1 50)) C (shX3 G) (ltX3 hN) lkX3_18 rfl dX3_weigh_260 ?_
      refine go_iload_n C 1 rfl rfl dX3_weigh_263 ?_
      refine go_iload C 4 rfl dX3_weigh_264 ?_
      refine go_if_ne C 281 rfl dX3_weigh_266 (fun hc => ?_) (fun hc => ?_)
      · replace hw := hw.1 hc
        refine go_iconst (v := 0) C rfl dX3_weigh_281 ?_
        refine go_zast C (saX3_mays G) (laX3_mays hN) hw.1 dX3_weigh_282 (go_nm fun σ_3 eσ_3 => ?_)
        replace hw := hw.2 σ_3 eσ_3
        exact go_vret C hr ⟨rfl, hw⟩ dX3_weigh_283
      · replace hw := hw.2 hc
        refine go_aload_n C 0 rfl rfl dX3_weigh_269 ?_
        refine go_iload_n C 1 rfl rfl dX3_weigh_270 ?_
        refine go_callV (as := [.int v1]) C hR (shX3 G) (ltX3 hN) cwX3_96 (Nat.le_trans (by decide) hd) (by decide) rfl rfl (Nat.le_of_ble_eq_true rfl) dX3_weigh_271 (spX3_fits (Nat.le_refl _) hN hw) (fun v_ τ_ hw => ?_)
        obtain ⟨r_4, rfl, hw⟩ := hw
        obtain ⟨σ_5, rfl⟩ : ∃ z, z = τ_ := ⟨_, rfl⟩
        refine go_if_eq C 281 rfl dX3_weigh_274 (fun hc => ?_) (fun hc => ?_)
        · replace hw := hw.1 hc
          refine go_iconst (v := 0) C rfl dX3_weigh_281 ?_
          refine go_zast C (saX3_mays G) (laX3_mays hN) hw.1 dX3_weigh_282 (go_nm fun σ_6 eσ_6 => ?_)
          replace hw := hw.2 σ_6 eσ_6
          exact go_vret C hr ⟨rfl, hw⟩ dX3_weigh_283
        · replace hw := hw.2 hc
          refine go_iconst (v := 1) C rfl dX3_weigh_277 ?_
          refine go_goto C 282 rfl dX3_weigh_278 ?_
          refine go_zast C (saX3_mays G) (laX3_mays hN) hw.1 dX3_weigh_282 (go_nm fun σ_7 eσ_7 => ?_)
          replace hw := hw.2 σ_7 eσ_7
          exact go_vret C hr ⟨rfl, hw⟩ dX3_weigh_283
    · replace hw := hw.2 hc
      refine go_aload_n C 0 rfl rfl dX3_weigh_22 ?_
      obtain ⟨k_8, gk_8, hk_8, hw⟩ := hw
      refine go_get (v := .ref (G.2.2.1 (30 + 2 * k_8))) C (shX3 G) (ltX3 hN) lkX3_38 (by show some (va_rf ((gR σ 47 5).map G.2.2.1)) = _; rw [gk_8]; rfl) dX3_weigh_23 ?_
      refine go_get (v := .ref (G.2.2.1 (30 + 2 * k_8 + 1))) C (shX9 G hk_8) (ltX9 hN hk_8) lkX3_85 rfl dX3_weigh_26 ?_
      refine go_iload C 5 rfl dX3_weigh_29 ?_
      refine go_iald C (saX9_code G hk_8) (laX9_code hN hk_8) hw.1 dX3_weigh_31 ?_
      replace hw := hw.2
      refine go_topi (fun v6_9 ev6_9 => ?_)
      replace hw := hw v6_9 ev6_9
      refine go_istore (lv2 := [(6, .int v6_9), (0, .ref (G.2.2.1 47)), (1, .int v1), (2, .int v2), (3, .int v3), (4, .int v4), (5, .int v5)]) C (by rw [hnl]; decide) rfl dX3_weigh_32 ?_
      refine go_iload C 0 rfl dX3_weigh_34 ?_
      refine go_bipush (v := 100) C rfl dX3_weigh_36 ?_
      refine go_icmp_ge C 48 rfl dX3_weigh_38 (fun hc => ?_) (fun hc => ?_)
      · replace hw := hw.1 hc
        refine go_sub [1, 2, 3, 4, 5, 6, 0] rfl ?_
        exact (gbX3_weigh_48 C hr hR hnl hd hN ih) _ _ _ _ _ _ _ hw
      · replace hw := hw.2 hc
        refine go_iload C 0 rfl dX3_weigh_41 ?_
        refine go_bipush (v := 14) C rfl dX3_weigh_43 ?_
        refine go_icmp_ge C 88 rfl dX3_weigh_45 (fun hc => ?_) (fun hc => ?_)
        · replace hw := hw.1 hc
          refine go_iload_n C 3 rfl rfl dX3_weigh_88 ?_
          refine go_iconst (v := 1) C rfl dX3_weigh_89 ?_
          refine go_icmp_lt C 147 rfl dX3_weigh_90 (fun hc => ?_) (fun hc => ?_)
          · replace hw := hw.1 hc
            refine go_sub [1, 2, 3, 4, 5, 6, 0] rfl ?_
            exact (gbX3_weigh_147 C hr hR hnl hd hN ih) _ _ _ _ _ _ _ hw
          · replace hw := hw.2 hc
            refine go_iload C 0 rfl dX3_weigh_93 ?_
            refine go_bipush (v := 40) C rfl dX3_weigh_95 ?_
            refine go_icmp_eq C 107 rfl dX3_weigh_97 (fun hc => ?_) (fun hc => ?_)
            · replace hw := hw.1 hc
              refine go_sub [1, 2, 3, 4, 5, 6, 0] rfl ?_
              exact (gbX3_weigh_107 C hr hR hnl hd hN ih) _ _ _ _ _ _ _ hw
            · replace hw := hw.2 hc
              refine go_iload C 0 rfl dX3_weigh_100 ?_
              refine go_bipush (v := 19) C rfl dX3_weigh_102 ?_
              refine go_icmp_ne C 147 rfl dX3_weigh_104 (fun hc => ?_) (fun hc => ?_)
              · replace hw := hw.1 hc
                refine go_sub [1, 2, 3, 4, 5, 6, 0] rfl ?_
                exact (gbX3_weigh_147 C hr hR hnl hd hN ih) _ _ _ _ _ _ _ hw
              · replace hw := hw.2 hc
                refine go_sub [1, 2, 3, 4, 5, 6, 0] rfl ?_
                exact (gbX3_weigh_107 C hr hR hnl hd hN ih) _ _ _ _ _ _ _ hw
        · replace hw := hw.2 hc
          refine go_sub [1, 2, 3, 4, 5, 6, 0] rfl ?_
          exact (gbX3_weigh_48 C hr hR hnl hd hN ih) _ _ _ _ _ _ _ hw
set_option maxRecDepth 20000 in
set_option maxHeartbeats 4000000 in
theorem spX3_weigh {l : Launch} {G : GT} {d : Nat}  (hd : 4 ≤ d)  (hN : 75 ≤ G.2.2.2.2.2)  {a1 : Int32} {σ : St} {post : St → Prop} (hw : wpX3_weigh  a1 σ post) : Sp l G d yX3_weigh cX3_weigh 7 none [.ref (G.2.2.1 47), .int a1] σ (fun v τ => v = none ∧ post τ) := by
  refine Sp.of (by decide) (Nat.le_of_ble_eq_true rfl) fun X C hr hR hnl => ?_
  show Go X G 0 [(0, .ref (G.2.2.1 47)), (1, .int a1)] [] σ
  have hw : ∃ m_10, wbX3_weigh_10 post m_10 a1 0 0 0 0 σ := hw
  refine go_iconst (v := 0) C rfl dX3_weigh_0 ?_
  refine go_istore_n (lv2 := [(2, .int 0), (0, .ref (G.2.2.1 47)), (1, .int a1)]) C rfl (by rw [hnl]; decide) rfl dX3_weigh_1 ?_
  refine go_iconst (v := 0) C rfl dX3_weigh_2 ?_
  refine go_istore_n (lv2 := [(3, .int 0), (2, .int 0), (0, .ref (G.2.2.1 47)), (1, .int a1)]) C rfl (by rw [hnl]; decide) rfl dX3_weigh_3 ?_
  refine go_iconst (v := 0) C rfl dX3_weigh_4 ?_
  refine go_istore (lv2 := [(4, .int 0), (3, .int 0), (2, .int 0), (0, .ref (G.2.2.1 47)), (1, .int a1)]) C (by rw [hnl]; decide) rfl dX3_weigh_5 ?_
  refine go_iconst (v := 0) C rfl dX3_weigh_7 ?_
  refine go_istore (lv2 := [(5, .int 0), (4, .int 0), (3, .int 0), (2, .int 0), (0, .ref (G.2.2.1 47)), (1, .int a1)]) C (by rw [hnl]; decide) rfl dX3_weigh_8 ?_
  refine go_sub [4, 5, 3, 2, 1, 0] rfl ?_
  obtain ⟨n_0, hw⟩ := hw
  exact (gbX3_weigh_10 C hr hR hnl hd hN) n_0 _ _ _ _ _ _ hw
-- CradleNames$Course.fill(I)I
set_option maxRecDepth 20000 in
set_option maxHeartbeats 4000000 in
theorem gbX1_fill_50 {X : XT} {G : GT} {l : Launch} {d : Nat}  {post : Int32 → St → Prop} (C : Cx X G cX1_fill RX1) (hr : Rt X G (some .int) (fun v τ => ∃ r : Int32, v = some (.int r) ∧ post r τ)) (hR : Rm X l d) (hnl : X.2.2.2.2.2.2.2.2.2.2.1 = 4)  (hd : 5 ≤ d) (hN : 75 ≤ G.2.2.2.2.2)   
    : ∀ (n : Nat) (v1 : Int32) (v2 : Int32) (σ : St), wbX1_fill_50   post n v1 v2 σ → Go X G 50 [(0, .ref (G.2.2.1 51)), (1, .int v1), (2, .int v2)] [] σ := by
  intro n
  induction n with
  | zero => intro v1 v2 σ hw; exact hw.elim
  | succ n ih =>
    intro v1 v2 σ hw
    have hw : ((v1 ≤ v2 →
      post v1 σ) ∧
    (¬ v1 ≤ v2 →
      wpX3_pick  σ (fun r_1 σ_2 =>
      ((¬ r_1 = (-1) →
        wpX3_give r_1 σ_2 (fun σ_4 =>
        wpX3_weigh r_1 σ_4 (fun σ_6 =>
        ∀ v2_7 : Int32, v2_7 = v2 + 1 →
        wbX1_fill_50 post n v1 v2_7 σ_6))) ∧
      (r_1 = (-1) →
        post v2 σ_2))))) := hw
    refine go_iload_n C 2 rfl rfl dX1_fill_50 ?_
    refine go_iload_n C 1 rfl rfl dX1_fill_51 ?_
    refine go_icmp_ge C 92 rfl dX1_fill_52 (fun hc => ?_) (fun hc => ?_)
    · replace hw := hw.1 hc
      refine go_iload_n C 1 rfl rfl dX1_fill_92 ?_
      exact go_iret C hr ⟨_, rfl, hw⟩ dX1_fill_93
    · replace hw := hw.2 hc
      refine go_aload_n C 0 rfl rfl dX1_fill_55 ?_
      refine go_get (v := .ref (G.2.2.1 47)) C (shX1 G) (ltX1 hN) lkX1_23 rfl dX1_fill_56 ?_
      refine go_callV (as := []) C hR (shX3 G) (ltX3 hN) cwX1_82 (Nat.le_trans (by decide) hd) (by decide) rfl rfl (Nat.le_of_ble_eq_true rfl) dX1_fill_59 (spX3_pick (Nat.le_refl _) hN hw) (fun v_ τ_ hw => ?_)
      obtain ⟨r_1, rfl, hw⟩ := hw
      obtain ⟨σ_2, rfl⟩ : ∃ z, z = τ_ := ⟨_, rfl⟩
      refine go_istore_n (lv2 := [(3, .int r_1), (0, .ref (G.2.2.1 51)), (1, .int v1), (2, .int v2)]) C rfl (by rw [hnl]; decide) rfl dX1_fill_62 ?_
      refine go_iload_n C 0 rfl rfl dX1_fill_63 ?_
      refine go_iconst (v := (-1)) C rfl dX1_fill_64 ?_
      refine go_icmp_ne C 70 rfl dX1_fill_65 (fun hc => ?_) (fun hc => ?_)
      · replace hw := hw.1 hc
        refine go_aload_n C 1 rfl rfl dX1_fill_70 ?_
        refine go_get (v := .ref (G.2.2.1 47)) C (shX1 G) (ltX1 hN) lkX1_23 rfl dX1_fill_71 ?_
        refine go_iload_n C 0 rfl rfl dX1_fill_74 ?_
        refine go_callV (as := [.int r_1]) C hR (shX3 G) (ltX3 hN) cwX1_86 (Nat.le_trans (by decide) hd) (by decide) rfl rfl (Nat.le_of_ble_eq_true rfl) dX1_fill_75 (spX3_give (Nat.le_refl _) hN hw) (fun v_ τ_ hw => ?_)
        obtain ⟨rfl, hw⟩ := hw
        obtain ⟨σ_4, rfl⟩ : ∃ z, z = τ_ := ⟨_, rfl⟩
        refine go_aload_n C 1 rfl rfl dX1_fill_78 ?_
        refine go_get (v := .ref (G.2.2.1 47)) C (shX1 G) (ltX1 hN) lkX1_23 rfl dX1_fill_79 ?_
        refine go_iload_n C 0 rfl rfl dX1_fill_82 ?_
        refine go_callV (as := [.int r_1]) C hR (shX3 G) (ltX3 hN) cwX1_79 (Nat.le_trans (by decide) hd) (by decide) rfl rfl (Nat.le_of_ble_eq_true rfl) dX1_fill_83 (spX3_weigh (Nat.le_refl _) hN hw) (fun v_ τ_ hw => ?_)
        obtain ⟨rfl, hw⟩ := hw
        obtain ⟨σ_6, rfl⟩ : ∃ z, z = τ_ := ⟨_, rfl⟩
        obtain ⟨v2_7, ev2_7⟩ : ∃ z : Int32, z = v2 + 1 := ⟨_, rfl⟩
        replace hw := hw v2_7 ev2_7
        refine go_iinc (v := v2_7) (lv2 := [(2, .int v2_7), (3, .int r_1), (0, .ref (G.2.2.1 51)), (1, .int v1)]) C 3 rfl (by rw [ev2_7]; rfl) (by rw [hnl]; decide) rfl dX1_fill_86 ?_
        refine go_goto C 50 rfl dX1_fill_89 ?_
        refine go_sub [2, 3, 0] rfl ?_
        exact ih _ _ _ hw
      · replace hw := hw.2 hc
        refine go_iload_n C 3 rfl rfl dX1_fill_68 ?_
        exact go_iret C hr ⟨_, rfl, hw⟩ dX1_fill_69
set_option maxRecDepth 20000 in
set_option maxHeartbeats 4000000 in
theorem gbX1_fill_2 {X : XT} {G : GT} {l : Launch} {d : Nat}  {post : Int32 → St → Prop} (C : Cx X G cX1_fill RX1) (hr : Rt X G (some .int) (fun v τ => ∃ r : Int32, v = some (.int r) ∧ post r τ)) (hR : Rm X l d) (hnl : X.2.2.2.2.2.2.2.2.2.2.1 = 4)  (hd : 5 ≤ d) (hN : 75 ≤ G.2.2.2.2.2)   
    : ∀ (n : Nat) (v1 : Int32) (v2 : Int32) (σ : St), wbX1_fill_2   post n v1 v2 σ → Go X G 2 [(0, .ref (G.2.2.1 51)), (1, .int v1), (2, .int v2)] [] σ := by
  intro n
  induction n with
  | zero => intro v1 v2 σ hw; exact hw.elim
  | succ n ih =>
    intro v1 v2 σ hw
    have hw : (((gI σ 1 0) ≤ v2 →
      ∃ m_50, wbX1_fill_50 post m_50 v1 0 σ) ∧
    (¬ (gI σ 1 0) ≤ v2 →
      vp_in v2 16 ∧ (
      ∀ σ_1 : St, σ_1 = sI σ 50 v2.toNatClampNeg (vp_nar .boolean 0) →
      wpX3_fits v2 σ_1 (fun r_2 σ_3 =>
      ((r_2 = 0 →
        ∀ v2_4 : Int32, v2_4 = v2 + 1 →
        wbX1_fill_2 post n v1 v2_4 σ_3) ∧
      (¬ r_2 = 0 →
        wpX3_weigh v2 σ_3 (fun σ_6 =>
        ∀ v2_7 : Int32, v2_7 = v2 + 1 →
        wbX1_fill_2 post n v1 v2_7 σ_6))))))) := hw
    refine go_iload_n C 2 rfl rfl dX1_fill_2 ?_
    refine go_aload_n C 0 rfl rfl dX1_fill_3 ?_
    refine go_get (v := .ref (G.2.2.1 1)) C (shX1 G) (ltX1 hN) lkX1_9 rfl dX1_fill_4 ?_
    refine go_get (v := .int (gI σ 1 0)) C (shX5 G) (ltX5 hN) lkX1_65 rfl dX1_fill_7 ?_
    refine go_icmp_ge C 48 rfl dX1_fill_10 (fun hc => ?_) (fun hc => ?_)
    · replace hw := hw.1 hc
      refine go_iconst (v := 0) C rfl dX1_fill_48 ?_
      refine go_istore_n (lv2 := [(2, .int 0), (0, .ref (G.2.2.1 51)), (1, .int v1)]) C rfl (by rw [hnl]; decide) rfl dX1_fill_49 ?_
      refine go_sub [1, 2, 0] rfl ?_
      obtain ⟨n_0, hw⟩ := hw
      exact (gbX1_fill_50 C hr hR hnl hd hN) n_0 _ _ _ hw
    · replace hw := hw.2 hc
      refine go_aload_n C 0 rfl rfl dX1_fill_13 ?_
      refine go_get (v := .ref (G.2.2.1 47)) C (shX1 G) (ltX1 hN) lkX1_23 rfl dX1_fill_14 ?_
      refine go_get (v := .ref (G.2.2.1 50)) C (shX3 G) (ltX3 hN) lkX1_71 rfl dX1_fill_17 ?_
      refine go_iload_n C 2 rfl rfl dX1_fill_20 ?_
      refine go_iconst (v := 0) C rfl dX1_fill_21 ?_
      refine go_zast C (saX3_mays G) (laX3_mays hN) hw.1 dX1_fill_22 (go_nm fun σ_1 eσ_1 => ?_)
      replace hw := hw.2 σ_1 eσ_1
      refine go_aload_n C 0 rfl rfl dX1_fill_23 ?_
      refine go_get (v := .ref (G.2.2.1 47)) C (shX1 G) (ltX1 hN) lkX1_23 rfl dX1_fill_24 ?_
      refine go_iload_n C 2 rfl rfl dX1_fill_27 ?_
      refine go_callV (as := [.int v2]) C hR (shX3 G) (ltX3 hN) cwX1_75 (Nat.le_trans (by decide) hd) (by decide) rfl rfl (Nat.le_of_ble_eq_true rfl) dX1_fill_28 (spX3_fits (Nat.le_refl _) hN hw) (fun v_ τ_ hw => ?_)
      obtain ⟨r_2, rfl, hw⟩ := hw
      obtain ⟨σ_3, rfl⟩ : ∃ z, z = τ_ := ⟨_, rfl⟩
      refine go_if_eq C 42 rfl dX1_fill_31 (fun hc => ?_) (fun hc => ?_)
      · replace hw := hw.1 hc
        obtain ⟨v2_4, ev2_4⟩ : ∃ z : Int32, z = v2 + 1 := ⟨_, rfl⟩
        replace hw := hw v2_4 ev2_4
        refine go_iinc (v := v2_4) (lv2 := [(2, .int v2_4), (0, .ref (G.2.2.1 51)), (1, .int v1)]) C 2 rfl (by rw [ev2_4]; rfl) (by rw [hnl]; decide) rfl dX1_fill_42 ?_
        refine go_goto C 2 rfl dX1_fill_45 ?_
        refine go_sub [1, 2, 0] rfl ?_
        exact ih _ _ _ hw
      · replace hw := hw.2 hc
        refine go_aload_n C 0 rfl rfl dX1_fill_34 ?_
        refine go_get (v := .ref (G.2.2.1 47)) C (shX1 G) (ltX1 hN) lkX1_23 rfl dX1_fill_35 ?_
        refine go_iload_n C 2 rfl rfl dX1_fill_38 ?_
        refine go_callV (as := [.int v2]) C hR (shX3 G) (ltX3 hN) cwX1_79 (Nat.le_trans (by decide) hd) (by decide) rfl rfl (Nat.le_of_ble_eq_true rfl) dX1_fill_39 (spX3_weigh (Nat.le_refl _) hN hw) (fun v_ τ_ hw => ?_)
        obtain ⟨rfl, hw⟩ := hw
        obtain ⟨σ_6, rfl⟩ : ∃ z, z = τ_ := ⟨_, rfl⟩
        obtain ⟨v2_7, ev2_7⟩ : ∃ z : Int32, z = v2 + 1 := ⟨_, rfl⟩
        replace hw := hw v2_7 ev2_7
        refine go_iinc (v := v2_7) (lv2 := [(2, .int v2_7), (0, .ref (G.2.2.1 51)), (1, .int v1)]) C 2 rfl (by rw [ev2_7]; rfl) (by rw [hnl]; decide) rfl dX1_fill_42 ?_
        refine go_goto C 2 rfl dX1_fill_45 ?_
        refine go_sub [1, 2, 0] rfl ?_
        exact ih _ _ _ hw
set_option maxRecDepth 20000 in
set_option maxHeartbeats 4000000 in
theorem spX1_fill {l : Launch} {G : GT} {d : Nat}  (hd : 5 ≤ d)  (hN : 75 ≤ G.2.2.2.2.2)  {a1 : Int32} {σ : St} {post : Int32 → St → Prop} (hw : wpX1_fill  a1 σ post) : Sp l G d yX1_fill cX1_fill 4 (some .int) [.ref (G.2.2.1 51), .int a1] σ (fun v τ => ∃ r : Int32, v = some (.int r) ∧ post r τ) := by
  refine Sp.of (by decide) (Nat.le_of_ble_eq_true rfl) fun X C hr hR hnl => ?_
  show Go X G 0 [(0, .ref (G.2.2.1 51)), (1, .int a1)] [] σ
  have hw : ∃ m_2, wbX1_fill_2 post m_2 a1 0 σ := hw
  refine go_iconst (v := 0) C rfl dX1_fill_0 ?_
  refine go_istore_n (lv2 := [(2, .int 0), (0, .ref (G.2.2.1 51)), (1, .int a1)]) C rfl (by rw [hnl]; decide) rfl dX1_fill_1 ?_
  refine go_sub [1, 2, 0] rfl ?_
  obtain ⟨n_0, hw⟩ := hw
  exact (gbX1_fill_2 C hr hR hnl hd hN) n_0 _ _ _ hw
-- CradleNames$Land.wentBy(I)Z
set_option maxRecDepth 20000 in
set_option maxHeartbeats 4000000 in
theorem spX4_wentBy {l : Launch} {G : GT} {d : Nat}  (hd : 1 ≤ d)  (hN : 75 ≤ G.2.2.2.2.2)  {a1 : Int32} {σ : St} {post : Int32 → St → Prop} (hw : wpX4_wentBy  a1 σ post) : Sp l G d yX4_wentBy cX4_wentBy 2 (some .boolean) [.ref (G.2.2.1 9), .int a1] σ (fun v τ => ∃ r : Int32, v = some (.int r) ∧ post r τ) := by
  refine Sp.of (by decide) (Nat.le_of_ble_eq_true rfl) fun X C hr hR hnl => ?_
  show Go X G 0 [(0, .ref (G.2.2.1 9)), (1, .int a1)] [] σ
  have hw : ((a1 < 0 →
    post 0 σ) ∧
  (¬ a1 < 0 →
    (((gI σ 9 0) ≤ a1 →
      post 0 σ) ∧
    (¬ (gI σ 9 0) ≤ a1 →
      post 1 σ)))) := hw
  refine go_iload_n C 1 rfl rfl dX4_wentBy_0 ?_
  refine go_if_lt C 16 rfl dX4_wentBy_1 (fun hc => ?_) (fun hc => ?_)
  · replace hw := hw.1 hc
    refine go_iconst (v := 0) C rfl dX4_wentBy_16 ?_
    exact go_zret C hr rfl ⟨_, rfl, hw⟩ dX4_wentBy_17
  · replace hw := hw.2 hc
    refine go_iload_n C 1 rfl rfl dX4_wentBy_4 ?_
    refine go_aload_n C 0 rfl rfl dX4_wentBy_5 ?_
    refine go_get (v := .int (gI σ 9 0)) C (shX4 G) (ltX4 hN) lkX4_49 rfl dX4_wentBy_6 ?_
    refine go_icmp_ge C 16 rfl dX4_wentBy_9 (fun hc => ?_) (fun hc => ?_)
    · replace hw := hw.1 hc
      refine go_iconst (v := 0) C rfl dX4_wentBy_16 ?_
      exact go_zret C hr rfl ⟨_, rfl, hw⟩ dX4_wentBy_17
    · replace hw := hw.2 hc
      refine go_iconst (v := 1) C rfl dX4_wentBy_12 ?_
      refine go_goto C 17 rfl dX4_wentBy_13 ?_
      exact go_zret C hr rfl ⟨_, rfl, hw⟩ dX4_wentBy_17
-- CradleNames$Land.cradlesIn(II)I
set_option maxRecDepth 20000 in
set_option maxHeartbeats 4000000 in
theorem spX4_cradlesIn {l : Launch} {G : GT} {d : Nat}  (hd : 2 ≤ d)  (hN : 75 ≤ G.2.2.2.2.2)  {a1 : Int32} {a2 : Int32} {σ : St} {post : Int32 → St → Prop} (hw : wpX4_cradlesIn  a1 a2 σ post) : Sp l G d yX4_cradlesIn cX4_cradlesIn 3 (some .int) [.ref (G.2.2.1 9), .int a1, .int a2] σ (fun v τ => ∃ r : Int32, v = some (.int r) ∧ post r τ) := by
  refine Sp.of (by decide) (Nat.le_of_ble_eq_true rfl) fun X C hr hR hnl => ?_
  show Go X G 0 [(0, .ref (G.2.2.1 9)), (1, .int a1), (2, .int a2)] [] σ
  have hw : wpX4_wentBy a1 σ (fun r_1 σ_2 =>
  ((r_1 = 0 →
    vp_in a2 12 ∧ (
    post (gI σ_2 11 a2.toNatClampNeg) σ_2)) ∧
  (¬ r_1 = 0 →
    vp_in ((a1 * 12) + a2) 732 ∧ (
    post (gI σ_2 12 ((a1 * 12) + a2).toNatClampNeg) σ_2)))) := hw
  refine go_aload_n C 0 rfl rfl dX4_cradlesIn_0 ?_
  refine go_iload_n C 1 rfl rfl dX4_cradlesIn_1 ?_
  refine go_callV (as := [.int a1]) C hR (shX4 G) (ltX4 hN) cwX4_59 (Nat.le_trans (by decide) hd) (by decide) rfl rfl (Nat.le_of_ble_eq_true rfl) dX4_cradlesIn_2 (spX4_wentBy (Nat.le_refl _) hN hw) (fun v_ τ_ hw => ?_)
  obtain ⟨r_1, rfl, hw⟩ := hw
  obtain ⟨σ_2, rfl⟩ : ∃ z, z = τ_ := ⟨_, rfl⟩
  refine go_if_eq C 22 rfl dX4_cradlesIn_5 (fun hc => ?_) (fun hc => ?_)
  · replace hw := hw.1 hc
    refine go_aload_n C 0 rfl rfl dX4_cradlesIn_22 ?_
    refine go_get (v := .ref (G.2.2.1 11)) C (shX4 G) (ltX4 hN) lkX4_19 rfl dX4_cradlesIn_23 ?_
    refine go_iload_n C 2 rfl rfl dX4_cradlesIn_26 ?_
    refine go_iald C (saX4_cradlesNow G) (laX4_cradlesNow hN) hw.1 dX4_cradlesIn_27 ?_
    replace hw := hw.2
    exact go_iret C hr ⟨_, rfl, hw⟩ dX4_cradlesIn_28
  · replace hw := hw.2 hc
    refine go_aload_n C 0 rfl rfl dX4_cradlesIn_8 ?_
    refine go_get (v := .ref (G.2.2.1 12)) C (shX4 G) (ltX4 hN) lkX4_22 rfl dX4_cradlesIn_9 ?_
    refine go_iload_n C 1 rfl rfl dX4_cradlesIn_12 ?_
    refine go_bipush (v := 12) C rfl dX4_cradlesIn_13 ?_
    refine go_imul C dX4_cradlesIn_15 ?_
    refine go_iload_n C 2 rfl rfl dX4_cradlesIn_16 ?_
    refine go_iadd C dX4_cradlesIn_17 ?_
    refine go_iald C (saX4_cradlesThen G) (laX4_cradlesThen hN) hw.1 dX4_cradlesIn_18 ?_
    replace hw := hw.2
    refine go_goto C 28 rfl dX4_cradlesIn_19 ?_
    exact go_iret C hr ⟨_, rfl, hw⟩ dX4_cradlesIn_28
-- CradleNames$Land.standingOf(I)I
set_option maxRecDepth 20000 in
set_option maxHeartbeats 4000000 in
theorem spX4_standingOf {l : Launch} {G : GT} {d : Nat}  (hd : 1 ≤ d)  (hN : 75 ≤ G.2.2.2.2.2)  {a1 : Int32} {σ : St} {post : Int32 → St → Prop} (hw : wpX4_standingOf  a1 σ post) : Sp l G d yX4_standingOf cX4_standingOf 1 (some .int) [.int a1] σ (fun v τ => ∃ r : Int32, v = some (.int r) ∧ post r τ) := by
  refine Sp.of (by decide) (Nat.le_of_ble_eq_true rfl) fun X C hr hR hnl => ?_
  show Go X G 0 [(0, .int a1)] [] σ
  have hw : post ((a1 / 2) - (a1 / 2) / 2 * 2) σ := hw
  refine go_iload_n C 0 rfl rfl dX4_standingOf_0 ?_
  refine go_iconst (v := 2) C rfl dX4_standingOf_1 ?_
  refine go_idiv C (by decide) dX4_standingOf_2 ?_
  refine go_iconst (v := 2) C rfl dX4_standingOf_3 ?_
  refine go_irem C (by decide) dX4_standingOf_4 ?_
  exact go_iret C hr ⟨_, rfl, hw⟩ dX4_standingOf_5
-- CradleNames$Land.heldIn(II)I
set_option maxRecDepth 20000 in
set_option maxHeartbeats 4000000 in
theorem spX4_heldIn {l : Launch} {G : GT} {d : Nat}  (hd : 2 ≤ d)  (hN : 75 ≤ G.2.2.2.2.2)  {a1 : Int32} {a2 : Int32} {σ : St} {post : Int32 → St → Prop} (hw : wpX4_heldIn  a1 a2 σ post) : Sp l G d yX4_heldIn cX4_heldIn 3 (some .int) [.ref (G.2.2.1 9), .int a1, .int a2] σ (fun v τ => ∃ r : Int32, v = some (.int r) ∧ post r τ) := by
  refine Sp.of (by decide) (Nat.le_of_ble_eq_true rfl) fun X C hr hR hnl => ?_
  show Go X G 0 [(0, .ref (G.2.2.1 9)), (1, .int a1), (2, .int a2)] [] σ
  have hw : wpX4_wentBy a1 σ (fun r_1 σ_2 =>
  ((r_1 = 0 →
    vp_in a2 2 ∧ (
    post (gI σ_2 13 a2.toNatClampNeg) σ_2)) ∧
  (¬ r_1 = 0 →
    vp_in ((a1 * 2) + a2) 122 ∧ (
    post (gI σ_2 14 ((a1 * 2) + a2).toNatClampNeg) σ_2)))) := hw
  refine go_aload_n C 0 rfl rfl dX4_heldIn_0 ?_
  refine go_iload_n C 1 rfl rfl dX4_heldIn_1 ?_
  refine go_callV (as := [.int a1]) C hR (shX4 G) (ltX4 hN) cwX4_59 (Nat.le_trans (by decide) hd) (by decide) rfl rfl (Nat.le_of_ble_eq_true rfl) dX4_heldIn_2 (spX4_wentBy (Nat.le_refl _) hN hw) (fun v_ τ_ hw => ?_)
  obtain ⟨r_1, rfl, hw⟩ := hw
  obtain ⟨σ_2, rfl⟩ : ∃ z, z = τ_ := ⟨_, rfl⟩
  refine go_if_eq C 21 rfl dX4_heldIn_5 (fun hc => ?_) (fun hc => ?_)
  · replace hw := hw.1 hc
    refine go_aload_n C 0 rfl rfl dX4_heldIn_21 ?_
    refine go_get (v := .ref (G.2.2.1 13)) C (shX4 G) (ltX4 hN) lkX4_25 rfl dX4_heldIn_22 ?_
    refine go_iload_n C 2 rfl rfl dX4_heldIn_25 ?_
    refine go_iald C (saX4_heldNow G) (laX4_heldNow hN) hw.1 dX4_heldIn_26 ?_
    replace hw := hw.2
    exact go_iret C hr ⟨_, rfl, hw⟩ dX4_heldIn_27
  · replace hw := hw.2 hc
    refine go_aload_n C 0 rfl rfl dX4_heldIn_8 ?_
    refine go_get (v := .ref (G.2.2.1 14)) C (shX4 G) (ltX4 hN) lkX4_28 rfl dX4_heldIn_9 ?_
    refine go_iload_n C 1 rfl rfl dX4_heldIn_12 ?_
    refine go_iconst (v := 2) C rfl dX4_heldIn_13 ?_
    refine go_imul C dX4_heldIn_14 ?_
    refine go_iload_n C 2 rfl rfl dX4_heldIn_15 ?_
    refine go_iadd C dX4_heldIn_16 ?_
    refine go_iald C (saX4_heldThen G) (laX4_heldThen hN) hw.1 dX4_heldIn_17 ?_
    replace hw := hw.2
    refine go_goto C 27 rfl dX4_heldIn_18 ?_
    exact go_iret C hr ⟨_, rfl, hw⟩ dX4_heldIn_27
-- CradleNames$Course.pass(LCradleNames$Book;II)I
set_option maxRecDepth 20000 in
set_option maxHeartbeats 4000000 in
theorem gbX1_pass_56 {X : XT} {G : GT} {l : Launch} {d : Nat} {k1 : Nat} {post : Int32 → St → Prop} (C : Cx X G cX1_pass RX1) (hr : Rt X G (some .int) (fun v τ => ∃ r : Int32, v = some (.int r) ∧ post r τ)) (hR : Rm X l d) (hnl : X.2.2.2.2.2.2.2.2.2.2.1 = 9)  (hd : 6 ≤ d) (hN : 75 ≤ G.2.2.2.2.2) (hk1 : k1 < 2) {K11 : Int32 → Int32 → Int32 → Int32 → St → Prop} (hK11 : ∀ (v2 : Int32) (v3 : Int32) (v4 : Int32) (v5 : Int32) (σ : St), K11 v2 v3 v4 v5 σ → Go X G 11 [(0, .ref (G.2.2.1 51)), (1, .ref (G.2.2.1 (21 + 4 * k1))), (2, .int v2), (3, .int v3), (4, .int v4), (5, .int v5)] [] σ)
    : ∀ (v2 : Int32) (v3 : Int32) (v4 : Int32) (v5 : Int32) (v6 : Int32) (v7 : Int32) (s0 : Int32) (σ : St), wbX1_pass_56 k1 K11 post v2 v3 v4 v5 v6 v7 s0 σ → Go X G 56 [(0, .ref (G.2.2.1 51)), (1, .ref (G.2.2.1 (21 + 4 * k1))), (2, .int v2), (3, .int v3), (4, .int v4), (5, .int v5), (6, .int v6), (7, .int v7)] [.int s0] σ := by
  intro v2 v3 v4 v5 v6 v7 s0 σ hw
  have hw : ((¬ s0 = (-1) →
    ((v6 ≤ 0 →
      ∀ v5_1 : Int32, v5_1 = v5 + 1 →
      K11 v2 v3 v4 v5_1 σ) ∧
    (¬ v6 ≤ 0 →
      wpX4_placeOf v5 σ (fun r_2 σ_3 =>
      wpX4_sexOf v5 σ_3 (fun r_4 σ_5 =>
      wpX3_stand k1 v2 r_2 v7 r_4 σ_5 (fun σ_7 =>
      vp_in s0 6 ∧ (
      ∀ σ_9 : St, σ_9 = sR σ_7 47 5 (some (30 + 2 * s0.toNatClampNeg)) →
      wpX1_fill v6 σ_9 (fun r_10 σ_11 =>
      ∀ v4_12 : Int32, v4_12 = (v4 + (v6 - r_10)) →
      ∀ v5_13 : Int32, v5_13 = v5 + 1 →
      K11 v2 v3 v4_12 v5_13 σ_11)))))))) ∧
  (s0 = (-1) →
    ∀ v4_14 : Int32, v4_14 = (v4 + v6) →
    ∀ v5_15 : Int32, v5_15 = v5 + 1 →
    K11 v2 v3 v4_14 v5_15 σ)) := hw
  refine go_istore (lv2 := [(8, .int s0), (0, .ref (G.2.2.1 51)), (1, .ref (G.2.2.1 (21 + 4 * k1))), (2, .int v2), (3, .int v3), (4, .int v4), (5, .int v5), (6, .int v6), (7, .int v7)]) C (by rw [hnl]; decide) rfl dX1_pass_56 ?_
  refine go_iload C 0 rfl dX1_pass_58 ?_
  refine go_iconst (v := (-1)) C rfl dX1_pass_60 ?_
  refine go_icmp_ne C 74 rfl dX1_pass_61 (fun hc => ?_) (fun hc => ?_)
  · replace hw := hw.1 hc
    refine go_iload C 7 rfl dX1_pass_74 ?_
    refine go_if_le C 128 rfl dX1_pass_76 (fun hc => ?_) (fun hc => ?_)
    · replace hw := hw.1 hc
      obtain ⟨v5_1, ev5_1⟩ : ∃ z : Int32, z = v5 + 1 := ⟨_, rfl⟩
      replace hw := hw v5_1 ev5_1
      refine go_iinc (v := v5_1) (lv2 := [(5, .int v5_1), (8, .int s0), (0, .ref (G.2.2.1 51)), (1, .ref (G.2.2.1 (21 + 4 * k1))), (2, .int v2), (3, .int v3), (4, .int v4), (6, .int v6), (7, .int v7)]) C 6 rfl (by rw [ev5_1]; rfl) (by rw [hnl]; decide) rfl dX1_pass_128 ?_
      refine go_goto C 11 rfl dX1_pass_131 ?_
      refine go_sub [2, 3, 4, 5, 6, 0] rfl ?_
      exact hK11 _ _ _ _ _ hw
    · replace hw := hw.2 hc
      refine go_aload_n C 1 rfl rfl dX1_pass_79 ?_
      refine go_get (v := .ref (G.2.2.1 47)) C (shX1 G) (ltX1 hN) lkX1_23 rfl dX1_pass_80 ?_
      refine go_aload_n C 2 rfl rfl dX1_pass_83 ?_
      refine go_iload_n C 3 rfl rfl dX1_pass_84 ?_
      refine go_iload C 6 rfl dX1_pass_85 ?_
      refine go_callS (as := [.int v5]) C hR cwX1_46 (Nat.le_trans (by decide) hd) (by decide) rfl rfl (Nat.le_of_ble_eq_true rfl) dX1_pass_87 (spX4_placeOf (Nat.le_refl _) hN hw) (fun v_ τ_ hw => ?_)
      obtain ⟨r_2, rfl, hw⟩ := hw
      obtain ⟨σ_3, rfl⟩ : ∃ z, z = τ_ := ⟨_, rfl⟩
      refine go_iload C 8 rfl dX1_pass_90 ?_
      refine go_iload C 6 rfl dX1_pass_92 ?_
      refine go_callS (as := [.int v5]) C hR cwX1_49 (Nat.le_trans (by decide) hd) (by decide) rfl rfl (Nat.le_of_ble_eq_true rfl) dX1_pass_94 (spX4_sexOf (Nat.le_refl _) hN hw) (fun v_ τ_ hw => ?_)
      obtain ⟨r_4, rfl, hw⟩ := hw
      obtain ⟨σ_5, rfl⟩ : ∃ z, z = τ_ := ⟨_, rfl⟩
      refine go_callV (as := [.ref (G.2.2.1 (21 + 4 * k1)), .int v2, .int r_2, .int v7, .int r_4]) C hR (shX3 G) (ltX3 hN) cwX1_52 (Nat.le_trans (by decide) hd) (by decide) rfl rfl (Nat.le_of_ble_eq_true rfl) dX1_pass_97 (spX3_stand (Nat.le_refl _) hN hk1 hw) (fun v_ τ_ hw => ?_)
      obtain ⟨rfl, hw⟩ := hw
      obtain ⟨σ_7, rfl⟩ : ∃ z, z = τ_ := ⟨_, rfl⟩
      refine go_aload_n C 1 rfl rfl dX1_pass_100 ?_
      refine go_get (v := .ref (G.2.2.1 47)) C (shX1 G) (ltX1 hN) lkX1_23 rfl dX1_pass_101 ?_
      refine go_aload_n C 1 rfl rfl dX1_pass_104 ?_
      refine go_get (v := .ref (G.2.2.1 29)) C (shX1 G) (ltX1 hN) lkX1_19 rfl dX1_pass_105 ?_
      refine go_iload C 0 rfl dX1_pass_108 ?_
      have ht_8 := vp_in_lt hw.1
      refine go_tald C hN hw.1 dX1_pass_110 ?_
      replace hw := hw.2
      refine go_putr C (shX3 G) (ltX3 hN) lpX1_58 (show 5 < 14 by decide) (pxX3_5 G _ _) dX1_pass_111 (go_nm fun σ_9 eσ_9 => ?_)
      replace hw := hw σ_9 eσ_9
      refine go_iload C 5 rfl dX1_pass_114 ?_
      refine go_iload C 7 rfl dX1_pass_116 ?_
      refine go_aload_n C 1 rfl rfl dX1_pass_118 ?_
      refine go_iload C 7 rfl dX1_pass_119 ?_
      refine go_callV (as := [.int v6]) C hR (shX1 G) (ltX1 hN) cwX1_62 (Nat.le_trans (by decide) hd) (by decide) rfl rfl (Nat.le_of_ble_eq_true rfl) dX1_pass_121 (spX1_fill (Nat.le_refl _) hN hw) (fun v_ τ_ hw => ?_)
      obtain ⟨r_10, rfl, hw⟩ := hw
      obtain ⟨σ_11, rfl⟩ : ∃ z, z = τ_ := ⟨_, rfl⟩
      refine go_isub C dX1_pass_124 ?_
      refine go_iadd C dX1_pass_125 ?_
      refine go_topi (fun v4_12 ev4_12 => ?_)
      replace hw := hw v4_12 ev4_12
      refine go_istore (lv2 := [(4, .int v4_12), (8, .int s0), (0, .ref (G.2.2.1 51)), (1, .ref (G.2.2.1 (21 + 4 * k1))), (2, .int v2), (3, .int v3), (5, .int v5), (6, .int v6), (7, .int v7)]) C (by rw [hnl]; decide) rfl dX1_pass_126 ?_
      obtain ⟨v5_13, ev5_13⟩ : ∃ z : Int32, z = v5 + 1 := ⟨_, rfl⟩
      replace hw := hw v5_13 ev5_13
      refine go_iinc (v := v5_13) (lv2 := [(5, .int v5_13), (4, .int v4_12), (8, .int s0), (0, .ref (G.2.2.1 51)), (1, .ref (G.2.2.1 (21 + 4 * k1))), (2, .int v2), (3, .int v3), (6, .int v6), (7, .int v7)]) C 6 rfl (by rw [ev5_13]; rfl) (by rw [hnl]; decide) rfl dX1_pass_128 ?_
      refine go_goto C 11 rfl dX1_pass_131 ?_
      refine go_sub [3, 4, 5, 6, 1, 0] rfl ?_
      exact hK11 _ _ _ _ _ hw
  · replace hw := hw.2 hc
    refine go_iload C 5 rfl dX1_pass_64 ?_
    refine go_iload C 7 rfl dX1_pass_66 ?_
    refine go_iadd C dX1_pass_68 ?_
    refine go_topi (fun v4_14 ev4_14 => ?_)
    replace hw := hw v4_14 ev4_14
    refine go_istore (lv2 := [(4, .int v4_14), (8, .int s0), (0, .ref (G.2.2.1 51)), (1, .ref (G.2.2.1 (21 + 4 * k1))), (2, .int v2), (3, .int v3), (5, .int v5), (6, .int v6), (7, .int v7)]) C (by rw [hnl]; decide) rfl dX1_pass_69 ?_
    refine go_goto C 128 rfl dX1_pass_71 ?_
    obtain ⟨v5_15, ev5_15⟩ : ∃ z : Int32, z = v5 + 1 := ⟨_, rfl⟩
    replace hw := hw v5_15 ev5_15
    refine go_iinc (v := v5_15) (lv2 := [(5, .int v5_15), (4, .int v4_14), (8, .int s0), (0, .ref (G.2.2.1 51)), (1, .ref (G.2.2.1 (21 + 4 * k1))), (2, .int v2), (3, .int v3), (6, .int v6), (7, .int v7)]) C 6 rfl (by rw [ev5_15]; rfl) (by rw [hnl]; decide) rfl dX1_pass_128 ?_
    refine go_goto C 11 rfl dX1_pass_131 ?_
    refine go_sub [3, 4, 5, 6, 1, 0] rfl ?_
    exact hK11 _ _ _ _ _ hw
set_option maxRecDepth 20000 in
set_option maxHeartbeats 4000000 in
theorem gbX1_pass_11 {X : XT} {G : GT} {l : Launch} {d : Nat} {k1 : Nat} {post : Int32 → St → Prop} (C : Cx X G cX1_pass RX1) (hr : Rt X G (some .int) (fun v τ => ∃ r : Int32, v = some (.int r) ∧ post r τ)) (hR : Rm X l d) (hnl : X.2.2.2.2.2.2.2.2.2.2.1 = 9)  (hd : 6 ≤ d) (hN : 75 ≤ G.2.2.2.2.2) (hk1 : k1 < 2)  
    : ∀ (n : Nat) (v2 : Int32) (v3 : Int32) (v4 : Int32) (v5 : Int32) (σ : St), wbX1_pass_11 k1  post n v2 v3 v4 v5 σ → Go X G 11 [(0, .ref (G.2.2.1 51)), (1, .ref (G.2.2.1 (21 + 4 * k1))), (2, .int v2), (3, .int v3), (4, .int v4), (5, .int v5)] [] σ := by
  intro n
  induction n with
  | zero => intro v2 v3 v4 v5 σ hw; exact hw.elim
  | succ n ih =>
    intro v2 v3 v4 v5 σ hw
    have hw : ((12 ≤ v5 →
      post v4 σ) ∧
    (¬ 12 ≤ v5 →
      wpX4_cradlesIn v2 v5 σ (fun r_1 σ_2 =>
      wpX4_standingOf v5 σ_2 (fun r_3 σ_4 =>
      ((¬ v3 = (-1) →
        wbX1_pass_56 k1 (wbX1_pass_11 k1 post n) post v2 v3 v4 v5 r_1 r_3 v3 σ_4) ∧
      (v3 = (-1) →
        wpX4_heldIn v2 r_3 σ_4 (fun r_5 σ_6 =>
        wbX1_pass_56 k1 (wbX1_pass_11 k1 post n) post v2 v3 v4 v5 r_1 r_3 r_5 σ_6))))))) := hw
    refine go_iload C 5 rfl dX1_pass_11 ?_
    refine go_bipush (v := 12) C rfl dX1_pass_13 ?_
    refine go_icmp_ge C 134 rfl dX1_pass_15 (fun hc => ?_) (fun hc => ?_)
    · replace hw := hw.1 hc
      refine go_iload C 4 rfl dX1_pass_134 ?_
      exact go_iret C hr ⟨_, rfl, hw⟩ dX1_pass_136
    · replace hw := hw.2 hc
      refine go_aload_n C 0 rfl rfl dX1_pass_18 ?_
      refine go_get (v := .ref (G.2.2.1 9)) C (shX1 G) (ltX1 hN) lkX1_15 rfl dX1_pass_19 ?_
      refine go_iload_n C 2 rfl rfl dX1_pass_22 ?_
      refine go_iload C 5 rfl dX1_pass_23 ?_
      refine go_callV (as := [.int v2, .int v5]) C hR (shX4 G) (ltX4 hN) cwX1_33 (Nat.le_trans (by decide) hd) (by decide) rfl rfl (Nat.le_of_ble_eq_true rfl) dX1_pass_25 (spX4_cradlesIn (Nat.le_refl _) hN hw) (fun v_ τ_ hw => ?_)
      obtain ⟨r_1, rfl, hw⟩ := hw
      obtain ⟨σ_2, rfl⟩ : ∃ z, z = τ_ := ⟨_, rfl⟩
      refine go_istore (lv2 := [(6, .int r_1), (0, .ref (G.2.2.1 51)), (1, .ref (G.2.2.1 (21 + 4 * k1))), (2, .int v2), (3, .int v3), (4, .int v4), (5, .int v5)]) C (by rw [hnl]; decide) rfl dX1_pass_28 ?_
      refine go_iload C 6 rfl dX1_pass_30 ?_
      refine go_callS (as := [.int v5]) C hR cwX1_39 (Nat.le_trans (by decide) hd) (by decide) rfl rfl (Nat.le_of_ble_eq_true rfl) dX1_pass_32 (spX4_standingOf (Nat.le_refl _) hN hw) (fun v_ τ_ hw => ?_)
      obtain ⟨r_3, rfl, hw⟩ := hw
      obtain ⟨σ_4, rfl⟩ : ∃ z, z = τ_ := ⟨_, rfl⟩
      refine go_istore (lv2 := [(7, .int r_3), (6, .int r_1), (0, .ref (G.2.2.1 51)), (1, .ref (G.2.2.1 (21 + 4 * k1))), (2, .int v2), (3, .int v3), (4, .int v4), (5, .int v5)]) C (by rw [hnl]; decide) rfl dX1_pass_35 ?_
      refine go_iload_n C 5 rfl rfl dX1_pass_37 ?_
      refine go_iconst (v := (-1)) C rfl dX1_pass_38 ?_
      refine go_icmp_ne C 55 rfl dX1_pass_39 (fun hc => ?_) (fun hc => ?_)
      · replace hw := hw.1 hc
        refine go_iload_n C 5 rfl rfl dX1_pass_55 ?_
        refine go_sub [2, 3, 4, 5, 6, 7, 1, 0] rfl ?_
        exact (gbX1_pass_56 C hr hR hnl hd hN hk1 ih) _ _ _ _ _ _ _ _ hw
      · replace hw := hw.2 hc
        refine go_aload_n C 2 rfl rfl dX1_pass_42 ?_
        refine go_get (v := .ref (G.2.2.1 9)) C (shX1 G) (ltX1 hN) lkX1_15 rfl dX1_pass_43 ?_
        refine go_iload_n C 4 rfl rfl dX1_pass_46 ?_
        refine go_iload C 0 rfl dX1_pass_47 ?_
        refine go_callV (as := [.int v2, .int r_3]) C hR (shX4 G) (ltX4 hN) cwX1_43 (Nat.le_trans (by decide) hd) (by decide) rfl rfl (Nat.le_of_ble_eq_true rfl) dX1_pass_49 (spX4_heldIn (Nat.le_refl _) hN hw) (fun v_ τ_ hw => ?_)
        obtain ⟨r_5, rfl, hw⟩ := hw
        obtain ⟨σ_6, rfl⟩ : ∃ z, z = τ_ := ⟨_, rfl⟩
        refine go_goto C 56 rfl dX1_pass_52 ?_
        refine go_sub [2, 3, 4, 5, 6, 7, 1, 0] rfl ?_
        exact (gbX1_pass_56 C hr hR hnl hd hN hk1 ih) _ _ _ _ _ _ _ _ hw
set_option maxRecDepth 20000 in
set_option maxHeartbeats 4000000 in
theorem spX1_pass {l : Launch} {G : GT} {d : Nat}  (hd : 6 ≤ d) {k1 : Nat} (hN : 75 ≤ G.2.2.2.2.2) (hk1 : k1 < 2) {a2 : Int32} {a3 : Int32} {σ : St} {post : Int32 → St → Prop} (hw : wpX1_pass k1 a2 a3 σ post) : Sp l G d yX1_pass cX1_pass 9 (some .int) [.ref (G.2.2.1 51), .ref (G.2.2.1 (21 + 4 * k1)), .int a2, .int a3] σ (fun v τ => ∃ r : Int32, v = some (.int r) ∧ post r τ) := by
  refine Sp.of (by decide) (Nat.le_of_ble_eq_true rfl) fun X C hr hR hnl => ?_
  show Go X G 0 [(0, .ref (G.2.2.1 51)), (1, .ref (G.2.2.1 (21 + 4 * k1))), (2, .int a2), (3, .int a3)] [] σ
  have hw : wpX0_open k1 a2 σ (fun σ_2 =>
  ∃ m_11, wbX1_pass_11 k1 post m_11 a2 a3 0 0 σ_2) := hw
  refine go_iconst (v := 0) C rfl dX1_pass_0 ?_
  refine go_istore (lv2 := [(4, .int 0), (0, .ref (G.2.2.1 51)), (1, .ref (G.2.2.1 (21 + 4 * k1))), (2, .int a2), (3, .int a3)]) C (by rw [hnl]; decide) rfl dX1_pass_1 ?_
  refine go_aload_n C 2 rfl rfl dX1_pass_3 ?_
  refine go_iload_n C 3 rfl rfl dX1_pass_4 ?_
  refine go_callV (as := [.int a2]) C hR (shX0 G hk1) (ltX0 hN hk1) cwX1_27 (Nat.le_trans (by decide) hd) (by decide) rfl rfl (Nat.le_of_ble_eq_true rfl) dX1_pass_5 (spX0_open (Nat.le_refl _) hN hk1 hw) (fun v_ τ_ hw => ?_)
  obtain ⟨rfl, hw⟩ := hw
  obtain ⟨σ_2, rfl⟩ : ∃ z, z = τ_ := ⟨_, rfl⟩
  refine go_iconst (v := 0) C rfl dX1_pass_8 ?_
  refine go_istore (lv2 := [(5, .int 0), (4, .int 0), (0, .ref (G.2.2.1 51)), (1, .ref (G.2.2.1 (21 + 4 * k1))), (2, .int a2), (3, .int a3)]) C (by rw [hnl]; decide) rfl dX1_pass_9 ?_
  refine go_sub [2, 3, 4, 5, 1, 0] rfl ?_
  obtain ⟨n_0, hw⟩ := hw
  exact (gbX1_pass_11 C hr hR hnl hd hN hk1) n_0 _ _ _ _ _ hw
-- CradleNames$Image.keep(LCradleNames$Land;LCradleNames$Book;)V
set_option maxRecDepth 20000 in
set_option maxHeartbeats 4000000 in
theorem spX2_keep {l : Launch} {G : GT} {d : Nat}  (hd : 1 ≤ d) {k2 : Nat} (hN : 75 ≤ G.2.2.2.2.2) (hk2 : k2 < 2)  {σ : St} {post : St → Prop} (hw : wpX2_keep k2  σ post) : Sp l G d yX2_keep cX2_keep 3 none [.ref (G.2.2.1 70), .ref (G.2.2.1 9), .ref (G.2.2.1 (21 + 4 * k2))] σ (fun v τ => v = none ∧ post τ) := by
  refine Sp.of (by decide) (Nat.le_of_ble_eq_true rfl) fun X C hr hR hnl => ?_
  show Go X G 0 [(0, .ref (G.2.2.1 70)), (1, .ref (G.2.2.1 9)), (2, .ref (G.2.2.1 (21 + 4 * k2)))] [] σ
  have hw : ∀ σ_1 : St, σ_1 = sI σ 70 3 (gI σ 9 0) →
  ∀ σ_2 : St, σ_2 = sI σ_1 70 4 (gI σ_1 9 1) →
  ∀ σ_3 : St, σ_3 = sI σ_2 70 5 (gI σ_2 9 8) →
  ∀ σ_4 : St, σ_4 = sI σ_3 70 6 (gI σ_3 9 11) →
  ¬ (0 : Int32) < 0 ∧ ¬ (0 : Int32) < 0 ∧ ¬ (12 : Int32) < 0 ∧ (0 : Int32).toNatClampNeg + (12 : Int32).toNatClampNeg ≤ 12 ∧ (0 : Int32).toNatClampNeg + (12 : Int32).toNatClampNeg ≤ 12 ∧ (
  ∀ σ_5 : St, σ_5 = sA σ_4 71 (va_cpy (σ_4 11).1 (σ_4 71).1 (0 : Int32).toNatClampNeg (0 : Int32).toNatClampNeg (12 : Int32).toNatClampNeg) →
  ¬ (0 : Int32) < 0 ∧ ¬ (0 : Int32) < 0 ∧ ¬ (2 : Int32) < 0 ∧ (0 : Int32).toNatClampNeg + (2 : Int32).toNatClampNeg ≤ 2 ∧ (0 : Int32).toNatClampNeg + (2 : Int32).toNatClampNeg ≤ 2 ∧ (
  ∀ σ_6 : St, σ_6 = sA σ_5 72 (va_cpy (σ_5 13).1 (σ_5 72).1 (0 : Int32).toNatClampNeg (0 : Int32).toNatClampNeg (2 : Int32).toNatClampNeg) →
  ¬ (0 : Int32) < 0 ∧ ¬ (0 : Int32) < 0 ∧ ¬ (7680 : Int32) < 0 ∧ (0 : Int32).toNatClampNeg + (7680 : Int32).toNatClampNeg ≤ 7680 ∧ (0 : Int32).toNatClampNeg + (7680 : Int32).toNatClampNeg ≤ 7680 ∧ (
  ∀ σ_7 : St, σ_7 = sA σ_6 73 (va_cpy (σ_6 10).1 (σ_6 73).1 (0 : Int32).toNatClampNeg (0 : Int32).toNatClampNeg (7680 : Int32).toNatClampNeg) →
  ¬ (0 : Int32) < 0 ∧ ¬ (0 : Int32) < 0 ∧ ¬ (4592 : Int32) < 0 ∧ (0 : Int32).toNatClampNeg + (4592 : Int32).toNatClampNeg ≤ 11424 ∧ (0 : Int32).toNatClampNeg + (4592 : Int32).toNatClampNeg ≤ 4592 ∧ (
  ∀ σ_8 : St, σ_8 = sA σ_7 74 (va_cpy (σ_7 (21 + 4 * k2 + 2)).1 (σ_7 74).1 (0 : Int32).toNatClampNeg (0 : Int32).toNatClampNeg (4592 : Int32).toNatClampNeg) →
  post σ_8)))) := hw
  refine go_aload_n C 0 rfl rfl dX2_keep_0 ?_
  refine go_aload_n C 1 rfl rfl dX2_keep_1 ?_
  refine go_get (v := .int (gI σ 9 0)) C (shX4 G) (ltX4 hN) lkX2_24 rfl dX2_keep_2 ?_
  refine go_puti C (shX2 G) (ltX2 hN) lpX2_30 (show 3 < 11 by decide) (pxX2_3 G _ _) dX2_keep_5 (go_nm fun σ_1 eσ_1 => ?_)
  replace hw := hw σ_1 eσ_1
  refine go_aload_n C 0 rfl rfl dX2_keep_8 ?_
  refine go_aload_n C 1 rfl rfl dX2_keep_9 ?_
  refine go_get (v := .int (gI σ_1 9 1)) C (shX4 G) (ltX4 hN) lkX2_31 rfl dX2_keep_10 ?_
  refine go_puti C (shX2 G) (ltX2 hN) lpX2_34 (show 4 < 11 by decide) (pxX2_4 G _ _) dX2_keep_13 (go_nm fun σ_2 eσ_2 => ?_)
  replace hw := hw σ_2 eσ_2
  refine go_aload_n C 0 rfl rfl dX2_keep_16 ?_
  refine go_aload_n C 1 rfl rfl dX2_keep_17 ?_
  refine go_get (v := .int (gI σ_2 9 8)) C (shX4 G) (ltX4 hN) lkX2_35 rfl dX2_keep_18 ?_
  refine go_puti C (shX2 G) (ltX2 hN) lpX2_38 (show 5 < 11 by decide) (pxX2_5 G _ _) dX2_keep_21 (go_nm fun σ_3 eσ_3 => ?_)
  replace hw := hw σ_3 eσ_3
  refine go_aload_n C 0 rfl rfl dX2_keep_24 ?_
  refine go_aload_n C 1 rfl rfl dX2_keep_25 ?_
  refine go_get (v := .int (gI σ_3 9 11)) C (shX4 G) (ltX4 hN) lkX2_41 rfl dX2_keep_26 ?_
  refine go_puti C (shX2 G) (ltX2 hN) lpX2_44 (show 6 < 11 by decide) (pxX2_6 G _ _) dX2_keep_29 (go_nm fun σ_4 eσ_4 => ?_)
  replace hw := hw σ_4 eσ_4
  refine go_aload_n C 1 rfl rfl dX2_keep_32 ?_
  refine go_get (v := .ref (G.2.2.1 11)) C (shX4 G) (ltX4 hN) lkX2_47 rfl dX2_keep_33 ?_
  refine go_iconst (v := 0) C rfl dX2_keep_36 ?_
  refine go_aload_n C 0 rfl rfl dX2_keep_37 ?_
  refine go_get (v := .ref (G.2.2.1 71)) C (shX2 G) (ltX2 hN) lkX2_9 rfl dX2_keep_38 ?_
  refine go_iconst (v := 0) C rfl dX2_keep_41 ?_
  refine go_bipush (v := 12) C rfl dX2_keep_42 ?_
  refine go_copy (d := 0) C (rm_le hR (Nat.le_trans (by decide) hd)) (saX4_cradlesNow G) (laX4_cradlesNow hN) (saX2_cradles G) (laX2_cradles hN) acX2_50 ac_n ac_s ac_i hw.1 hw.2.1 hw.2.2.1 hw.2.2.2.1 hw.2.2.2.2.1 (Nat.le_of_ble_eq_true rfl) dX2_keep_44 (go_nm fun σ_5 eσ_5 => ?_)
  replace hw := hw.2.2.2.2.2 σ_5 eσ_5
  refine go_aload_n C 1 rfl rfl dX2_keep_47 ?_
  refine go_get (v := .ref (G.2.2.1 13)) C (shX4 G) (ltX4 hN) lkX2_56 rfl dX2_keep_48 ?_
  refine go_iconst (v := 0) C rfl dX2_keep_51 ?_
  refine go_aload_n C 0 rfl rfl dX2_keep_52 ?_
  refine go_get (v := .ref (G.2.2.1 72)) C (shX2 G) (ltX2 hN) lkX2_15 rfl dX2_keep_53 ?_
  refine go_iconst (v := 0) C rfl dX2_keep_56 ?_
  refine go_iconst (v := 2) C rfl dX2_keep_57 ?_
  refine go_copy (d := 0) C (rm_le hR (Nat.le_trans (by decide) hd)) (saX4_heldNow G) (laX4_heldNow hN) (saX2_held G) (laX2_held hN) acX2_50 ac_n ac_s ac_i hw.1 hw.2.1 hw.2.2.1 hw.2.2.2.1 hw.2.2.2.2.1 (Nat.le_of_ble_eq_true rfl) dX2_keep_58 (go_nm fun σ_6 eσ_6 => ?_)
  replace hw := hw.2.2.2.2.2 σ_6 eσ_6
  refine go_aload_n C 1 rfl rfl dX2_keep_61 ?_
  refine go_get (v := .ref (G.2.2.1 10)) C (shX4 G) (ltX4 hN) lkX2_59 rfl dX2_keep_62 ?_
  refine go_iconst (v := 0) C rfl dX2_keep_65 ?_
  refine go_aload_n C 0 rfl rfl dX2_keep_66 ?_
  refine go_get (v := .ref (G.2.2.1 73)) C (shX2 G) (ltX2 hN) lkX2_18 rfl dX2_keep_67 ?_
  refine go_iconst (v := 0) C rfl dX2_keep_70 ?_
  refine go_aload_n C 0 rfl rfl dX2_keep_71 ?_
  refine go_get (v := .ref (G.2.2.1 73)) C (shX2 G) (ltX2 hN) lkX2_18 rfl dX2_keep_72 ?_
  refine go_alen (t0 := 0) (v := 7680) C (saX2_told G) (laX2_told hN) rfl rfl dX2_keep_75 ?_
  refine go_copy (d := 0) C (rm_le hR (Nat.le_trans (by decide) hd)) (saX4_told G) (laX4_told hN) (saX2_told G) (laX2_told hN) acX2_50 ac_n ac_s ac_i hw.1 hw.2.1 hw.2.2.1 hw.2.2.2.1 hw.2.2.2.2.1 (Nat.le_of_ble_eq_true rfl) dX2_keep_76 (go_nm fun σ_7 eσ_7 => ?_)
  replace hw := hw.2.2.2.2.2 σ_7 eσ_7
  refine go_aload_n C 2 rfl rfl dX2_keep_79 ?_
  refine go_get (v := .ref (G.2.2.1 (21 + 4 * k2 + 2))) C (shX0 G hk2) (ltX0 hN hk2) lkX2_60 rfl dX2_keep_80 ?_
  refine go_iconst (v := 0) C rfl dX2_keep_83 ?_
  refine go_aload_n C 0 rfl rfl dX2_keep_84 ?_
  refine go_get (v := .ref (G.2.2.1 74)) C (shX2 G) (ltX2 hN) lkX2_21 rfl dX2_keep_85 ?_
  refine go_iconst (v := 0) C rfl dX2_keep_88 ?_
  refine go_aload_n C 0 rfl rfl dX2_keep_89 ?_
  refine go_get (v := .ref (G.2.2.1 74)) C (shX2 G) (ltX2 hN) lkX2_21 rfl dX2_keep_90 ?_
  refine go_alen (t0 := 0) (v := 4592) C (saX2_toldSums G) (laX2_toldSums hN) rfl rfl dX2_keep_93 ?_
  refine go_copy (d := 0) C (rm_le hR (Nat.le_trans (by decide) hd)) (saX0_sums G hk2) (laX0_sums hN hk2) (saX2_toldSums G) (laX2_toldSums hN) acX2_50 ac_n ac_s ac_i hw.1 hw.2.1 hw.2.2.1 hw.2.2.2.1 hw.2.2.2.2.1 (Nat.le_of_ble_eq_true rfl) dX2_keep_94 (go_nm fun σ_8 eσ_8 => ?_)
  replace hw := hw.2.2.2.2.2 σ_8 eσ_8
  exact go_vret C hr ⟨rfl, hw⟩ dX2_keep_97
-- CradleNames$Image.restore(LCradleNames$Land;LCradleNames$Book;)V
set_option maxRecDepth 20000 in
set_option maxHeartbeats 4000000 in
theorem spX2_restore {l : Launch} {G : GT} {d : Nat}  (hd : 3 ≤ d) {k2 : Nat} (hN : 75 ≤ G.2.2.2.2.2) (hk2 : k2 < 2)  {σ : St} {post : St → Prop} (hw : wpX2_restore k2  σ post) : Sp l G d yX2_restore cX2_restore 3 none [.ref (G.2.2.1 70), .ref (G.2.2.1 9), .ref (G.2.2.1 (21 + 4 * k2))] σ (fun v τ => v = none ∧ post τ) := by
  refine Sp.of (by decide) (Nat.le_of_ble_eq_true rfl) fun X C hr hR hnl => ?_
  show Go X G 0 [(0, .ref (G.2.2.1 70)), (1, .ref (G.2.2.1 9)), (2, .ref (G.2.2.1 (21 + 4 * k2)))] [] σ
  have hw : ∀ σ_1 : St, σ_1 = sI σ 9 0 (gI σ 70 3) →
  ∀ σ_2 : St, σ_2 = sI σ_1 9 1 (gI σ_1 70 4) →
  ∀ σ_3 : St, σ_3 = sI σ_2 9 8 (gI σ_2 70 5) →
  ∀ σ_4 : St, σ_4 = sI σ_3 9 11 (gI σ_3 70 6) →
  ¬ (0 : Int32) < 0 ∧ ¬ (0 : Int32) < 0 ∧ ¬ (12 : Int32) < 0 ∧ (0 : Int32).toNatClampNeg + (12 : Int32).toNatClampNeg ≤ 12 ∧ (0 : Int32).toNatClampNeg + (12 : Int32).toNatClampNeg ≤ 12 ∧ (
  ∀ σ_5 : St, σ_5 = sA σ_4 11 (va_cpy (σ_4 71).1 (σ_4 11).1 (0 : Int32).toNatClampNeg (0 : Int32).toNatClampNeg (12 : Int32).toNatClampNeg) →
  ¬ (0 : Int32) < 0 ∧ ¬ (0 : Int32) < 0 ∧ ¬ (2 : Int32) < 0 ∧ (0 : Int32).toNatClampNeg + (2 : Int32).toNatClampNeg ≤ 2 ∧ (0 : Int32).toNatClampNeg + (2 : Int32).toNatClampNeg ≤ 2 ∧ (
  ∀ σ_6 : St, σ_6 = sA σ_5 13 (va_cpy (σ_5 72).1 (σ_5 13).1 (0 : Int32).toNatClampNeg (0 : Int32).toNatClampNeg (2 : Int32).toNatClampNeg) →
  ¬ (0 : Int32) < 0 ∧ ¬ (0 : Int32) < 0 ∧ ¬ (7680 : Int32) < 0 ∧ (0 : Int32).toNatClampNeg + (7680 : Int32).toNatClampNeg ≤ 7680 ∧ (0 : Int32).toNatClampNeg + (7680 : Int32).toNatClampNeg ≤ 7680 ∧ (
  ∀ σ_7 : St, σ_7 = sA σ_6 10 (va_cpy (σ_6 73).1 (σ_6 10).1 (0 : Int32).toNatClampNeg (0 : Int32).toNatClampNeg (7680 : Int32).toNatClampNeg) →
  ¬ (0 : Int32) < 0 ∧ ¬ (0 : Int32) < 0 ∧ ¬ (4592 : Int32) < 0 ∧ (0 : Int32).toNatClampNeg + (4592 : Int32).toNatClampNeg ≤ 4592 ∧ (0 : Int32).toNatClampNeg + (4592 : Int32).toNatClampNeg ≤ 11424 ∧ (
  ∀ σ_8 : St, σ_8 = sA σ_7 (21 + 4 * k2 + 2) (va_cpy (σ_7 74).1 (σ_7 (21 + 4 * k2 + 2)).1 (0 : Int32).toNatClampNeg (0 : Int32).toNatClampNeg (4592 : Int32).toNatClampNeg) →
  wpX0_reopen k2 (gI σ_8 70 3) σ_8 (fun σ_10 =>
  post σ_10))))) := hw
  refine go_aload_n C 1 rfl rfl dX2_restore_0 ?_
  refine go_aload_n C 0 rfl rfl dX2_restore_1 ?_
  refine go_get (v := .int (gI σ 70 3)) C (shX2 G) (ltX2 hN) lkX2_30 rfl dX2_restore_2 ?_
  refine go_puti C (shX4 G) (ltX4 hN) lpX2_24 (show 0 < 15 by decide) (pxX4_0 G _ _) dX2_restore_5 (go_nm fun σ_1 eσ_1 => ?_)
  replace hw := hw σ_1 eσ_1
  refine go_aload_n C 1 rfl rfl dX2_restore_8 ?_
  refine go_aload_n C 0 rfl rfl dX2_restore_9 ?_
  refine go_get (v := .int (gI σ_1 70 4)) C (shX2 G) (ltX2 hN) lkX2_34 rfl dX2_restore_10 ?_
  refine go_puti C (shX4 G) (ltX4 hN) lpX2_31 (show 1 < 15 by decide) (pxX4_1 G _ _) dX2_restore_13 (go_nm fun σ_2 eσ_2 => ?_)
  replace hw := hw σ_2 eσ_2
  refine go_aload_n C 1 rfl rfl dX2_restore_16 ?_
  refine go_aload_n C 0 rfl rfl dX2_restore_17 ?_
  refine go_get (v := .int (gI σ_2 70 5)) C (shX2 G) (ltX2 hN) lkX2_38 rfl dX2_restore_18 ?_
  refine go_puti C (shX4 G) (ltX4 hN) lpX2_35 (show 8 < 15 by decide) (pxX4_8 G _ _) dX2_restore_21 (go_nm fun σ_3 eσ_3 => ?_)
  replace hw := hw σ_3 eσ_3
  refine go_aload_n C 1 rfl rfl dX2_restore_24 ?_
  refine go_aload_n C 0 rfl rfl dX2_restore_25 ?_
  refine go_get (v := .int (gI σ_3 70 6)) C (shX2 G) (ltX2 hN) lkX2_44 rfl dX2_restore_26 ?_
  refine go_puti C (shX4 G) (ltX4 hN) lpX2_41 (show 11 < 15 by decide) (pxX4_11 G _ _) dX2_restore_29 (go_nm fun σ_4 eσ_4 => ?_)
  replace hw := hw σ_4 eσ_4
  refine go_aload_n C 0 rfl rfl dX2_restore_32 ?_
  refine go_get (v := .ref (G.2.2.1 71)) C (shX2 G) (ltX2 hN) lkX2_9 rfl dX2_restore_33 ?_
  refine go_iconst (v := 0) C rfl dX2_restore_36 ?_
  refine go_aload_n C 1 rfl rfl dX2_restore_37 ?_
  refine go_get (v := .ref (G.2.2.1 11)) C (shX4 G) (ltX4 hN) lkX2_47 rfl dX2_restore_38 ?_
  refine go_iconst (v := 0) C rfl dX2_restore_41 ?_
  refine go_bipush (v := 12) C rfl dX2_restore_42 ?_
  refine go_copy (d := 0) C (rm_le hR (Nat.le_trans (by decide) hd)) (saX2_cradles G) (laX2_cradles hN) (saX4_cradlesNow G) (laX4_cradlesNow hN) acX2_50 ac_n ac_s ac_i hw.1 hw.2.1 hw.2.2.1 hw.2.2.2.1 hw.2.2.2.2.1 (Nat.le_of_ble_eq_true rfl) dX2_restore_44 (go_nm fun σ_5 eσ_5 => ?_)
  replace hw := hw.2.2.2.2.2 σ_5 eσ_5
  refine go_aload_n C 0 rfl rfl dX2_restore_47 ?_
  refine go_get (v := .ref (G.2.2.1 72)) C (shX2 G) (ltX2 hN) lkX2_15 rfl dX2_restore_48 ?_
  refine go_iconst (v := 0) C rfl dX2_restore_51 ?_
  refine go_aload_n C 1 rfl rfl dX2_restore_52 ?_
  refine go_get (v := .ref (G.2.2.1 13)) C (shX4 G) (ltX4 hN) lkX2_56 rfl dX2_restore_53 ?_
  refine go_iconst (v := 0) C rfl dX2_restore_56 ?_
  refine go_iconst (v := 2) C rfl dX2_restore_57 ?_
  refine go_copy (d := 0) C (rm_le hR (Nat.le_trans (by decide) hd)) (saX2_held G) (laX2_held hN) (saX4_heldNow G) (laX4_heldNow hN) acX2_50 ac_n ac_s ac_i hw.1 hw.2.1 hw.2.2.1 hw.2.2.2.1 hw.2.2.2.2.1 (Nat.le_of_ble_eq_true rfl) dX2_restore_58 (go_nm fun σ_6 eσ_6 => ?_)
  replace hw := hw.2.2.2.2.2 σ_6 eσ_6
  refine go_aload_n C 0 rfl rfl dX2_restore_61 ?_
  refine go_get (v := .ref (G.2.2.1 73)) C (shX2 G) (ltX2 hN) lkX2_18 rfl dX2_restore_62 ?_
  refine go_iconst (v := 0) C rfl dX2_restore_65 ?_
  refine go_aload_n C 1 rfl rfl dX2_restore_66 ?_
  refine go_get (v := .ref (G.2.2.1 10)) C (shX4 G) (ltX4 hN) lkX2_59 rfl dX2_restore_67 ?_
  refine go_iconst (v := 0) C rfl dX2_restore_70 ?_
  refine go_aload_n C 0 rfl rfl dX2_restore_71 ?_
  refine go_get (v := .ref (G.2.2.1 73)) C (shX2 G) (ltX2 hN) lkX2_18 rfl dX2_restore_72 ?_
  refine go_alen (t0 := 0) (v := 7680) C (saX2_told G) (laX2_told hN) rfl rfl dX2_restore_75 ?_
  refine go_copy (d := 0) C (rm_le hR (Nat.le_trans (by decide) hd)) (saX2_told G) (laX2_told hN) (saX4_told G) (laX4_told hN) acX2_50 ac_n ac_s ac_i hw.1 hw.2.1 hw.2.2.1 hw.2.2.2.1 hw.2.2.2.2.1 (Nat.le_of_ble_eq_true rfl) dX2_restore_76 (go_nm fun σ_7 eσ_7 => ?_)
  replace hw := hw.2.2.2.2.2 σ_7 eσ_7
  refine go_aload_n C 0 rfl rfl dX2_restore_79 ?_
  refine go_get (v := .ref (G.2.2.1 74)) C (shX2 G) (ltX2 hN) lkX2_21 rfl dX2_restore_80 ?_
  refine go_iconst (v := 0) C rfl dX2_restore_83 ?_
  refine go_aload_n C 2 rfl rfl dX2_restore_84 ?_
  refine go_get (v := .ref (G.2.2.1 (21 + 4 * k2 + 2))) C (shX0 G hk2) (ltX0 hN hk2) lkX2_60 rfl dX2_restore_85 ?_
  refine go_iconst (v := 0) C rfl dX2_restore_88 ?_
  refine go_aload_n C 0 rfl rfl dX2_restore_89 ?_
  refine go_get (v := .ref (G.2.2.1 74)) C (shX2 G) (ltX2 hN) lkX2_21 rfl dX2_restore_90 ?_
  refine go_alen (t0 := 0) (v := 4592) C (saX2_toldSums G) (laX2_toldSums hN) rfl rfl dX2_restore_93 ?_
  refine go_copy (d := 0) C (rm_le hR (Nat.le_trans (by decide) hd)) (saX2_toldSums G) (laX2_toldSums hN) (saX0_sums G hk2) (laX0_sums hN hk2) acX2_50 ac_n ac_s ac_i hw.1 hw.2.1 hw.2.2.1 hw.2.2.2.1 hw.2.2.2.2.1 (Nat.le_of_ble_eq_true rfl) dX2_restore_94 (go_nm fun σ_8 eσ_8 => ?_)
  replace hw := hw.2.2.2.2.2 σ_8 eσ_8
  refine go_aload_n C 2 rfl rfl dX2_restore_97 ?_
  refine go_aload_n C 0 rfl rfl dX2_restore_98 ?_
  refine go_get (v := .int (gI σ_8 70 3)) C (shX2 G) (ltX2 hN) lkX2_30 rfl dX2_restore_99 ?_
  refine go_callV (as := [.int (gI σ_8 70 3)]) C hR (shX0 G hk2) (ltX0 hN hk2) cwX2_65 (Nat.le_trans (by decide) hd) (by decide) rfl rfl (Nat.le_of_ble_eq_true rfl) dX2_restore_102 (spX0_reopen (Nat.le_refl _) hN hk2 hw) (fun v_ τ_ hw => ?_)
  obtain ⟨rfl, hw⟩ := hw
  obtain ⟨σ_10, rfl⟩ : ∃ z, z = τ_ := ⟨_, rfl⟩
  exact go_vret C hr ⟨rfl, hw⟩ dX2_restore_105
-- CradleNames$Land.toldCell(III)I
set_option maxRecDepth 20000 in
set_option maxHeartbeats 4000000 in
theorem spX4_toldCell {l : Launch} {G : GT} {d : Nat}  (hd : 1 ≤ d)  (hN : 75 ≤ G.2.2.2.2.2)  {a1 : Int32} {a2 : Int32} {a3 : Int32} {σ : St} {post : Int32 → St → Prop} (hw : wpX4_toldCell  a1 a2 a3 σ post) : Sp l G d yX4_toldCell cX4_toldCell 3 (some .int) [.int a1, .int a2, .int a3] σ (fun v τ => ∃ r : Int32, v = some (.int r) ∧ post r τ) := by
  refine Sp.of (by decide) (Nat.le_of_ble_eq_true rfl) fun X C hr hR hnl => ?_
  show Go X G 0 [(0, .int a1), (1, .int a2), (2, .int a3)] [] σ
  have hw : post (((((a1 - (-40)) * 12) + a2) * 16) + a3) σ := hw
  refine go_iload_n C 0 rfl rfl dX4_toldCell_0 ?_
  refine go_bipush (v := (-40)) C rfl dX4_toldCell_1 ?_
  refine go_isub C dX4_toldCell_3 ?_
  refine go_bipush (v := 12) C rfl dX4_toldCell_4 ?_
  refine go_imul C dX4_toldCell_6 ?_
  refine go_iload_n C 1 rfl rfl dX4_toldCell_7 ?_
  refine go_iadd C dX4_toldCell_8 ?_
  refine go_bipush (v := 16) C rfl dX4_toldCell_9 ?_
  refine go_imul C dX4_toldCell_11 ?_
  refine go_iload_n C 2 rfl rfl dX4_toldCell_12 ?_
  refine go_iadd C dX4_toldCell_13 ?_
  exact go_iret C hr ⟨_, rfl, hw⟩ dX4_toldCell_14
-- CradleNames$Land.addList(II)I
set_option maxRecDepth 20000 in
set_option maxHeartbeats 4000000 in
theorem spX4_addList {l : Launch} {G : GT} {d : Nat}  (hd : 1 ≤ d)  (hN : 75 ≤ G.2.2.2.2.2)  {a1 : Int32} {a2 : Int32} {σ : St} {post : Int32 → St → Prop} (hw : wpX4_addList  a1 a2 σ post) : Sp l G d yX4_addList cX4_addList 3 (some .int) [.ref (G.2.2.1 9), .int a1, .int a2] σ (fun v τ => ∃ r : Int32, v = some (.int r) ∧ post r τ) := by
  refine Sp.of (by decide) (Nat.le_of_ble_eq_true rfl) fun X C hr hR hnl => ?_
  show Go X G 0 [(0, .ref (G.2.2.1 9)), (1, .int a1), (2, .int a2)] [] σ
  have hw : ((8 ≤ (gI σ 9 8) →
    post (gI σ 9 8) σ) ∧
  (¬ 8 ≤ (gI σ 9 8) →
    vp_in (gI σ 9 8) 8 ∧ (
    ∀ σ_1 : St, σ_1 = sI σ 16 (gI σ 9 8).toNatClampNeg a1 →
    vp_in (gI σ_1 9 8) 8 ∧ (
    ∀ σ_2 : St, σ_2 = sI σ_1 17 (gI σ_1 9 8).toNatClampNeg a2 →
    ∀ σ_3 : St, σ_3 = sI σ_2 9 8 ((gI σ_2 9 8) + 1) →
    post (gI σ_3 9 8) σ_3)))) := hw
  refine go_aload_n C 0 rfl rfl dX4_addList_0 ?_
  refine go_get (v := .int (gI σ 9 8)) C (shX4 G) (ltX4 hN) lkX4_52 rfl dX4_addList_1 ?_
  refine go_bipush (v := 8) C rfl dX4_addList_4 ?_
  refine go_icmp_ge C 39 rfl dX4_addList_6 (fun hc => ?_) (fun hc => ?_)
  · replace hw := hw.1 hc
    refine go_aload_n C 0 rfl rfl dX4_addList_39 ?_
    refine go_get (v := .int (gI σ 9 8)) C (shX4 G) (ltX4 hN) lkX4_52 rfl dX4_addList_40 ?_
    exact go_iret C hr ⟨_, rfl, hw⟩ dX4_addList_43
  · replace hw := hw.2 hc
    refine go_aload_n C 0 rfl rfl dX4_addList_9 ?_
    refine go_get (v := .ref (G.2.2.1 16)) C (shX4 G) (ltX4 hN) lkX4_34 rfl dX4_addList_10 ?_
    refine go_aload_n C 0 rfl rfl dX4_addList_13 ?_
    refine go_get (v := .int (gI σ 9 8)) C (shX4 G) (ltX4 hN) lkX4_52 rfl dX4_addList_14 ?_
    refine go_iload_n C 1 rfl rfl dX4_addList_17 ?_
    refine go_iast C (saX4_listFrom G) (laX4_listFrom hN) hw.1 dX4_addList_18 (go_nm fun σ_1 eσ_1 => ?_)
    replace hw := hw.2 σ_1 eσ_1
    refine go_aload_n C 0 rfl rfl dX4_addList_19 ?_
    refine go_get (v := .ref (G.2.2.1 17)) C (shX4 G) (ltX4 hN) lkX4_37 rfl dX4_addList_20 ?_
    refine go_aload_n C 0 rfl rfl dX4_addList_23 ?_
    refine go_get (v := .int (gI σ_1 9 8)) C (shX4 G) (ltX4 hN) lkX4_52 rfl dX4_addList_24 ?_
    refine go_iload_n C 2 rfl rfl dX4_addList_27 ?_
    refine go_iast C (saX4_listNames G) (laX4_listNames hN) hw.1 dX4_addList_28 (go_nm fun σ_2 eσ_2 => ?_)
    replace hw := hw.2 σ_2 eσ_2
    refine go_aload_n C 0 rfl rfl dX4_addList_29 ?_
    refine go_dup C rfl dX4_addList_30 ?_
    refine go_get (v := .int (gI σ_2 9 8)) C (shX4 G) (ltX4 hN) lkX4_52 rfl dX4_addList_31 ?_
    refine go_iconst (v := 1) C rfl dX4_addList_34 ?_
    refine go_iadd C dX4_addList_35 ?_
    refine go_puti C (shX4 G) (ltX4 hN) lpX4_52 (show 8 < 15 by decide) (pxX4_8 G _ _) dX4_addList_36 (go_nm fun σ_3 eσ_3 => ?_)
    replace hw := hw σ_3 eσ_3
    refine go_aload_n C 0 rfl rfl dX4_addList_39 ?_
    refine go_get (v := .int (gI σ_3 9 8)) C (shX4 G) (ltX4 hN) lkX4_52 rfl dX4_addList_40 ?_
    exact go_iret C hr ⟨_, rfl, hw⟩ dX4_addList_43
-- CradleNames$Land.addFilm(III)I
set_option maxRecDepth 20000 in
set_option maxHeartbeats 4000000 in
theorem spX4_addFilm {l : Launch} {G : GT} {d : Nat}  (hd : 1 ≤ d)  (hN : 75 ≤ G.2.2.2.2.2)  {a1 : Int32} {a2 : Int32} {a3 : Int32} {σ : St} {post : Int32 → St → Prop} (hw : wpX4_addFilm  a1 a2 a3 σ post) : Sp l G d yX4_addFilm cX4_addFilm 4 (some .int) [.ref (G.2.2.1 9), .int a1, .int a2, .int a3] σ (fun v τ => ∃ r : Int32, v = some (.int r) ∧ post r τ) := by
  refine Sp.of (by decide) (Nat.le_of_ble_eq_true rfl) fun X C hr hR hnl => ?_
  show Go X G 0 [(0, .ref (G.2.2.1 9)), (1, .int a1), (2, .int a2), (3, .int a3)] [] σ
  have hw : (((gI σ 9 11) < 8 →
    vp_in (gI σ 9 11) 8 ∧ (
    ∀ σ_1 : St, σ_1 = sI σ 18 (gI σ 9 11).toNatClampNeg a1 →
    vp_in (gI σ_1 9 11) 8 ∧ (
    ∀ σ_2 : St, σ_2 = sI σ_1 19 (gI σ_1 9 11).toNatClampNeg a2 →
    vp_in (gI σ_2 9 11) 8 ∧ (
    ∀ σ_3 : St, σ_3 = sI σ_2 20 (gI σ_2 9 11).toNatClampNeg a3 →
    ∀ σ_4 : St, σ_4 = sI σ_3 9 11 ((gI σ_3 9 11) + 1) →
    post ((gI σ_4 9 11) - 1) σ_4)))) ∧
  (¬ (gI σ 9 11) < 8 →
    post (-1) σ)) := hw
  refine go_aload_n C 0 rfl rfl dX4_addFilm_0 ?_
  refine go_get (v := .int (gI σ 9 11)) C (shX4 G) (ltX4 hN) lkX4_55 rfl dX4_addFilm_1 ?_
  refine go_bipush (v := 8) C rfl dX4_addFilm_4 ?_
  refine go_icmp_lt C 11 rfl dX4_addFilm_6 (fun hc => ?_) (fun hc => ?_)
  · replace hw := hw.1 hc
    refine go_aload_n C 0 rfl rfl dX4_addFilm_11 ?_
    refine go_get (v := .ref (G.2.2.1 18)) C (shX4 G) (ltX4 hN) lkX4_40 rfl dX4_addFilm_12 ?_
    refine go_aload_n C 0 rfl rfl dX4_addFilm_15 ?_
    refine go_get (v := .int (gI σ 9 11)) C (shX4 G) (ltX4 hN) lkX4_55 rfl dX4_addFilm_16 ?_
    refine go_iload_n C 1 rfl rfl dX4_addFilm_19 ?_
    refine go_iast C (saX4_filmName G) (laX4_filmName hN) hw.1 dX4_addFilm_20 (go_nm fun σ_1 eσ_1 => ?_)
    replace hw := hw.2 σ_1 eσ_1
    refine go_aload_n C 0 rfl rfl dX4_addFilm_21 ?_
    refine go_get (v := .ref (G.2.2.1 19)) C (shX4 G) (ltX4 hN) lkX4_43 rfl dX4_addFilm_22 ?_
    refine go_aload_n C 0 rfl rfl dX4_addFilm_25 ?_
    refine go_get (v := .int (gI σ_1 9 11)) C (shX4 G) (ltX4 hN) lkX4_55 rfl dX4_addFilm_26 ?_
    refine go_iload_n C 2 rfl rfl dX4_addFilm_29 ?_
    refine go_iast C (saX4_filmYear G) (laX4_filmYear hN) hw.1 dX4_addFilm_30 (go_nm fun σ_2 eσ_2 => ?_)
    replace hw := hw.2 σ_2 eσ_2
    refine go_aload_n C 0 rfl rfl dX4_addFilm_31 ?_
    refine go_get (v := .ref (G.2.2.1 20)) C (shX4 G) (ltX4 hN) lkX4_46 rfl dX4_addFilm_32 ?_
    refine go_aload_n C 0 rfl rfl dX4_addFilm_35 ?_
    refine go_get (v := .int (gI σ_2 9 11)) C (shX4 G) (ltX4 hN) lkX4_55 rfl dX4_addFilm_36 ?_
    refine go_iload_n C 3 rfl rfl dX4_addFilm_39 ?_
    refine go_iast C (saX4_filmPoints G) (laX4_filmPoints hN) hw.1 dX4_addFilm_40 (go_nm fun σ_3 eσ_3 => ?_)
    replace hw := hw.2 σ_3 eσ_3
    refine go_aload_n C 0 rfl rfl dX4_addFilm_41 ?_
    refine go_dup C rfl dX4_addFilm_42 ?_
    refine go_get (v := .int (gI σ_3 9 11)) C (shX4 G) (ltX4 hN) lkX4_55 rfl dX4_addFilm_43 ?_
    refine go_iconst (v := 1) C rfl dX4_addFilm_46 ?_
    refine go_iadd C dX4_addFilm_47 ?_
    refine go_puti C (shX4 G) (ltX4 hN) lpX4_55 (show 11 < 15 by decide) (pxX4_11 G _ _) dX4_addFilm_48 (go_nm fun σ_4 eσ_4 => ?_)
    replace hw := hw σ_4 eσ_4
    refine go_aload_n C 0 rfl rfl dX4_addFilm_51 ?_
    refine go_get (v := .int (gI σ_4 9 11)) C (shX4 G) (ltX4 hN) lkX4_55 rfl dX4_addFilm_52 ?_
    refine go_iconst (v := 1) C rfl dX4_addFilm_55 ?_
    refine go_isub C dX4_addFilm_56 ?_
    exact go_iret C hr ⟨_, rfl, hw⟩ dX4_addFilm_57
  · replace hw := hw.2 hc
    refine go_iconst (v := (-1)) C rfl dX4_addFilm_9 ?_
    exact go_iret C hr ⟨_, rfl, hw⟩ dX4_addFilm_10
-- CradleNames$Land.closeYear(I)V
set_option maxRecDepth 20000 in
set_option maxHeartbeats 4000000 in
theorem spX4_closeYear {l : Launch} {G : GT} {d : Nat}  (hd : 1 ≤ d)  (hN : 75 ≤ G.2.2.2.2.2)  {a1 : Int32} {σ : St} {post : St → Prop} (hw : wpX4_closeYear  a1 σ post) : Sp l G d yX4_closeYear cX4_closeYear 2 none [.ref (G.2.2.1 9), .int a1] σ (fun v τ => v = none ∧ post τ) := by
  refine Sp.of (by decide) (Nat.le_of_ble_eq_true rfl) fun X C hr hR hnl => ?_
  show Go X G 0 [(0, .ref (G.2.2.1 9)), (1, .int a1)] [] σ
  have hw : (((gI σ 9 0) ≤ 60 →
    ¬ (0 : Int32) < 0 ∧ ¬ ((gI σ 9 0) * 12) < 0 ∧ ¬ (12 : Int32) < 0 ∧ (0 : Int32).toNatClampNeg + (12 : Int32).toNatClampNeg ≤ 12 ∧ ((gI σ 9 0) * 12).toNatClampNeg + (12 : Int32).toNatClampNeg ≤ 732 ∧ (
    ∀ σ_1 : St, σ_1 = sA σ 12 (va_cpy (σ 11).1 (σ 12).1 (0 : Int32).toNatClampNeg ((gI σ 9 0) * 12).toNatClampNeg (12 : Int32).toNatClampNeg) →
    ¬ (0 : Int32) < 0 ∧ ¬ ((gI σ_1 9 0) * 2) < 0 ∧ ¬ (2 : Int32) < 0 ∧ (0 : Int32).toNatClampNeg + (2 : Int32).toNatClampNeg ≤ 2 ∧ ((gI σ_1 9 0) * 2).toNatClampNeg + (2 : Int32).toNatClampNeg ≤ 122 ∧ (
    ∀ σ_2 : St, σ_2 = sA σ_1 14 (va_cpy (σ_1 13).1 (σ_1 14).1 (0 : Int32).toNatClampNeg ((gI σ_1 9 0) * 2).toNatClampNeg (2 : Int32).toNatClampNeg) →
    vp_in (gI σ_2 9 0) 61 ∧ (
    ∀ σ_3 : St, σ_3 = sI σ_2 15 (gI σ_2 9 0).toNatClampNeg a1 →
    ∀ σ_4 : St, σ_4 = sI σ_3 9 0 ((gI σ_3 9 0) + 1) →
    post σ_4)))) ∧
  (¬ (gI σ 9 0) ≤ 60 →
    post σ)) := hw
  refine go_aload_n C 0 rfl rfl dX4_closeYear_0 ?_
  refine go_get (v := .int (gI σ 9 0)) C (shX4 G) (ltX4 hN) lkX4_49 rfl dX4_closeYear_1 ?_
  refine go_bipush (v := 60) C rfl dX4_closeYear_4 ?_
  refine go_icmp_le C 10 rfl dX4_closeYear_6 (fun hc => ?_) (fun hc => ?_)
  · replace hw := hw.1 hc
    refine go_aload_n C 0 rfl rfl dX4_closeYear_10 ?_
    refine go_get (v := .ref (G.2.2.1 11)) C (shX4 G) (ltX4 hN) lkX4_19 rfl dX4_closeYear_11 ?_
    refine go_iconst (v := 0) C rfl dX4_closeYear_14 ?_
    refine go_aload_n C 0 rfl rfl dX4_closeYear_15 ?_
    refine go_get (v := .ref (G.2.2.1 12)) C (shX4 G) (ltX4 hN) lkX4_22 rfl dX4_closeYear_16 ?_
    refine go_aload_n C 0 rfl rfl dX4_closeYear_19 ?_
    refine go_get (v := .int (gI σ 9 0)) C (shX4 G) (ltX4 hN) lkX4_49 rfl dX4_closeYear_20 ?_
    refine go_bipush (v := 12) C rfl dX4_closeYear_23 ?_
    refine go_imul C dX4_closeYear_25 ?_
    refine go_bipush (v := 12) C rfl dX4_closeYear_26 ?_
    refine go_copy (d := 0) C (rm_le hR (Nat.le_trans (by decide) hd)) (saX4_cradlesNow G) (laX4_cradlesNow hN) (saX4_cradlesThen G) (laX4_cradlesThen hN) acX4_63 ac_n ac_s ac_i hw.1 hw.2.1 hw.2.2.1 hw.2.2.2.1 hw.2.2.2.2.1 (Nat.le_of_ble_eq_true rfl) dX4_closeYear_28 (go_nm fun σ_1 eσ_1 => ?_)
    replace hw := hw.2.2.2.2.2 σ_1 eσ_1
    refine go_aload_n C 0 rfl rfl dX4_closeYear_31 ?_
    refine go_get (v := .ref (G.2.2.1 13)) C (shX4 G) (ltX4 hN) lkX4_25 rfl dX4_closeYear_32 ?_
    refine go_iconst (v := 0) C rfl dX4_closeYear_35 ?_
    refine go_aload_n C 0 rfl rfl dX4_closeYear_36 ?_
    refine go_get (v := .ref (G.2.2.1 14)) C (shX4 G) (ltX4 hN) lkX4_28 rfl dX4_closeYear_37 ?_
    refine go_aload_n C 0 rfl rfl dX4_closeYear_40 ?_
    refine go_get (v := .int (gI σ_1 9 0)) C (shX4 G) (ltX4 hN) lkX4_49 rfl dX4_closeYear_41 ?_
    refine go_iconst (v := 2) C rfl dX4_closeYear_44 ?_
    refine go_imul C dX4_closeYear_45 ?_
    refine go_iconst (v := 2) C rfl dX4_closeYear_46 ?_
    refine go_copy (d := 0) C (rm_le hR (Nat.le_trans (by decide) hd)) (saX4_heldNow G) (laX4_heldNow hN) (saX4_heldThen G) (laX4_heldThen hN) acX4_63 ac_n ac_s ac_i hw.1 hw.2.1 hw.2.2.1 hw.2.2.2.1 hw.2.2.2.2.1 (Nat.le_of_ble_eq_true rfl) dX4_closeYear_47 (go_nm fun σ_2 eσ_2 => ?_)
    replace hw := hw.2.2.2.2.2 σ_2 eσ_2
    refine go_aload_n C 0 rfl rfl dX4_closeYear_50 ?_
    refine go_get (v := .ref (G.2.2.1 15)) C (shX4 G) (ltX4 hN) lkX4_31 rfl dX4_closeYear_51 ?_
    refine go_aload_n C 0 rfl rfl dX4_closeYear_54 ?_
    refine go_get (v := .int (gI σ_2 9 0)) C (shX4 G) (ltX4 hN) lkX4_49 rfl dX4_closeYear_55 ?_
    refine go_iload_n C 1 rfl rfl dX4_closeYear_58 ?_
    refine go_iast C (saX4_unnamedThen G) (laX4_unnamedThen hN) hw.1 dX4_closeYear_59 (go_nm fun σ_3 eσ_3 => ?_)
    replace hw := hw.2 σ_3 eσ_3
    refine go_aload_n C 0 rfl rfl dX4_closeYear_60 ?_
    refine go_dup C rfl dX4_closeYear_61 ?_
    refine go_get (v := .int (gI σ_3 9 0)) C (shX4 G) (ltX4 hN) lkX4_49 rfl dX4_closeYear_62 ?_
    refine go_iconst (v := 1) C rfl dX4_closeYear_65 ?_
    refine go_iadd C dX4_closeYear_66 ?_
    refine go_puti C (shX4 G) (ltX4 hN) lpX4_49 (show 0 < 15 by decide) (pxX4_0 G _ _) dX4_closeYear_67 (go_nm fun σ_4 eσ_4 => ?_)
    replace hw := hw σ_4 eσ_4
    exact go_vret C hr ⟨rfl, hw⟩ dX4_closeYear_70
  · replace hw := hw.2 hc
    exact go_vret C hr ⟨rfl, hw⟩ dX4_closeYear_9
-- CradleNames$Names.lengthOf(J)I
set_option maxRecDepth 20000 in
set_option maxHeartbeats 4000000 in
theorem gbX5_lengthOf_59 {X : XT} {G : GT} {l : Launch} {d : Nat}  {post : Int32 → St → Prop} (C : Cx X G cX5_lengthOf RX5) (hr : Rt X G (some .int) (fun v τ => ∃ r : Int32, v = some (.int r) ∧ post r τ)) (hR : Rm X l d) (hnl : X.2.2.2.2.2.2.2.2.2.2.1 = 8)  (hd : 1 ≤ d) (hN : 75 ≤ G.2.2.2.2.2)   
    : ∀ (v2 : Int64) (v4 : Int32) (σ : St), wbX5_lengthOf_59   post v2 v4 σ → Go X G 59 [(2, .long v2), (4, .int v4)] [] σ := by
  intro v2 v4 σ hw
  have hw : ((¬ v2 = 0 →
    post 0 σ) ∧
  (v2 = 0 →
    ((v4 < 2 →
      post 0 σ) ∧
    (¬ v4 < 2 →
      post v4 σ)))) := hw
  refine go_lload_n C 0 rfl rfl dX5_lengthOf_59 ?_
  refine go_lconst (v := 0) C rfl dX5_lengthOf_60 ?_
  refine go_lc_ne C 76 rfl dX5_lengthOf_61 dX5_lengthOf_62 (fun hc => ?_) (fun hc => ?_)
  · replace hw := hw.1 hc
    refine go_iconst (v := 0) C rfl dX5_lengthOf_76 ?_
    exact go_iret C hr ⟨_, rfl, hw⟩ dX5_lengthOf_77
  · replace hw := hw.2 hc
    refine go_iload C 1 rfl dX5_lengthOf_65 ?_
    refine go_iconst (v := 2) C rfl dX5_lengthOf_67 ?_
    refine go_icmp_lt C 76 rfl dX5_lengthOf_68 (fun hc => ?_) (fun hc => ?_)
    · replace hw := hw.1 hc
      refine go_iconst (v := 0) C rfl dX5_lengthOf_76 ?_
      exact go_iret C hr ⟨_, rfl, hw⟩ dX5_lengthOf_77
    · replace hw := hw.2 hc
      refine go_iload C 1 rfl dX5_lengthOf_71 ?_
      refine go_goto C 77 rfl dX5_lengthOf_73 ?_
      exact go_iret C hr ⟨_, rfl, hw⟩ dX5_lengthOf_77
set_option maxRecDepth 20000 in
set_option maxHeartbeats 4000000 in
theorem gbX5_lengthOf_8 {X : XT} {G : GT} {l : Launch} {d : Nat}  {post : Int32 → St → Prop} (C : Cx X G cX5_lengthOf RX5) (hr : Rt X G (some .int) (fun v τ => ∃ r : Int32, v = some (.int r) ∧ post r τ)) (hR : Rm X l d) (hnl : X.2.2.2.2.2.2.2.2.2.2.1 = 8)  (hd : 1 ≤ d) (hN : 75 ≤ G.2.2.2.2.2)   
    : ∀ (n : Nat) (v2 : Int64) (v4 : Int32) (v5 : Int32) (σ : St), wbX5_lengthOf_8   post n v2 v4 v5 σ → Go X G 8 [(2, .long v2), (4, .int v4), (5, .int v5)] [] σ := by
  intro n
  induction n with
  | zero => intro v2 v4 v5 σ hw; exact hw.elim
  | succ n ih =>
    intro v2 v4 v5 σ hw
    have hw : ((10 ≤ v5 →
      wbX5_lengthOf_59 post v2 v4 σ) ∧
    (¬ 10 ≤ v5 →
      ((v2 = 0 →
        wbX5_lengthOf_59 post v2 v4 σ) ∧
      (¬ v2 = 0 →
        ∀ v6_1 : Int64, v6_1 = (v2 &&& 31) →
        ((v6_1 < 1 →
          post 0 σ) ∧
        (¬ v6_1 < 1 →
          ((v6_1 ≤ 26 →
            ∀ v2_2 : Int64, v2_2 = (v2.toUInt64 >>> ((5 : Int32).toInt64.toUInt64 &&& Int64.toUInt64 63)).toInt64 →
            ∀ v4_3 : Int32, v4_3 = v4 + 1 →
            ∀ v5_4 : Int32, v5_4 = v5 + 1 →
            wbX5_lengthOf_8 post n v2_2 v4_3 v5_4 σ) ∧
          (¬ v6_1 ≤ 26 →
            post 0 σ)))))))) := hw
    refine go_iload C 2 rfl dX5_lengthOf_8 ?_
    refine go_bipush (v := 10) C rfl dX5_lengthOf_10 ?_
    refine go_icmp_ge C 59 rfl dX5_lengthOf_12 (fun hc => ?_) (fun hc => ?_)
    · replace hw := hw.1 hc
      refine go_sub [0, 1] rfl ?_
      exact (gbX5_lengthOf_59 C hr hR hnl hd hN) _ _ _ hw
    · replace hw := hw.2 hc
      refine go_lload_n C 0 rfl rfl dX5_lengthOf_15 ?_
      refine go_lconst (v := 0) C rfl dX5_lengthOf_16 ?_
      refine go_lc_eq C 59 rfl dX5_lengthOf_17 dX5_lengthOf_18 (fun hc => ?_) (fun hc => ?_)
      · replace hw := hw.1 hc
        refine go_sub [0, 1] rfl ?_
        exact (gbX5_lengthOf_59 C hr hR hnl hd hN) _ _ _ hw
      · replace hw := hw.2 hc
        refine go_lload_n C 0 rfl rfl dX5_lengthOf_21 ?_
        refine go_ldc2 (v := 31) C kcX5_34 dX5_lengthOf_22 ?_
        refine go_land C dX5_lengthOf_25 ?_
        refine go_topl (fun v6_1 ev6_1 => ?_)
        replace hw := hw v6_1 ev6_1
        refine go_lstore (lv2 := [(6, .long v6_1), (2, .long v2), (4, .int v4), (5, .int v5)]) C (by rw [hnl]; decide) rfl dX5_lengthOf_26 ?_
        refine go_lload C 0 rfl dX5_lengthOf_28 ?_
        refine go_lconst (v := 1) C rfl dX5_lengthOf_30 ?_
        refine go_lc_lt C 44 rfl dX5_lengthOf_31 dX5_lengthOf_32 (fun hc => ?_) (fun hc => ?_)
        · replace hw := hw.1 hc
          refine go_iconst (v := 0) C rfl dX5_lengthOf_44 ?_
          exact go_iret C hr ⟨_, rfl, hw⟩ dX5_lengthOf_45
        · replace hw := hw.2 hc
          refine go_lload C 0 rfl dX5_lengthOf_35 ?_
          refine go_ldc2 (v := 26) C kcX5_36 dX5_lengthOf_37 ?_
          refine go_lc_le C 46 rfl dX5_lengthOf_40 dX5_lengthOf_41 (fun hc => ?_) (fun hc => ?_)
          · replace hw := hw.1 hc
            refine go_lload_n C 1 rfl rfl dX5_lengthOf_46 ?_
            refine go_iconst (v := 5) C rfl dX5_lengthOf_47 ?_
            refine go_lushr C dX5_lengthOf_48 ?_
            refine go_topl (fun v2_2 ev2_2 => ?_)
            replace hw := hw v2_2 ev2_2
            refine go_lstore_n (lv2 := [(2, .long v2_2), (6, .long v6_1), (4, .int v4), (5, .int v5)]) C rfl (by rw [hnl]; decide) rfl dX5_lengthOf_49 ?_
            obtain ⟨v4_3, ev4_3⟩ : ∃ z : Int32, z = v4 + 1 := ⟨_, rfl⟩
            replace hw := hw v4_3 ev4_3
            refine go_iinc (v := v4_3) (lv2 := [(4, .int v4_3), (2, .long v2_2), (6, .long v6_1), (5, .int v5)]) C 2 rfl (by rw [ev4_3]; rfl) (by rw [hnl]; decide) rfl dX5_lengthOf_50 ?_
            obtain ⟨v5_4, ev5_4⟩ : ∃ z : Int32, z = v5 + 1 := ⟨_, rfl⟩
            replace hw := hw v5_4 ev5_4
            refine go_iinc (v := v5_4) (lv2 := [(5, .int v5_4), (4, .int v4_3), (2, .long v2_2), (6, .long v6_1)]) C 3 rfl (by rw [ev5_4]; rfl) (by rw [hnl]; decide) rfl dX5_lengthOf_53 ?_
            refine go_goto C 8 rfl dX5_lengthOf_56 ?_
            refine go_sub [2, 1, 0] rfl ?_
            exact ih _ _ _ _ hw
          · replace hw := hw.2 hc
            refine go_iconst (v := 0) C rfl dX5_lengthOf_44 ?_
            exact go_iret C hr ⟨_, rfl, hw⟩ dX5_lengthOf_45
set_option maxRecDepth 20000 in
set_option maxHeartbeats 4000000 in
theorem spX5_lengthOf {l : Launch} {G : GT} {d : Nat}  (hd : 1 ≤ d)  (hN : 75 ≤ G.2.2.2.2.2)  {a1 : Int64} {σ : St} {post : Int32 → St → Prop} (hw : wpX5_lengthOf  a1 σ post) : Sp l G d yX5_lengthOf cX5_lengthOf 8 (some .int) [.long a1] σ (fun v τ => ∃ r : Int32, v = some (.int r) ∧ post r τ) := by
  refine Sp.of (by decide) (Nat.le_of_ble_eq_true rfl) fun X C hr hR hnl => ?_
  show Go X G 0 [(0, .long a1)] [] σ
  have hw : ∃ m_8, wbX5_lengthOf_8 post m_8 a1 0 0 σ := hw
  refine go_lload_n C 0 rfl rfl dX5_lengthOf_0 ?_
  refine go_lstore_n (lv2 := [(2, .long a1), (0, .long a1)]) C rfl (by rw [hnl]; decide) rfl dX5_lengthOf_1 ?_
  refine go_iconst (v := 0) C rfl dX5_lengthOf_2 ?_
  refine go_istore (lv2 := [(4, .int 0), (2, .long a1), (0, .long a1)]) C (by rw [hnl]; decide) rfl dX5_lengthOf_3 ?_
  refine go_iconst (v := 0) C rfl dX5_lengthOf_5 ?_
  refine go_istore (lv2 := [(5, .int 0), (4, .int 0), (2, .long a1), (0, .long a1)]) C (by rw [hnl]; decide) rfl dX5_lengthOf_6 ?_
  refine go_sub [2, 1, 0] rfl ?_
  obtain ⟨n_0, hw⟩ := hw
  exact (gbX5_lengthOf_8 C hr hR hnl hd hN) n_0 _ _ _ _ hw
-- CradleNames$Names.has(I)Z
set_option maxRecDepth 20000 in
set_option maxHeartbeats 4000000 in
theorem spX5_has {l : Launch} {G : GT} {d : Nat}  (hd : 1 ≤ d)  (hN : 75 ≤ G.2.2.2.2.2)  {a1 : Int32} {σ : St} {post : Int32 → St → Prop} (hw : wpX5_has  a1 σ post) : Sp l G d yX5_has cX5_has 2 (some .boolean) [.ref (G.2.2.1 1), .int a1] σ (fun v τ => ∃ r : Int32, v = some (.int r) ∧ post r τ) := by
  refine Sp.of (by decide) (Nat.le_of_ble_eq_true rfl) fun X C hr hR hnl => ?_
  show Go X G 0 [(0, .ref (G.2.2.1 1)), (1, .int a1)] [] σ
  have hw : ((a1 < 0 →
    post 0 σ) ∧
  (¬ a1 < 0 →
    (((gI σ 1 0) ≤ a1 →
      post 0 σ) ∧
    (¬ (gI σ 1 0) ≤ a1 →
      post 1 σ)))) := hw
  refine go_iload_n C 1 rfl rfl dX5_has_0 ?_
  refine go_if_lt C 16 rfl dX5_has_1 (fun hc => ?_) (fun hc => ?_)
  · replace hw := hw.1 hc
    refine go_iconst (v := 0) C rfl dX5_has_16 ?_
    exact go_zret C hr rfl ⟨_, rfl, hw⟩ dX5_has_17
  · replace hw := hw.2 hc
    refine go_iload_n C 1 rfl rfl dX5_has_4 ?_
    refine go_aload_n C 0 rfl rfl dX5_has_5 ?_
    refine go_get (v := .int (gI σ 1 0)) C (shX5 G) (ltX5 hN) lkX5_38 rfl dX5_has_6 ?_
    refine go_icmp_ge C 16 rfl dX5_has_9 (fun hc => ?_) (fun hc => ?_)
    · replace hw := hw.1 hc
      refine go_iconst (v := 0) C rfl dX5_has_16 ?_
      exact go_zret C hr rfl ⟨_, rfl, hw⟩ dX5_has_17
    · replace hw := hw.2 hc
      refine go_iconst (v := 1) C rfl dX5_has_12 ?_
      refine go_goto C 17 rfl dX5_has_13 ?_
      exact go_zret C hr rfl ⟨_, rfl, hw⟩ dX5_has_17
-- CradleNames$Names.knows(J)Z
set_option maxRecDepth 20000 in
set_option maxHeartbeats 4000000 in
theorem gbX5_knows_2 {X : XT} {G : GT} {l : Launch} {d : Nat}  {post : Int32 → St → Prop} (C : Cx X G cX5_knows RX5) (hr : Rt X G (some .boolean) (fun v τ => ∃ r : Int32, v = some (.int r) ∧ post r τ)) (hR : Rm X l d) (hnl : X.2.2.2.2.2.2.2.2.2.2.1 = 4)  (hd : 1 ≤ d) (hN : 75 ≤ G.2.2.2.2.2)   
    : ∀ (n : Nat) (v1 : Int64) (v3 : Int32) (σ : St), wbX5_knows_2   post n v1 v3 σ → Go X G 2 [(0, .ref (G.2.2.1 1)), (1, .long v1), (3, .int v3)] [] σ := by
  intro n
  induction n with
  | zero => intro v1 v3 σ hw; exact hw.elim
  | succ n ih =>
    intro v1 v3 σ hw
    have hw : (((gI σ 1 0) ≤ v3 →
      post 0 σ) ∧
    (¬ (gI σ 1 0) ≤ v3 →
      vp_in v3 16 ∧ (
      ((¬ (gL σ 2 v3.toNatClampNeg) = v1 →
        ∀ v3_1 : Int32, v3_1 = v3 + 1 →
        wbX5_knows_2 post n v1 v3_1 σ) ∧
      ((gL σ 2 v3.toNatClampNeg) = v1 →
        post 1 σ))))) := hw
    refine go_iload_n C 2 rfl rfl dX5_knows_2 ?_
    refine go_aload_n C 0 rfl rfl dX5_knows_3 ?_
    refine go_get (v := .int (gI σ 1 0)) C (shX5 G) (ltX5 hN) lkX5_38 rfl dX5_knows_4 ?_
    refine go_icmp_ge C 29 rfl dX5_knows_7 (fun hc => ?_) (fun hc => ?_)
    · replace hw := hw.1 hc
      refine go_iconst (v := 0) C rfl dX5_knows_29 ?_
      exact go_zret C hr rfl ⟨_, rfl, hw⟩ dX5_knows_30
    · replace hw := hw.2 hc
      refine go_aload_n C 0 rfl rfl dX5_knows_10 ?_
      refine go_get (v := .ref (G.2.2.1 2)) C (shX5 G) (ltX5 hN) lkX5_9 rfl dX5_knows_11 ?_
      refine go_iload_n C 2 rfl rfl dX5_knows_14 ?_
      refine go_lald C (saX5_letters G) (laX5_letters hN) hw.1 dX5_knows_15 ?_
      replace hw := hw.2
      refine go_lload_n C 1 rfl rfl dX5_knows_16 ?_
      refine go_lc_ne C 23 rfl dX5_knows_17 dX5_knows_18 (fun hc => ?_) (fun hc => ?_)
      · replace hw := hw.1 hc
        obtain ⟨v3_1, ev3_1⟩ : ∃ z : Int32, z = v3 + 1 := ⟨_, rfl⟩
        replace hw := hw v3_1 ev3_1
        refine go_iinc (v := v3_1) (lv2 := [(3, .int v3_1), (0, .ref (G.2.2.1 1)), (1, .long v1)]) C 2 rfl (by rw [ev3_1]; rfl) (by rw [hnl]; decide) rfl dX5_knows_23 ?_
        refine go_goto C 2 rfl dX5_knows_26 ?_
        refine go_sub [1, 2, 0] rfl ?_
        exact ih _ _ _ hw
      · replace hw := hw.2 hc
        refine go_iconst (v := 1) C rfl dX5_knows_21 ?_
        exact go_zret C hr rfl ⟨_, rfl, hw⟩ dX5_knows_22
set_option maxRecDepth 20000 in
set_option maxHeartbeats 4000000 in
theorem spX5_knows {l : Launch} {G : GT} {d : Nat}  (hd : 1 ≤ d)  (hN : 75 ≤ G.2.2.2.2.2)  {a1 : Int64} {σ : St} {post : Int32 → St → Prop} (hw : wpX5_knows  a1 σ post) : Sp l G d yX5_knows cX5_knows 4 (some .boolean) [.ref (G.2.2.1 1), .long a1] σ (fun v τ => ∃ r : Int32, v = some (.int r) ∧ post r τ) := by
  refine Sp.of (by decide) (Nat.le_of_ble_eq_true rfl) fun X C hr hR hnl => ?_
  show Go X G 0 [(0, .ref (G.2.2.1 1)), (1, .long a1)] [] σ
  have hw : ∃ m_2, wbX5_knows_2 post m_2 a1 0 σ := hw
  refine go_iconst (v := 0) C rfl dX5_knows_0 ?_
  refine go_istore_n (lv2 := [(3, .int 0), (0, .ref (G.2.2.1 1)), (1, .long a1)]) C rfl (by rw [hnl]; decide) rfl dX5_knows_1 ?_
  refine go_sub [1, 2, 0] rfl ?_
  obtain ⟨n_0, hw⟩ := hw
  exact (gbX5_knows_2 C hr hR hnl hd hN) n_0 _ _ _ hw
-- CradleNames$Names.letterAt(JI)C
set_option maxRecDepth 20000 in
set_option maxHeartbeats 4000000 in
theorem spX5_letterAt {l : Launch} {G : GT} {d : Nat}  (hd : 1 ≤ d)  (hN : 75 ≤ G.2.2.2.2.2)  {a1 : Int64} {a2 : Int32} {σ : St} {post : Int32 → St → Prop} (hw : wpX5_letterAt  a1 a2 σ post) : Sp l G d yX5_letterAt cX5_letterAt 3 (some .char) [.long a1, .int a2] σ (fun v τ => ∃ r : Int32, v = some (.int r) ∧ post r τ) := by
  refine Sp.of (by decide) (Nat.le_of_ble_eq_true rfl) fun X C hr hR hnl => ?_
  show Go X G 0 [(0, .long a1), (2, .int a2)] [] σ
  have hw : post (((96 + ((a1.toUInt64 >>> ((5 * a2).toInt64.toUInt64 &&& Int64.toUInt64 63)).toInt64 &&& 31).toInt32).toUInt32 % 65536).toInt32) σ := hw
  refine go_bipush (v := 96) C rfl dX5_letterAt_0 ?_
  refine go_lload_n C 0 rfl rfl dX5_letterAt_2 ?_
  refine go_iconst (v := 5) C rfl dX5_letterAt_3 ?_
  refine go_iload_n C 1 rfl rfl dX5_letterAt_4 ?_
  refine go_imul C dX5_letterAt_5 ?_
  refine go_lushr C dX5_letterAt_6 ?_
  refine go_ldc2 (v := 31) C kcX5_34 dX5_letterAt_7 ?_
  refine go_land C dX5_letterAt_10 ?_
  refine go_l2i C dX5_letterAt_11 ?_
  refine go_iadd C dX5_letterAt_12 ?_
  refine go_i2c C dX5_letterAt_13 ?_
  exact go_zret C hr (pk_nc _) ⟨_, rfl, hw⟩ dX5_letterAt_14
