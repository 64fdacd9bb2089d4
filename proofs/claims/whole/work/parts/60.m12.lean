-- CradleNamesModel.runs(IIZI)V
set_option maxRecDepth 20000 in
set_option maxHeartbeats 4000000 in
theorem gbX12_runs_261 {X : XT} {G : GT} {l : Launch} {d : Nat}  {post : St → Prop} (C : Cx X G cX12_runs RX12) (hr : Rt X G none (fun v τ => v = none ∧ post τ)) (hR : Rm X l d) (hnl : X.2.2.2.2.2.2.2.2.2.2.1 = 10)  (hd : 8 ≤ d) (hN : 119 ≤ G.2.2.2.2.2)  {K214 : Int32 → Int32 → Int32 → Int32 → Int32 → Int32 → Int32 → St → Prop} (hK214 : ∀ (v1 : Int32) (v2 : Int32) (v3 : Int32) (v4 : Int32) (v5 : Int32) (v6 : Int32) (v7 : Int32) (σ : St), K214 v1 v2 v3 v4 v5 v6 v7 σ → Go X G 214 [(0, .ref (G.2.2.1 75)), (1, .int v1), (2, .int v2), (3, .int v3), (4, .int v4), (5, .int v5), (6, .int v6), (7, .int v7)] [] σ)
    : ∀ (n : Nat) (v1 : Int32) (v2 : Int32) (v3 : Int32) (v4 : Int32) (v5 : Int32) (v6 : Int32) (v7 : Int32) (v8 : Int32) (v9 : Int32) (σ : St), wbX12_runs_261  K214 post n v1 v2 v3 v4 v5 v6 v7 v8 v9 σ → Go X G 261 [(0, .ref (G.2.2.1 75)), (1, .int v1), (2, .int v2), (3, .int v3), (4, .int v4), (5, .int v5), (6, .int v6), (7, .int v7), (8, .int v8), (9, .int v9)] [] σ := by
  intro n
  induction n with
  | zero => intro v1 v2 v3 v4 v5 v6 v7 v8 v9 σ hw; exact hw.elim
  | succ n ih =>
    intro v1 v2 v3 v4 v5 v6 v7 v8 v9 σ hw
    have hw : ((v8 ≤ v9 →
      ∀ v7_1 : Int32, v7_1 = v7 + 1 →
      K214 v1 v2 v3 v4 v5 v6 v7_1 σ) ∧
    (¬ v8 ≤ v9 →
      wpX12_rocks v5 (v7 / 4) ((v7 / 2) - (v7 / 2) / 2 * 2) (v7 - v7 / 2 * 2) σ (fun σ_3 =>
      ∀ v9_4 : Int32, v9_4 = v9 + 1 →
      wbX12_runs_261 K214 post n v1 v2 v3 v4 v5 v6 v7 v8 v9_4 σ_3))) := hw
    refine go_iload C 9 rfl dX12_runs_261 ?_
    refine go_iload C 8 rfl dX12_runs_263 ?_
    refine go_icmp_ge C 294 rfl dX12_runs_265 (fun hc => ?_) (fun hc => ?_)
    · replace hw := hw.1 hc
      obtain ⟨v7_1, ev7_1⟩ : ∃ z : Int32, z = v7 + 1 := ⟨_, rfl⟩
      replace hw := hw v7_1 ev7_1
      refine go_iinc (v := v7_1) (lv2 := [(7, .int v7_1), (0, .ref (G.2.2.1 75)), (1, .int v1), (2, .int v2), (3, .int v3), (4, .int v4), (5, .int v5), (6, .int v6), (8, .int v8), (9, .int v9)]) C 7 rfl (by rw [ev7_1]; rfl) (by rw [hnl]; decide) rfl dX12_runs_294 ?_
      refine go_goto C 214 rfl dX12_runs_297 ?_
      refine go_sub [1, 2, 3, 4, 5, 6, 7, 0] rfl ?_
      exact hK214 _ _ _ _ _ _ _ _ hw
    · replace hw := hw.2 hc
      refine go_aload_n C 0 rfl rfl dX12_runs_268 ?_
      refine go_iload C 5 rfl dX12_runs_269 ?_
      refine go_iload C 7 rfl dX12_runs_271 ?_
      refine go_iconst (v := 4) C rfl dX12_runs_273 ?_
      refine go_idiv C (by decide) dX12_runs_274 ?_
      refine go_iload C 7 rfl dX12_runs_275 ?_
      refine go_iconst (v := 2) C rfl dX12_runs_277 ?_
      refine go_idiv C (by decide) dX12_runs_278 ?_
      refine go_iconst (v := 2) C rfl dX12_runs_279 ?_
      refine go_irem C (by decide) dX12_runs_280 ?_
      refine go_iload C 7 rfl dX12_runs_281 ?_
      refine go_iconst (v := 2) C rfl dX12_runs_283 ?_
      refine go_irem C (by decide) dX12_runs_284 ?_
      refine go_callV (as := [.int v5, .int (v7 / 4), .int ((v7 / 2) - (v7 / 2) / 2 * 2), .int (v7 - v7 / 2 * 2)]) C hR (shX12 G) (ltX12 hN) cwX12_424 (Nat.le_trans (by decide) hd) (by decide) rfl rfl (Nat.le_of_ble_eq_true rfl) dX12_runs_285 (spX12_rocks (Nat.le_refl _) hN hw) (fun v_ τ_ hw => ?_)
      obtain ⟨rfl, hw⟩ := hw
      obtain ⟨σ_3, rfl⟩ : ∃ z, z = τ_ := ⟨_, rfl⟩
      obtain ⟨v9_4, ev9_4⟩ : ∃ z : Int32, z = v9 + 1 := ⟨_, rfl⟩
      replace hw := hw v9_4 ev9_4
      refine go_iinc (v := v9_4) (lv2 := [(9, .int v9_4), (0, .ref (G.2.2.1 75)), (1, .int v1), (2, .int v2), (3, .int v3), (4, .int v4), (5, .int v5), (6, .int v6), (7, .int v7), (8, .int v8)]) C 9 rfl (by rw [ev9_4]; rfl) (by rw [hnl]; decide) rfl dX12_runs_288 ?_
      refine go_goto C 261 rfl dX12_runs_291 ?_
      refine go_sub [1, 2, 3, 4, 5, 6, 7, 8, 9, 0] rfl ?_
      exact ih _ _ _ _ _ _ _ _ _ _ hw
set_option maxRecDepth 20000 in
set_option maxHeartbeats 4000000 in
theorem gbX12_runs_214 {X : XT} {G : GT} {l : Launch} {d : Nat}  {post : St → Prop} (C : Cx X G cX12_runs RX12) (hr : Rt X G none (fun v τ => v = none ∧ post τ)) (hR : Rm X l d) (hnl : X.2.2.2.2.2.2.2.2.2.2.1 = 10)  (hd : 8 ≤ d) (hN : 119 ≤ G.2.2.2.2.2)  {K108 : Int32 → Int32 → Int32 → Int32 → Int32 → St → Prop} (hK108 : ∀ (v1 : Int32) (v2 : Int32) (v3 : Int32) (v4 : Int32) (v5 : Int32) (σ : St), K108 v1 v2 v3 v4 v5 σ → Go X G 108 [(0, .ref (G.2.2.1 75)), (1, .int v1), (2, .int v2), (3, .int v3), (4, .int v4), (5, .int v5)] [] σ)
    : ∀ (n : Nat) (v1 : Int32) (v2 : Int32) (v3 : Int32) (v4 : Int32) (v5 : Int32) (v6 : Int32) (v7 : Int32) (σ : St), wbX12_runs_214  K108 post n v1 v2 v3 v4 v5 v6 v7 σ → Go X G 214 [(0, .ref (G.2.2.1 75)), (1, .int v1), (2, .int v2), (3, .int v3), (4, .int v4), (5, .int v5), (6, .int v6), (7, .int v7)] [] σ := by
  intro n
  induction n with
  | zero => intro v1 v2 v3 v4 v5 v6 v7 σ hw; exact hw.elim
  | succ n ih =>
    intro v1 v2 v3 v4 v5 v6 v7 σ hw
    have hw : ((12 ≤ v7 →
      ∀ v5_1 : Int32, v5_1 = v5 + 1 →
      K108 v1 v2 v3 v4 v5_1 σ) ∧
    (¬ 12 ≤ v7 →
      ((v6 = 0 →
        vp_in (10 + v7) 9680 ∧ (
        ∀ v8_2 : Int32, v8_2 = (gI σ 76 (10 + v7).toNatClampNeg) →
        ∃ m_261, wbX12_runs_261 (wbX12_runs_214 K108 post n) post m_261 v1 v2 v3 v4 v5 v6 v7 v8_2 0 σ)) ∧
      (¬ v6 = 0 →
        vp_in ((1000 + (14 * v5)) + v7) 9680 ∧ (
        ∀ v8_3 : Int32, v8_3 = (gI σ 76 ((1000 + (14 * v5)) + v7).toNatClampNeg) →
        ∃ m_261, wbX12_runs_261 (wbX12_runs_214 K108 post n) post m_261 v1 v2 v3 v4 v5 v6 v7 v8_3 0 σ))))) := hw
    refine go_iload C 7 rfl dX12_runs_214 ?_
    refine go_bipush (v := 12) C rfl dX12_runs_216 ?_
    refine go_icmp_ge C 300 rfl dX12_runs_218 (fun hc => ?_) (fun hc => ?_)
    · replace hw := hw.1 hc
      obtain ⟨v5_1, ev5_1⟩ : ∃ z : Int32, z = v5 + 1 := ⟨_, rfl⟩
      replace hw := hw v5_1 ev5_1
      refine go_iinc (v := v5_1) (lv2 := [(5, .int v5_1), (0, .ref (G.2.2.1 75)), (1, .int v1), (2, .int v2), (3, .int v3), (4, .int v4), (6, .int v6), (7, .int v7)]) C 5 rfl (by rw [ev5_1]; rfl) (by rw [hnl]; decide) rfl dX12_runs_300 ?_
      refine go_goto C 108 rfl dX12_runs_303 ?_
      refine go_sub [1, 2, 3, 4, 5, 0] rfl ?_
      exact hK108 _ _ _ _ _ _ hw
    · replace hw := hw.2 hc
      refine go_iload C 6 rfl dX12_runs_221 ?_
      refine go_if_eq C 246 rfl dX12_runs_223 (fun hc => ?_) (fun hc => ?_)
      · replace hw := hw.1 hc
        refine go_aload_n C 0 rfl rfl dX12_runs_246 ?_
        refine go_get (v := .ref (G.2.2.1 76)) C (shX12 G) (ltX12 hN) lkX12_7 rfl dX12_runs_247 ?_
        refine go_bipush (v := 10) C rfl dX12_runs_250 ?_
        refine go_iload C 7 rfl dX12_runs_252 ?_
        refine go_iadd C dX12_runs_254 ?_
        refine go_iald C (saX12_a G) (laX12_a hN) hw.1 dX12_runs_255 ?_
        replace hw := hw.2
        refine go_topi (fun v8_2 ev8_2 => ?_)
        replace hw := hw v8_2 ev8_2
        refine go_istore (lv2 := [(8, .int v8_2), (0, .ref (G.2.2.1 75)), (1, .int v1), (2, .int v2), (3, .int v3), (4, .int v4), (5, .int v5), (6, .int v6), (7, .int v7)]) C (by rw [hnl]; decide) rfl dX12_runs_256 ?_
        refine go_iconst (v := 0) C rfl dX12_runs_258 ?_
        refine go_istore (lv2 := [(9, .int 0), (8, .int v8_2), (0, .ref (G.2.2.1 75)), (1, .int v1), (2, .int v2), (3, .int v3), (4, .int v4), (5, .int v5), (6, .int v6), (7, .int v7)]) C (by rw [hnl]; decide) rfl dX12_runs_259 ?_
        refine go_sub [2, 3, 4, 5, 6, 7, 8, 9, 1, 0] rfl ?_
        obtain ⟨n_0, hw⟩ := hw
        exact (gbX12_runs_261 C hr hR hnl hd hN ih) n_0 _ _ _ _ _ _ _ _ _ _ hw
      · replace hw := hw.2 hc
        refine go_aload_n C 0 rfl rfl dX12_runs_226 ?_
        refine go_get (v := .ref (G.2.2.1 76)) C (shX12 G) (ltX12 hN) lkX12_7 rfl dX12_runs_227 ?_
        refine go_sipush (v := 1000) C rfl dX12_runs_230 ?_
        refine go_bipush (v := 14) C rfl dX12_runs_233 ?_
        refine go_iload C 5 rfl dX12_runs_235 ?_
        refine go_imul C dX12_runs_237 ?_
        refine go_iadd C dX12_runs_238 ?_
        refine go_iload C 7 rfl dX12_runs_239 ?_
        refine go_iadd C dX12_runs_241 ?_
        refine go_iald C (saX12_a G) (laX12_a hN) hw.1 dX12_runs_242 ?_
        replace hw := hw.2
        refine go_goto C 256 rfl dX12_runs_243 ?_
        refine go_topi (fun v8_3 ev8_3 => ?_)
        replace hw := hw v8_3 ev8_3
        refine go_istore (lv2 := [(8, .int v8_3), (0, .ref (G.2.2.1 75)), (1, .int v1), (2, .int v2), (3, .int v3), (4, .int v4), (5, .int v5), (6, .int v6), (7, .int v7)]) C (by rw [hnl]; decide) rfl dX12_runs_256 ?_
        refine go_iconst (v := 0) C rfl dX12_runs_258 ?_
        refine go_istore (lv2 := [(9, .int 0), (8, .int v8_3), (0, .ref (G.2.2.1 75)), (1, .int v1), (2, .int v2), (3, .int v3), (4, .int v4), (5, .int v5), (6, .int v6), (7, .int v7)]) C (by rw [hnl]; decide) rfl dX12_runs_259 ?_
        refine go_sub [2, 3, 4, 5, 6, 7, 8, 9, 1, 0] rfl ?_
        obtain ⟨n_0, hw⟩ := hw
        exact (gbX12_runs_261 C hr hR hnl hd hN ih) n_0 _ _ _ _ _ _ _ _ _ _ hw
set_option maxRecDepth 20000 in
set_option maxHeartbeats 4000000 in
theorem gbX12_runs_27 {X : XT} {G : GT} {l : Launch} {d : Nat}  {post : St → Prop} (C : Cx X G cX12_runs RX12) (hr : Rt X G none (fun v τ => v = none ∧ post τ)) (hR : Rm X l d) (hnl : X.2.2.2.2.2.2.2.2.2.2.1 = 10)  (hd : 8 ≤ d) (hN : 119 ≤ G.2.2.2.2.2)  {K17 : Int32 → Int32 → Int32 → Int32 → Int32 → Int32 → St → Prop} (hK17 : ∀ (v1 : Int32) (v2 : Int32) (v3 : Int32) (v4 : Int32) (v5 : Int32) (v6 : Int32) (σ : St), K17 v1 v2 v3 v4 v5 v6 σ → Go X G 17 [(0, .ref (G.2.2.1 75)), (1, .int v1), (2, .int v2), (3, .int v3), (4, .int v4), (5, .int v5), (6, .int v6)] [] σ)
    : ∀ (n : Nat) (v1 : Int32) (v2 : Int32) (v3 : Int32) (v4 : Int32) (v5 : Int32) (v6 : Int32) (v7 : Int32) (σ : St), wbX12_runs_27  K17 post n v1 v2 v3 v4 v5 v6 v7 σ → Go X G 27 [(0, .ref (G.2.2.1 75)), (1, .int v1), (2, .int v2), (3, .int v3), (4, .int v4), (5, .int v5), (6, .int v6), (7, .int v7)] [] σ := by
  intro n
  induction n with
  | zero => intro v1 v2 v3 v4 v5 v6 v7 σ hw; exact hw.elim
  | succ n ih =>
    intro v1 v2 v3 v4 v5 v6 v7 σ hw
    have hw : vp_in 1 9680 ∧ (
    (((gI σ 76 (1 : Int32).toNatClampNeg) ≤ v7 →
      ∀ v6_1 : Int32, v6_1 = v6 + 1 →
      K17 v1 v2 v3 v4 v5 v6_1 σ) ∧
    (¬ (gI σ 76 (1 : Int32).toNatClampNeg) ≤ v7 →
      vp_in (((2000 + ((v5 - 1) * 192)) + (v6 * 16)) + v7) 9680 ∧ (
      wpX12_gives (-v5) (v6 / 4) ((v6 / 2) - (v6 / 2) / 2 * 2) (v6 - v6 / 2 * 2) v7 (gI σ 76 (((2000 + ((v5 - 1) * 192)) + (v6 * 16)) + v7).toNatClampNeg) σ (fun σ_3 =>
      ∀ v7_4 : Int32, v7_4 = v7 + 1 →
      wbX12_runs_27 K17 post n v1 v2 v3 v4 v5 v6 v7_4 σ_3))))) := hw
    refine go_iload C 7 rfl dX12_runs_27 ?_
    refine go_aload_n C 0 rfl rfl dX12_runs_29 ?_
    refine go_get (v := .ref (G.2.2.1 76)) C (shX12 G) (ltX12 hN) lkX12_7 rfl dX12_runs_30 ?_
    refine go_iconst (v := 1) C rfl dX12_runs_33 ?_
    refine go_iald C (saX12_a G) (laX12_a hN) hw.1 dX12_runs_34 ?_
    replace hw := hw.2
    refine go_icmp_ge C 93 rfl dX12_runs_35 (fun hc => ?_) (fun hc => ?_)
    · replace hw := hw.1 hc
      obtain ⟨v6_1, ev6_1⟩ : ∃ z : Int32, z = v6 + 1 := ⟨_, rfl⟩
      replace hw := hw v6_1 ev6_1
      refine go_iinc (v := v6_1) (lv2 := [(6, .int v6_1), (0, .ref (G.2.2.1 75)), (1, .int v1), (2, .int v2), (3, .int v3), (4, .int v4), (5, .int v5), (7, .int v7)]) C 6 rfl (by rw [ev6_1]; rfl) (by rw [hnl]; decide) rfl dX12_runs_93 ?_
      refine go_goto C 17 rfl dX12_runs_96 ?_
      refine go_sub [1, 2, 3, 4, 5, 6, 0] rfl ?_
      exact hK17 _ _ _ _ _ _ _ hw
    · replace hw := hw.2 hc
      refine go_aload_n C 0 rfl rfl dX12_runs_38 ?_
      refine go_iload C 5 rfl dX12_runs_39 ?_
      refine go_ineg C dX12_runs_41 ?_
      refine go_iload C 6 rfl dX12_runs_42 ?_
      refine go_iconst (v := 4) C rfl dX12_runs_44 ?_
      refine go_idiv C (by decide) dX12_runs_45 ?_
      refine go_iload C 6 rfl dX12_runs_46 ?_
      refine go_iconst (v := 2) C rfl dX12_runs_48 ?_
      refine go_idiv C (by decide) dX12_runs_49 ?_
      refine go_iconst (v := 2) C rfl dX12_runs_50 ?_
      refine go_irem C (by decide) dX12_runs_51 ?_
      refine go_iload C 6 rfl dX12_runs_52 ?_
      refine go_iconst (v := 2) C rfl dX12_runs_54 ?_
      refine go_irem C (by decide) dX12_runs_55 ?_
      refine go_iload C 7 rfl dX12_runs_56 ?_
      refine go_aload_n C 0 rfl rfl dX12_runs_58 ?_
      refine go_get (v := .ref (G.2.2.1 76)) C (shX12 G) (ltX12 hN) lkX12_7 rfl dX12_runs_59 ?_
      refine go_sipush (v := 2000) C rfl dX12_runs_62 ?_
      refine go_iload C 5 rfl dX12_runs_65 ?_
      refine go_iconst (v := 1) C rfl dX12_runs_67 ?_
      refine go_isub C dX12_runs_68 ?_
      refine go_sipush (v := 192) C rfl dX12_runs_69 ?_
      refine go_imul C dX12_runs_72 ?_
      refine go_iadd C dX12_runs_73 ?_
      refine go_iload C 6 rfl dX12_runs_74 ?_
      refine go_bipush (v := 16) C rfl dX12_runs_76 ?_
      refine go_imul C dX12_runs_78 ?_
      refine go_iadd C dX12_runs_79 ?_
      refine go_iload C 7 rfl dX12_runs_80 ?_
      refine go_iadd C dX12_runs_82 ?_
      refine go_iald C (saX12_a G) (laX12_a hN) hw.1 dX12_runs_83 ?_
      replace hw := hw.2
      refine go_callV (as := [.int (-v5), .int (v6 / 4), .int ((v6 / 2) - (v6 / 2) / 2 * 2), .int (v6 - v6 / 2 * 2), .int v7, .int (gI σ 76 (((2000 + ((v5 - 1) * 192)) + (v6 * 16)) + v7).toNatClampNeg)]) C hR (shX12 G) (ltX12 hN) cwX12_416 (Nat.le_trans (by decide) hd) (by decide) rfl rfl (Nat.le_of_ble_eq_true rfl) dX12_runs_84 (spX12_gives (Nat.le_refl _) hN hw) (fun v_ τ_ hw => ?_)
      obtain ⟨rfl, hw⟩ := hw
      obtain ⟨σ_3, rfl⟩ : ∃ z, z = τ_ := ⟨_, rfl⟩
      obtain ⟨v7_4, ev7_4⟩ : ∃ z : Int32, z = v7 + 1 := ⟨_, rfl⟩
      replace hw := hw v7_4 ev7_4
      refine go_iinc (v := v7_4) (lv2 := [(7, .int v7_4), (0, .ref (G.2.2.1 75)), (1, .int v1), (2, .int v2), (3, .int v3), (4, .int v4), (5, .int v5), (6, .int v6)]) C 7 rfl (by rw [ev7_4]; rfl) (by rw [hnl]; decide) rfl dX12_runs_87 ?_
      refine go_goto C 27 rfl dX12_runs_90 ?_
      refine go_sub [1, 2, 3, 4, 5, 6, 7, 0] rfl ?_
      exact ih _ _ _ _ _ _ _ _ hw
set_option maxRecDepth 20000 in
set_option maxHeartbeats 4000000 in
theorem gbX12_runs_135 {X : XT} {G : GT} {l : Launch} {d : Nat}  {post : St → Prop} (C : Cx X G cX12_runs RX12) (hr : Rt X G none (fun v τ => v = none ∧ post τ)) (hR : Rm X l d) (hnl : X.2.2.2.2.2.2.2.2.2.2.1 = 10)  (hd : 8 ≤ d) (hN : 119 ≤ G.2.2.2.2.2)  {K108 : Int32 → Int32 → Int32 → Int32 → Int32 → St → Prop} (hK108 : ∀ (v1 : Int32) (v2 : Int32) (v3 : Int32) (v4 : Int32) (v5 : Int32) (σ : St), K108 v1 v2 v3 v4 v5 σ → Go X G 108 [(0, .ref (G.2.2.1 75)), (1, .int v1), (2, .int v2), (3, .int v3), (4, .int v4), (5, .int v5)] [] σ)
    : ∀ (n : Nat) (v1 : Int32) (v2 : Int32) (v3 : Int32) (v4 : Int32) (v5 : Int32) (v6 : Int32) (v7 : Int32) (σ : St), wbX12_runs_135  K108 post n v1 v2 v3 v4 v5 v6 v7 σ → Go X G 135 [(0, .ref (G.2.2.1 75)), (1, .int v1), (2, .int v2), (3, .int v3), (4, .int v4), (5, .int v5), (6, .int v6), (7, .int v7)] [] σ := by
  intro n
  induction n with
  | zero => intro v1 v2 v3 v4 v5 v6 v7 σ hw; exact hw.elim
  | succ n ih =>
    intro v1 v2 v3 v4 v5 v6 v7 σ hw
    have hw : ((2 ≤ v7 →
      wpX12_lays v5 v2 v3 σ (fun σ_2 =>
      ∃ m_214, wbX12_runs_214 K108 post m_214 v1 v2 v3 v4 v5 v6 0 σ_2)) ∧
    (¬ 2 ≤ v7 →
      ((v4 = (-1) →
        ((v6 = 0 →
          vp_in (7 + v7) 9680 ∧ (
          vp_in v7 2 ∧ (
          ∀ σ_3 : St, σ_3 = sI σ 104 v7.toNatClampNeg (gI σ 76 (7 + v7).toNatClampNeg) →
          ∀ v7_4 : Int32, v7_4 = v7 + 1 →
          wbX12_runs_135 K108 post n v1 v2 v3 v4 v5 v6 v7_4 σ_3))) ∧
        (¬ v6 = 0 →
          vp_in (((1000 + (14 * v5)) + 12) + v7) 9680 ∧ (
          vp_in v7 2 ∧ (
          ∀ σ_5 : St, σ_5 = sI σ 104 v7.toNatClampNeg (gI σ 76 (((1000 + (14 * v5)) + 12) + v7).toNatClampNeg) →
          ∀ v7_6 : Int32, v7_6 = v7 + 1 →
          wbX12_runs_135 K108 post n v1 v2 v3 v4 v5 v6 v7_6 σ_5))))) ∧
      (¬ v4 = (-1) →
        vp_in v7 2 ∧ (
        ∀ σ_7 : St, σ_7 = sI σ 104 v7.toNatClampNeg v4 →
        ∀ v7_8 : Int32, v7_8 = v7 + 1 →
        wbX12_runs_135 K108 post n v1 v2 v3 v4 v5 v6 v7_8 σ_7))))) := hw
    refine go_iload C 7 rfl dX12_runs_135 ?_
    refine go_iconst (v := 2) C rfl dX12_runs_137 ?_
    refine go_icmp_ge C 203 rfl dX12_runs_138 (fun hc => ?_) (fun hc => ?_)
    · replace hw := hw.1 hc
      refine go_aload_n C 0 rfl rfl dX12_runs_203 ?_
      refine go_iload C 5 rfl dX12_runs_204 ?_
      refine go_iload_n C 2 rfl rfl dX12_runs_206 ?_
      refine go_iload_n C 3 rfl rfl dX12_runs_207 ?_
      refine go_callV (as := [.int v5, .int v2, .int v3]) C hR (shX12 G) (ltX12 hN) cwX12_420 (Nat.le_trans (by decide) hd) (by decide) rfl rfl (Nat.le_of_ble_eq_true rfl) dX12_runs_208 (spX12_lays (Nat.le_refl _) hN hw) (fun v_ τ_ hw => ?_)
      obtain ⟨rfl, hw⟩ := hw
      obtain ⟨σ_2, rfl⟩ : ∃ z, z = τ_ := ⟨_, rfl⟩
      refine go_iconst (v := 0) C rfl dX12_runs_211 ?_
      refine go_istore (lv2 := [(7, .int 0), (0, .ref (G.2.2.1 75)), (1, .int v1), (2, .int v2), (3, .int v3), (4, .int v4), (5, .int v5), (6, .int v6)]) C (by rw [hnl]; decide) rfl dX12_runs_212 ?_
      refine go_sub [1, 2, 3, 4, 5, 6, 7, 0] rfl ?_
      obtain ⟨n_0, hw⟩ := hw
      exact (gbX12_runs_214 C hr hR hnl hd hN hK108) n_0 _ _ _ _ _ _ _ _ hw
    · replace hw := hw.2 hc
      refine go_aload_n C 0 rfl rfl dX12_runs_141 ?_
      refine go_get (v := .ref (G.2.2.1 104)) C (shX12 G) (ltX12 hN) lkX12_103 rfl dX12_runs_142 ?_
      refine go_iload C 7 rfl dX12_runs_145 ?_
      refine go_iload C 4 rfl dX12_runs_147 ?_
      refine go_iconst (v := (-1)) C rfl dX12_runs_149 ?_
      refine go_icmp_eq C 158 rfl dX12_runs_150 (fun hc => ?_) (fun hc => ?_)
      · replace hw := hw.1 hc
        refine go_iload C 6 rfl dX12_runs_158 ?_
        refine go_if_eq C 186 rfl dX12_runs_160 (fun hc => ?_) (fun hc => ?_)
        · replace hw := hw.1 hc
          refine go_aload_n C 0 rfl rfl dX12_runs_186 ?_
          refine go_get (v := .ref (G.2.2.1 76)) C (shX12 G) (ltX12 hN) lkX12_7 rfl dX12_runs_187 ?_
          refine go_bipush (v := 7) C rfl dX12_runs_190 ?_
          refine go_iload C 7 rfl dX12_runs_192 ?_
          refine go_iadd C dX12_runs_194 ?_
          refine go_iald C (saX12_a G) (laX12_a hN) hw.1 dX12_runs_195 ?_
          replace hw := hw.2
          refine go_iast C (saX12_tasteOf G) (laX12_tasteOf hN) hw.1 dX12_runs_196 (go_nm fun σ_3 eσ_3 => ?_)
          replace hw := hw.2 σ_3 eσ_3
          obtain ⟨v7_4, ev7_4⟩ : ∃ z : Int32, z = v7 + 1 := ⟨_, rfl⟩
          replace hw := hw v7_4 ev7_4
          refine go_iinc (v := v7_4) (lv2 := [(7, .int v7_4), (0, .ref (G.2.2.1 75)), (1, .int v1), (2, .int v2), (3, .int v3), (4, .int v4), (5, .int v5), (6, .int v6)]) C 7 rfl (by rw [ev7_4]; rfl) (by rw [hnl]; decide) rfl dX12_runs_197 ?_
          refine go_goto C 135 rfl dX12_runs_200 ?_
          refine go_sub [1, 2, 3, 4, 5, 6, 7, 0] rfl ?_
          exact ih _ _ _ _ _ _ _ _ hw
        · replace hw := hw.2 hc
          refine go_aload_n C 0 rfl rfl dX12_runs_163 ?_
          refine go_get (v := .ref (G.2.2.1 76)) C (shX12 G) (ltX12 hN) lkX12_7 rfl dX12_runs_164 ?_
          refine go_sipush (v := 1000) C rfl dX12_runs_167 ?_
          refine go_bipush (v := 14) C rfl dX12_runs_170 ?_
          refine go_iload C 5 rfl dX12_runs_172 ?_
          refine go_imul C dX12_runs_174 ?_
          refine go_iadd C dX12_runs_175 ?_
          refine go_bipush (v := 12) C rfl dX12_runs_176 ?_
          refine go_iadd C dX12_runs_178 ?_
          refine go_iload C 7 rfl dX12_runs_179 ?_
          refine go_iadd C dX12_runs_181 ?_
          refine go_iald C (saX12_a G) (laX12_a hN) hw.1 dX12_runs_182 ?_
          replace hw := hw.2
          refine go_goto C 196 rfl dX12_runs_183 ?_
          refine go_iast C (saX12_tasteOf G) (laX12_tasteOf hN) hw.1 dX12_runs_196 (go_nm fun σ_5 eσ_5 => ?_)
          replace hw := hw.2 σ_5 eσ_5
          obtain ⟨v7_6, ev7_6⟩ : ∃ z : Int32, z = v7 + 1 := ⟨_, rfl⟩
          replace hw := hw v7_6 ev7_6
          refine go_iinc (v := v7_6) (lv2 := [(7, .int v7_6), (0, .ref (G.2.2.1 75)), (1, .int v1), (2, .int v2), (3, .int v3), (4, .int v4), (5, .int v5), (6, .int v6)]) C 7 rfl (by rw [ev7_6]; rfl) (by rw [hnl]; decide) rfl dX12_runs_197 ?_
          refine go_goto C 135 rfl dX12_runs_200 ?_
          refine go_sub [1, 2, 3, 4, 5, 6, 7, 0] rfl ?_
          exact ih _ _ _ _ _ _ _ _ hw
      · replace hw := hw.2 hc
        refine go_iload C 4 rfl dX12_runs_153 ?_
        refine go_goto C 196 rfl dX12_runs_155 ?_
        refine go_iast C (saX12_tasteOf G) (laX12_tasteOf hN) hw.1 dX12_runs_196 (go_nm fun σ_7 eσ_7 => ?_)
        replace hw := hw.2 σ_7 eσ_7
        obtain ⟨v7_8, ev7_8⟩ : ∃ z : Int32, z = v7 + 1 := ⟨_, rfl⟩
        replace hw := hw v7_8 ev7_8
        refine go_iinc (v := v7_8) (lv2 := [(7, .int v7_8), (0, .ref (G.2.2.1 75)), (1, .int v1), (2, .int v2), (3, .int v3), (4, .int v4), (5, .int v5), (6, .int v6)]) C 7 rfl (by rw [ev7_8]; rfl) (by rw [hnl]; decide) rfl dX12_runs_197 ?_
        refine go_goto C 135 rfl dX12_runs_200 ?_
        refine go_sub [1, 2, 3, 4, 5, 6, 7, 0] rfl ?_
        exact ih _ _ _ _ _ _ _ _ hw
set_option maxRecDepth 20000 in
set_option maxHeartbeats 4000000 in
theorem gbX12_runs_17 {X : XT} {G : GT} {l : Launch} {d : Nat}  {post : St → Prop} (C : Cx X G cX12_runs RX12) (hr : Rt X G none (fun v τ => v = none ∧ post τ)) (hR : Rm X l d) (hnl : X.2.2.2.2.2.2.2.2.2.2.1 = 10)  (hd : 8 ≤ d) (hN : 119 ≤ G.2.2.2.2.2)  {K7 : Int32 → Int32 → Int32 → Int32 → Int32 → St → Prop} (hK7 : ∀ (v1 : Int32) (v2 : Int32) (v3 : Int32) (v4 : Int32) (v5 : Int32) (σ : St), K7 v1 v2 v3 v4 v5 σ → Go X G 7 [(0, .ref (G.2.2.1 75)), (1, .int v1), (2, .int v2), (3, .int v3), (4, .int v4), (5, .int v5)] [] σ)
    : ∀ (n : Nat) (v1 : Int32) (v2 : Int32) (v3 : Int32) (v4 : Int32) (v5 : Int32) (v6 : Int32) (σ : St), wbX12_runs_17  K7 post n v1 v2 v3 v4 v5 v6 σ → Go X G 17 [(0, .ref (G.2.2.1 75)), (1, .int v1), (2, .int v2), (3, .int v3), (4, .int v4), (5, .int v5), (6, .int v6)] [] σ := by
  intro n
  induction n with
  | zero => intro v1 v2 v3 v4 v5 v6 σ hw; exact hw.elim
  | succ n ih =>
    intro v1 v2 v3 v4 v5 v6 σ hw
    have hw : ((12 ≤ v6 →
      ∀ v5_1 : Int32, v5_1 = v5 + 1 →
      K7 v1 v2 v3 v4 v5_1 σ) ∧
    (¬ 12 ≤ v6 →
      ∃ m_27, wbX12_runs_27 (wbX12_runs_17 K7 post n) post m_27 v1 v2 v3 v4 v5 v6 0 σ)) := hw
    refine go_iload C 6 rfl dX12_runs_17 ?_
    refine go_bipush (v := 12) C rfl dX12_runs_19 ?_
    refine go_icmp_ge C 99 rfl dX12_runs_21 (fun hc => ?_) (fun hc => ?_)
    · replace hw := hw.1 hc
      obtain ⟨v5_1, ev5_1⟩ : ∃ z : Int32, z = v5 + 1 := ⟨_, rfl⟩
      replace hw := hw v5_1 ev5_1
      refine go_iinc (v := v5_1) (lv2 := [(5, .int v5_1), (0, .ref (G.2.2.1 75)), (1, .int v1), (2, .int v2), (3, .int v3), (4, .int v4), (6, .int v6)]) C 5 rfl (by rw [ev5_1]; rfl) (by rw [hnl]; decide) rfl dX12_runs_99 ?_
      refine go_goto C 7 rfl dX12_runs_102 ?_
      refine go_sub [1, 2, 3, 4, 5, 0] rfl ?_
      exact hK7 _ _ _ _ _ _ hw
    · replace hw := hw.2 hc
      refine go_iconst (v := 0) C rfl dX12_runs_24 ?_
      refine go_istore (lv2 := [(7, .int 0), (0, .ref (G.2.2.1 75)), (1, .int v1), (2, .int v2), (3, .int v3), (4, .int v4), (5, .int v5), (6, .int v6)]) C (by rw [hnl]; decide) rfl dX12_runs_25 ?_
      refine go_sub [1, 2, 3, 4, 5, 6, 7, 0] rfl ?_
      obtain ⟨n_0, hw⟩ := hw
      exact (gbX12_runs_27 C hr hR hnl hd hN ih) n_0 _ _ _ _ _ _ _ _ hw
set_option maxRecDepth 20000 in
set_option maxHeartbeats 4000000 in
theorem gbX12_runs_108 {X : XT} {G : GT} {l : Launch} {d : Nat}  {post : St → Prop} (C : Cx X G cX12_runs RX12) (hr : Rt X G none (fun v τ => v = none ∧ post τ)) (hR : Rm X l d) (hnl : X.2.2.2.2.2.2.2.2.2.2.1 = 10)  (hd : 8 ≤ d) (hN : 119 ≤ G.2.2.2.2.2)   
    : ∀ (n : Nat) (v1 : Int32) (v2 : Int32) (v3 : Int32) (v4 : Int32) (v5 : Int32) (σ : St), wbX12_runs_108   post n v1 v2 v3 v4 v5 σ → Go X G 108 [(0, .ref (G.2.2.1 75)), (1, .int v1), (2, .int v2), (3, .int v3), (4, .int v4), (5, .int v5)] [] σ := by
  intro n
  induction n with
  | zero => intro v1 v2 v3 v4 v5 σ hw; exact hw.elim
  | succ n ih =>
    intro v1 v2 v3 v4 v5 σ hw
    have hw : ((v1 ≤ v5 →
      post σ) ∧
    (¬ v1 ≤ v5 →
      vp_in 0 9680 ∧ (
      (((gI σ 76 (0 : Int32).toNatClampNeg) ≤ v5 →
        ∃ m_135, wbX12_runs_135 (wbX12_runs_108 post n) post m_135 v1 v2 v3 v4 v5 0 0 σ) ∧
      (¬ (gI σ 76 (0 : Int32).toNatClampNeg) ≤ v5 →
        ∃ m_135, wbX12_runs_135 (wbX12_runs_108 post n) post m_135 v1 v2 v3 v4 v5 1 0 σ))))) := hw
    refine go_iload C 5 rfl dX12_runs_108 ?_
    refine go_iload_n C 1 rfl rfl dX12_runs_110 ?_
    refine go_icmp_ge C 306 rfl dX12_runs_111 (fun hc => ?_) (fun hc => ?_)
    · replace hw := hw.1 hc
      exact go_vret C hr ⟨rfl, hw⟩ dX12_runs_306
    · replace hw := hw.2 hc
      refine go_iload C 5 rfl dX12_runs_114 ?_
      refine go_aload_n C 0 rfl rfl dX12_runs_116 ?_
      refine go_get (v := .ref (G.2.2.1 76)) C (shX12 G) (ltX12 hN) lkX12_7 rfl dX12_runs_117 ?_
      refine go_iconst (v := 0) C rfl dX12_runs_120 ?_
      refine go_iald C (saX12_a G) (laX12_a hN) hw.1 dX12_runs_121 ?_
      replace hw := hw.2
      refine go_icmp_ge C 129 rfl dX12_runs_122 (fun hc => ?_) (fun hc => ?_)
      · replace hw := hw.1 hc
        refine go_iconst (v := 0) C rfl dX12_runs_129 ?_
        refine go_istore (lv2 := [(6, .int 0), (0, .ref (G.2.2.1 75)), (1, .int v1), (2, .int v2), (3, .int v3), (4, .int v4), (5, .int v5)]) C (by rw [hnl]; decide) rfl dX12_runs_130 ?_
        refine go_iconst (v := 0) C rfl dX12_runs_132 ?_
        refine go_istore (lv2 := [(7, .int 0), (6, .int 0), (0, .ref (G.2.2.1 75)), (1, .int v1), (2, .int v2), (3, .int v3), (4, .int v4), (5, .int v5)]) C (by rw [hnl]; decide) rfl dX12_runs_133 ?_
        refine go_sub [2, 3, 4, 5, 6, 7, 1, 0] rfl ?_
        obtain ⟨n_0, hw⟩ := hw
        exact (gbX12_runs_135 C hr hR hnl hd hN ih) n_0 _ _ _ _ _ _ _ _ hw
      · replace hw := hw.2 hc
        refine go_iconst (v := 1) C rfl dX12_runs_125 ?_
        refine go_goto C 130 rfl dX12_runs_126 ?_
        refine go_istore (lv2 := [(6, .int 1), (0, .ref (G.2.2.1 75)), (1, .int v1), (2, .int v2), (3, .int v3), (4, .int v4), (5, .int v5)]) C (by rw [hnl]; decide) rfl dX12_runs_130 ?_
        refine go_iconst (v := 0) C rfl dX12_runs_132 ?_
        refine go_istore (lv2 := [(7, .int 0), (6, .int 1), (0, .ref (G.2.2.1 75)), (1, .int v1), (2, .int v2), (3, .int v3), (4, .int v4), (5, .int v5)]) C (by rw [hnl]; decide) rfl dX12_runs_133 ?_
        refine go_sub [2, 3, 4, 5, 6, 7, 1, 0] rfl ?_
        obtain ⟨n_0, hw⟩ := hw
        exact (gbX12_runs_135 C hr hR hnl hd hN ih) n_0 _ _ _ _ _ _ _ _ hw
set_option maxRecDepth 20000 in
set_option maxHeartbeats 4000000 in
theorem gbX12_runs_7 {X : XT} {G : GT} {l : Launch} {d : Nat}  {post : St → Prop} (C : Cx X G cX12_runs RX12) (hr : Rt X G none (fun v τ => v = none ∧ post τ)) (hR : Rm X l d) (hnl : X.2.2.2.2.2.2.2.2.2.2.1 = 10)  (hd : 8 ≤ d) (hN : 119 ≤ G.2.2.2.2.2)   
    : ∀ (n : Nat) (v1 : Int32) (v2 : Int32) (v3 : Int32) (v4 : Int32) (v5 : Int32) (σ : St), wbX12_runs_7   post n v1 v2 v3 v4 v5 σ → Go X G 7 [(0, .ref (G.2.2.1 75)), (1, .int v1), (2, .int v2), (3, .int v3), (4, .int v4), (5, .int v5)] [] σ := by
  intro n
  induction n with
  | zero => intro v1 v2 v3 v4 v5 σ hw; exact hw.elim
  | succ n ih =>
    intro v1 v2 v3 v4 v5 σ hw
    have hw : ((40 < v5 →
      ∃ m_108, wbX12_runs_108 post m_108 v1 v2 v3 v4 0 σ) ∧
    (¬ 40 < v5 →
      ∃ m_17, wbX12_runs_17 (wbX12_runs_7 post n) post m_17 v1 v2 v3 v4 v5 0 σ)) := hw
    refine go_iload C 5 rfl dX12_runs_7 ?_
    refine go_bipush (v := 40) C rfl dX12_runs_9 ?_
    refine go_icmp_gt C 105 rfl dX12_runs_11 (fun hc => ?_) (fun hc => ?_)
    · replace hw := hw.1 hc
      refine go_iconst (v := 0) C rfl dX12_runs_105 ?_
      refine go_istore (lv2 := [(5, .int 0), (0, .ref (G.2.2.1 75)), (1, .int v1), (2, .int v2), (3, .int v3), (4, .int v4)]) C (by rw [hnl]; decide) rfl dX12_runs_106 ?_
      refine go_sub [1, 2, 3, 4, 5, 0] rfl ?_
      obtain ⟨n_0, hw⟩ := hw
      exact (gbX12_runs_108 C hr hR hnl hd hN) n_0 _ _ _ _ _ _ hw
    · replace hw := hw.2 hc
      refine go_iconst (v := 0) C rfl dX12_runs_14 ?_
      refine go_istore (lv2 := [(6, .int 0), (0, .ref (G.2.2.1 75)), (1, .int v1), (2, .int v2), (3, .int v3), (4, .int v4), (5, .int v5)]) C (by rw [hnl]; decide) rfl dX12_runs_15 ?_
      refine go_sub [1, 2, 3, 4, 5, 6, 0] rfl ?_
      obtain ⟨n_0, hw⟩ := hw
      exact (gbX12_runs_17 C hr hR hnl hd hN ih) n_0 _ _ _ _ _ _ _ hw
set_option maxRecDepth 20000 in
set_option maxHeartbeats 4000000 in
theorem spX12_runs {l : Launch} {G : GT} {d : Nat}  (hd : 8 ≤ d)  (hN : 119 ≤ G.2.2.2.2.2)  {a1 : Int32} {a2 : Int32} {a3 : Int32} {a4 : Int32} {σ : St} {post : St → Prop} (hw : wpX12_runs  a1 a2 a3 a4 σ post) : Sp l G d yX12_runs cX12_runs 10 none [.ref (G.2.2.1 75), .int a1, .int a2, .int a3, .int a4] σ (fun v τ => v = none ∧ post τ) := by
  refine Sp.of (by decide) (Nat.le_of_ble_eq_true rfl) fun X C hr hR hnl => ?_
  show Go X G 0 [(0, .ref (G.2.2.1 75)), (1, .int a1), (2, .int a2), (3, .int a3), (4, .int a4)] [] σ
  have hw : wpX12_clears  σ (fun σ_2 =>
  ∃ m_7, wbX12_runs_7 post m_7 a1 a2 a3 a4 1 σ_2) := hw
  refine go_aload_n C 0 rfl rfl dX12_runs_0 ?_
  refine go_callV (as := []) C hR (shX12 G) (ltX12 hN) cwX12_413 (Nat.le_trans (by decide) hd) (by decide) rfl rfl (Nat.le_of_ble_eq_true rfl) dX12_runs_1 (spX12_clears (Nat.le_refl _) hN hw) (fun v_ τ_ hw => ?_)
  obtain ⟨rfl, hw⟩ := hw
  obtain ⟨σ_2, rfl⟩ : ∃ z, z = τ_ := ⟨_, rfl⟩
  refine go_iconst (v := 1) C rfl dX12_runs_4 ?_
  refine go_istore (lv2 := [(5, .int 1), (0, .ref (G.2.2.1 75)), (1, .int a1), (2, .int a2), (3, .int a3), (4, .int a4)]) C (by rw [hnl]; decide) rfl dX12_runs_5 ?_
  refine go_sub [1, 2, 3, 4, 5, 0] rfl ?_
  obtain ⟨n_0, hw⟩ := hw
  exact (gbX12_runs_7 C hr hR hnl hd hN) n_0 _ _ _ _ _ _ hw
-- CradleNamesModel.living(II)I
set_option maxRecDepth 20000 in
set_option maxHeartbeats 4000000 in
theorem gbX12_living_20 {X : XT} {G : GT} {l : Launch} {d : Nat}  {post : Int32 → St → Prop} (C : Cx X G cX12_living RX12) (hr : Rt X G (some .int) (fun v τ => ∃ r : Int32, v = some (.int r) ∧ post r τ)) (hR : Rm X l d) (hnl : X.2.2.2.2.2.2.2.2.2.2.1 = 5)  (hd : 2 ≤ d) (hN : 119 ≤ G.2.2.2.2.2)   
    : ∀ (n : Nat) (v1 : Int32) (v2 : Int32) (v3 : Int32) (v4 : Int32) (σ : St), wbX12_living_20   post n v1 v2 v3 v4 σ → Go X G 20 [(0, .ref (G.2.2.1 75)), (1, .int v1), (2, .int v2), (3, .int v3), (4, .int v4)] [] σ := by
  intro n
  induction n with
  | zero => intro v1 v2 v3 v4 σ hw; exact hw.elim
  | succ n ih =>
    intro v1 v2 v3 v4 σ hw
    have hw : ((v2 < v4 →
      post v3 σ) ∧
    (¬ v2 < v4 →
      wpX12_all v4 v1 σ (fun r_1 σ_2 =>
      ∀ v3_3 : Int32, v3_3 = (v3 + r_1) →
      ∀ v4_4 : Int32, v4_4 = v4 + 1 →
      wbX12_living_20 post n v1 v2 v3_3 v4_4 σ_2))) := hw
    refine go_iload C 4 rfl dX12_living_20 ?_
    refine go_iload_n C 2 rfl rfl dX12_living_22 ?_
    refine go_icmp_gt C 42 rfl dX12_living_23 (fun hc => ?_) (fun hc => ?_)
    · replace hw := hw.1 hc
      refine go_iload_n C 3 rfl rfl dX12_living_42 ?_
      exact go_iret C hr ⟨_, rfl, hw⟩ dX12_living_43
    · replace hw := hw.2 hc
      refine go_iload_n C 3 rfl rfl dX12_living_26 ?_
      refine go_aload_n C 0 rfl rfl dX12_living_27 ?_
      refine go_iload C 4 rfl dX12_living_28 ?_
      refine go_iload_n C 1 rfl rfl dX12_living_30 ?_
      refine go_callV (as := [.int v4, .int v1]) C hR (shX12 G) (ltX12 hN) cwX12_407 (Nat.le_trans (by decide) hd) (by decide) rfl rfl (Nat.le_of_ble_eq_true rfl) dX12_living_31 (spX12_all (Nat.le_refl _) hN hw) (fun v_ τ_ hw => ?_)
      obtain ⟨r_1, rfl, hw⟩ := hw
      obtain ⟨σ_2, rfl⟩ : ∃ z, z = τ_ := ⟨_, rfl⟩
      refine go_iadd C dX12_living_34 ?_
      refine go_topi (fun v3_3 ev3_3 => ?_)
      replace hw := hw v3_3 ev3_3
      refine go_istore_n (lv2 := [(3, .int v3_3), (0, .ref (G.2.2.1 75)), (1, .int v1), (2, .int v2), (4, .int v4)]) C rfl (by rw [hnl]; decide) rfl dX12_living_35 ?_
      obtain ⟨v4_4, ev4_4⟩ : ∃ z : Int32, z = v4 + 1 := ⟨_, rfl⟩
      replace hw := hw v4_4 ev4_4
      refine go_iinc (v := v4_4) (lv2 := [(4, .int v4_4), (3, .int v3_3), (0, .ref (G.2.2.1 75)), (1, .int v1), (2, .int v2)]) C 4 rfl (by rw [ev4_4]; rfl) (by rw [hnl]; decide) rfl dX12_living_36 ?_
      refine go_goto C 20 rfl dX12_living_39 ?_
      refine go_sub [2, 3, 4, 1, 0] rfl ?_
      exact ih _ _ _ _ _ hw
set_option maxRecDepth 20000 in
set_option maxHeartbeats 4000000 in
theorem spX12_living {l : Launch} {G : GT} {d : Nat}  (hd : 2 ≤ d)  (hN : 119 ≤ G.2.2.2.2.2)  {a1 : Int32} {a2 : Int32} {σ : St} {post : Int32 → St → Prop} (hw : wpX12_living  a1 a2 σ post) : Sp l G d yX12_living cX12_living 5 (some .int) [.ref (G.2.2.1 75), .int a1, .int a2] σ (fun v τ => ∃ r : Int32, v = some (.int r) ∧ post r τ) := by
  refine Sp.of (by decide) (Nat.le_of_ble_eq_true rfl) fun X C hr hR hnl => ?_
  show Go X G 0 [(0, .ref (G.2.2.1 75)), (1, .int a1), (2, .int a2)] [] σ
  have hw : vp_in 6 9680 ∧ (
  wpX12_greater (-40) ((a2 - (gI σ 76 (6 : Int32).toNatClampNeg)) + 1) σ (fun r_1 σ_2 =>
  ∃ m_20, wbX12_living_20 post m_20 a1 a2 0 r_1 σ_2)) := hw
  refine go_iconst (v := 0) C rfl dX12_living_0 ?_
  refine go_istore_n (lv2 := [(3, .int 0), (0, .ref (G.2.2.1 75)), (1, .int a1), (2, .int a2)]) C rfl (by rw [hnl]; decide) rfl dX12_living_1 ?_
  refine go_bipush (v := (-40)) C rfl dX12_living_2 ?_
  refine go_iload_n C 3 rfl rfl dX12_living_4 ?_
  refine go_aload_n C 1 rfl rfl dX12_living_5 ?_
  refine go_get (v := .ref (G.2.2.1 76)) C (shX12 G) (ltX12 hN) lkX12_7 rfl dX12_living_6 ?_
  refine go_bipush (v := 6) C rfl dX12_living_9 ?_
  refine go_iald C (saX12_a G) (laX12_a hN) hw.1 dX12_living_11 ?_
  replace hw := hw.2
  refine go_isub C dX12_living_12 ?_
  refine go_iconst (v := 1) C rfl dX12_living_13 ?_
  refine go_iadd C dX12_living_14 ?_
  refine go_callS (as := [.int (-40), .int ((a2 - (gI σ 76 (6 : Int32).toNatClampNeg)) + 1)]) C hR cwX12_410 (Nat.le_trans (by decide) hd) (by decide) rfl rfl (Nat.le_of_ble_eq_true rfl) dX12_living_15 (spX12_greater (Nat.le_refl _) hN hw) (fun v_ τ_ hw => ?_)
  obtain ⟨r_1, rfl, hw⟩ := hw
  obtain ⟨σ_2, rfl⟩ : ∃ z, z = τ_ := ⟨_, rfl⟩
  refine go_istore (lv2 := [(4, .int r_1), (3, .int 0), (0, .ref (G.2.2.1 75)), (1, .int a1), (2, .int a2)]) C (by rw [hnl]; decide) rfl dX12_living_18 ?_
  refine go_sub [2, 3, 4, 1, 0] rfl ?_
  obtain ⟨n_0, hw⟩ := hw
  exact (gbX12_living_20 C hr hR hnl hd hN) n_0 _ _ _ _ _ hw
-- CradleNamesModel.of(II)I
set_option maxRecDepth 20000 in
set_option maxHeartbeats 4000000 in
theorem spX12_of {l : Launch} {G : GT} {d : Nat}  (hd : 9 ≤ d)  (hN : 119 ≤ G.2.2.2.2.2)  {a1 : Int32} {a2 : Int32} {σ : St} {post : Int32 → St → Prop} (hw : wpX12_of  a1 a2 σ post) : Sp l G d yX12_of cX12_of 3 (some .int) [.ref (G.2.2.1 75), .int a1, .int a2] σ (fun v τ => ∃ r : Int32, v = some (.int r) ∧ post r τ) := by
  refine Sp.of (by decide) (Nat.le_of_ble_eq_true rfl) fun X C hr hR hnl => ?_
  show Go X G 0 [(0, .ref (G.2.2.1 75)), (1, .int a1), (2, .int a2)] [] σ
  have hw : wpX12_isName a1 σ (fun r_1 σ_2 =>
  ((¬ r_1 = 0 →
    ((a2 = 0 →
      vp_in a1 16 ∧ (
      wpX12_size (gL σ_2 78 a1.toNatClampNeg) σ_2 (fun r_3 σ_4 =>
      post r_3 σ_4))) ∧
    (¬ a2 = 0 →
    ((a2 = 1 →
      vp_in (30 + a1) 9680 ∧ (
      post (gI σ_2 76 (30 + a1).toNatClampNeg) σ_2)) ∧
    (¬ a2 = 1 →
    ((a2 = 2 →
      wpX12_lowestOf a1 σ_2 (fun r_5 σ_6 =>
      post r_5 σ_6)) ∧
    (¬ a2 = 2 →
    ((a2 = 3 →
      vp_in a1 16 ∧ (
      wpX12_soundsOf (gL σ_2 78 a1.toNatClampNeg) σ_2 (fun r_7 σ_8 =>
      wpX12_size r_7 σ_8 (fun r_9 σ_10 =>
      post r_9 σ_10)))) ∧
    (¬ a2 = 3 →
    ((a2 = 4 →
      vp_in 0 9680 ∧ (
      wpX12_runs (gI σ_2 76 (0 : Int32).toNatClampNeg) (-1) 0 (-1) σ_2 (fun σ_12 =>
      vp_in 0 9680 ∧ (
      wpX12_living a1 ((gI σ_12 76 (0 : Int32).toNatClampNeg) - 1) σ_12 (fun r_13 σ_14 =>
      post r_13 σ_14))))) ∧
    (¬ a2 = 4 →
    post (-1) σ_2))))))))))) ∧
  (r_1 = 0 →
    post (-1) σ_2))) := hw
  refine go_aload_n C 0 rfl rfl dX12_of_0 ?_
  refine go_iload_n C 1 rfl rfl dX12_of_1 ?_
  refine go_callV (as := [.int a1]) C hR (shX12 G) (ltX12 hN) cwX12_182 (Nat.le_trans (by decide) hd) (by decide) rfl rfl (Nat.le_of_ble_eq_true rfl) dX12_of_2 (spX12_isName (Nat.le_refl _) hN hw) (fun v_ τ_ hw => ?_)
  obtain ⟨r_1, rfl, hw⟩ := hw
  obtain ⟨σ_2, rfl⟩ : ∃ z, z = τ_ := ⟨_, rfl⟩
  refine go_if_ne C 10 rfl dX12_of_5 (fun hc => ?_) (fun hc => ?_)
  · replace hw := hw.1 hc
    refine go_iload_n C 2 rfl rfl dX12_of_10 ?_
    by_cases hc0 : a2 = 0
    · replace hw := hw.1 hc0
      refine go_tableIn C 44 (by rw [hc0]; decide) (by rw [hc0]; decide) (by rw [hc0]; rfl) rfl dX12_of_11 ?_
      refine go_aload_n C 0 rfl rfl dX12_of_44 ?_
      refine go_get (v := .ref (G.2.2.1 78)) C (shX12 G) (ltX12 hN) lkX12_16 rfl dX12_of_45 ?_
      refine go_iload_n C 1 rfl rfl dX12_of_48 ?_
      refine go_lald C (saX12_letters G) (laX12_letters hN) hw.1 dX12_of_49 ?_
      replace hw := hw.2
      refine go_callS (as := [.long (gL σ_2 78 a1.toNatClampNeg)]) C hR cwX12_162 (Nat.le_trans (by decide) hd) (by decide) rfl rfl (Nat.le_of_ble_eq_true rfl) dX12_of_50 (spX12_size (Nat.le_refl _) hN hw) (fun v_ τ_ hw => ?_)
      obtain ⟨r_3, rfl, hw⟩ := hw
      obtain ⟨σ_4, rfl⟩ : ∃ z, z = τ_ := ⟨_, rfl⟩
      exact go_iret C hr ⟨_, rfl, hw⟩ dX12_of_53
    replace hw := hw.2 hc0
    by_cases hc1 : a2 = 1
    · replace hw := hw.1 hc1
      refine go_tableIn C 54 (by rw [hc1]; decide) (by rw [hc1]; decide) (by rw [hc1]; rfl) rfl dX12_of_11 ?_
      refine go_aload_n C 0 rfl rfl dX12_of_54 ?_
      refine go_get (v := .ref (G.2.2.1 76)) C (shX12 G) (ltX12 hN) lkX12_7 rfl dX12_of_55 ?_
      refine go_bipush (v := 30) C rfl dX12_of_58 ?_
      refine go_iload_n C 1 rfl rfl dX12_of_60 ?_
      refine go_iadd C dX12_of_61 ?_
      refine go_iald C (saX12_a G) (laX12_a hN) hw.1 dX12_of_62 ?_
      replace hw := hw.2
      exact go_iret C hr ⟨_, rfl, hw⟩ dX12_of_63
    replace hw := hw.2 hc1
    by_cases hc2 : a2 = 2
    · replace hw := hw.1 hc2
      refine go_tableIn C 64 (by rw [hc2]; decide) (by rw [hc2]; decide) (by rw [hc2]; rfl) rfl dX12_of_11 ?_
      refine go_aload_n C 0 rfl rfl dX12_of_64 ?_
      refine go_iload_n C 1 rfl rfl dX12_of_65 ?_
      refine go_callV (as := [.int a1]) C hR (shX12 G) (ltX12 hN) cwX12_185 (Nat.le_trans (by decide) hd) (by decide) rfl rfl (Nat.le_of_ble_eq_true rfl) dX12_of_66 (spX12_lowestOf (Nat.le_refl _) hN hw) (fun v_ τ_ hw => ?_)
      obtain ⟨r_5, rfl, hw⟩ := hw
      obtain ⟨σ_6, rfl⟩ : ∃ z, z = τ_ := ⟨_, rfl⟩
      exact go_iret C hr ⟨_, rfl, hw⟩ dX12_of_69
    replace hw := hw.2 hc2
    by_cases hc3 : a2 = 3
    · replace hw := hw.1 hc3
      refine go_tableIn C 70 (by rw [hc3]; decide) (by rw [hc3]; decide) (by rw [hc3]; rfl) rfl dX12_of_11 ?_
      refine go_aload_n C 0 rfl rfl dX12_of_70 ?_
      refine go_get (v := .ref (G.2.2.1 78)) C (shX12 G) (ltX12 hN) lkX12_16 rfl dX12_of_71 ?_
      refine go_iload_n C 1 rfl rfl dX12_of_74 ?_
      refine go_lald C (saX12_letters G) (laX12_letters hN) hw.1 dX12_of_75 ?_
      replace hw := hw.2
      refine go_callS (as := [.long (gL σ_2 78 a1.toNatClampNeg)]) C hR cwX12_174 (Nat.le_trans (by decide) hd) (by decide) rfl rfl (Nat.le_of_ble_eq_true rfl) dX12_of_76 (spX12_soundsOf (Nat.le_refl _) hN hw) (fun v_ τ_ hw => ?_)
      obtain ⟨r_7, rfl, hw⟩ := hw
      obtain ⟨σ_8, rfl⟩ : ∃ z, z = τ_ := ⟨_, rfl⟩
      refine go_callS (as := [.long r_7]) C hR cwX12_162 (Nat.le_trans (by decide) hd) (by decide) rfl rfl (Nat.le_of_ble_eq_true rfl) dX12_of_79 (spX12_size (Nat.le_refl _) hN hw) (fun v_ τ_ hw => ?_)
      obtain ⟨r_9, rfl, hw⟩ := hw
      obtain ⟨σ_10, rfl⟩ : ∃ z, z = τ_ := ⟨_, rfl⟩
      exact go_iret C hr ⟨_, rfl, hw⟩ dX12_of_82
    replace hw := hw.2 hc3
    by_cases hc4 : a2 = 4
    · replace hw := hw.1 hc4
      refine go_tableIn C 83 (by rw [hc4]; decide) (by rw [hc4]; decide) (by rw [hc4]; rfl) rfl dX12_of_11 ?_
      refine go_aload_n C 0 rfl rfl dX12_of_83 ?_
      refine go_aload_n C 0 rfl rfl dX12_of_84 ?_
      refine go_get (v := .ref (G.2.2.1 76)) C (shX12 G) (ltX12 hN) lkX12_7 rfl dX12_of_85 ?_
      refine go_iconst (v := 0) C rfl dX12_of_88 ?_
      refine go_iald C (saX12_a G) (laX12_a hN) hw.1 dX12_of_89 ?_
      replace hw := hw.2
      refine go_iconst (v := (-1)) C rfl dX12_of_90 ?_
      refine go_iconst (v := 0) C rfl dX12_of_91 ?_
      refine go_iconst (v := (-1)) C rfl dX12_of_92 ?_
      refine go_callV (as := [.int (gI σ_2 76 (0 : Int32).toNatClampNeg), .int (-1), .int 0, .int (-1)]) C hR (shX12 G) (ltX12 hN) cwX12_188 (Nat.le_trans (by decide) hd) (by decide) rfl rfl (Nat.le_of_ble_eq_true rfl) dX12_of_93 (spX12_runs (Nat.le_refl _) hN hw) (fun v_ τ_ hw => ?_)
      obtain ⟨rfl, hw⟩ := hw
      obtain ⟨σ_12, rfl⟩ : ∃ z, z = τ_ := ⟨_, rfl⟩
      refine go_aload_n C 0 rfl rfl dX12_of_96 ?_
      refine go_iload_n C 1 rfl rfl dX12_of_97 ?_
      refine go_aload_n C 0 rfl rfl dX12_of_98 ?_
      refine go_get (v := .ref (G.2.2.1 76)) C (shX12 G) (ltX12 hN) lkX12_7 rfl dX12_of_99 ?_
      refine go_iconst (v := 0) C rfl dX12_of_102 ?_
      refine go_iald C (saX12_a G) (laX12_a hN) hw.1 dX12_of_103 ?_
      replace hw := hw.2
      refine go_iconst (v := 1) C rfl dX12_of_104 ?_
      refine go_isub C dX12_of_105 ?_
      refine go_callV (as := [.int a1, .int ((gI σ_12 76 (0 : Int32).toNatClampNeg) - 1)]) C hR (shX12 G) (ltX12 hN) cwX12_192 (Nat.le_trans (by decide) hd) (by decide) rfl rfl (Nat.le_of_ble_eq_true rfl) dX12_of_106 (spX12_living (Nat.le_refl _) hN hw) (fun v_ τ_ hw => ?_)
      obtain ⟨r_13, rfl, hw⟩ := hw
      obtain ⟨σ_14, rfl⟩ : ∃ z, z = τ_ := ⟨_, rfl⟩
      exact go_iret C hr ⟨_, rfl, hw⟩ dX12_of_109
    replace hw := hw.2 hc4
    refine go_tableOut C 110 (by have g0 := lv_neT hc0 (show (0 : Int32).toInt = 0 from rfl); have g1 := lv_neT hc1 (show (1 : Int32).toInt = 1 from rfl); have g2 := lv_neT hc2 (show (2 : Int32).toInt = 2 from rfl); have g3 := lv_neT hc3 (show (3 : Int32).toInt = 3 from rfl); have g4 := lv_neT hc4 (show (4 : Int32).toInt = 4 from rfl); omega) rfl dX12_of_11 ?_
    refine go_iconst (v := (-1)) C rfl dX12_of_110 ?_
    exact go_iret C hr ⟨_, rfl, hw⟩ dX12_of_111
  · replace hw := hw.2 hc
    refine go_iconst (v := (-1)) C rfl dX12_of_8 ?_
    exact go_iret C hr ⟨_, rfl, hw⟩ dX12_of_9
-- CradleNamesModel.alike(II)I
set_option maxRecDepth 20000 in
set_option maxHeartbeats 4000000 in
theorem spX12_alike {l : Launch} {G : GT} {d : Nat}  (hd : 5 ≤ d)  (hN : 119 ≤ G.2.2.2.2.2)  {a1 : Int32} {a2 : Int32} {σ : St} {post : Int32 → St → Prop} (hw : wpX12_alike  a1 a2 σ post) : Sp l G d yX12_alike cX12_alike 3 (some .int) [.ref (G.2.2.1 75), .int a1, .int a2] σ (fun v τ => ∃ r : Int32, v = some (.int r) ∧ post r τ) := by
  refine Sp.of (by decide) (Nat.le_of_ble_eq_true rfl) fun X C hr hR hnl => ?_
  show Go X G 0 [(0, .ref (G.2.2.1 75)), (1, .int a1), (2, .int a2)] [] σ
  have hw : wpX12_isName a1 σ (fun r_1 σ_2 =>
  ((r_1 = 0 →
    post (-1) σ_2) ∧
  (¬ r_1 = 0 →
    wpX12_isName a2 σ_2 (fun r_3 σ_4 =>
    ((¬ r_3 = 0 →
      vp_in a1 16 ∧ (
      vp_in a2 16 ∧ (
      wpX12_areAlike (gL σ_4 78 a1.toNatClampNeg) (gL σ_4 78 a2.toNatClampNeg) σ_4 (fun r_5 σ_6 =>
      ((r_5 = 0 →
        post 0 σ_6) ∧
      (¬ r_5 = 0 →
        post 1 σ_6)))))) ∧
    (r_3 = 0 →
      post (-1) σ_4)))))) := hw
  refine go_aload_n C 0 rfl rfl dX12_alike_0 ?_
  refine go_iload_n C 1 rfl rfl dX12_alike_1 ?_
  refine go_callV (as := [.int a1]) C hR (shX12 G) (ltX12 hN) cwX12_182 (Nat.le_trans (by decide) hd) (by decide) rfl rfl (Nat.le_of_ble_eq_true rfl) dX12_alike_2 (spX12_isName (Nat.le_refl _) hN hw) (fun v_ τ_ hw => ?_)
  obtain ⟨r_1, rfl, hw⟩ := hw
  obtain ⟨σ_2, rfl⟩ : ∃ z, z = τ_ := ⟨_, rfl⟩
  refine go_if_eq C 16 rfl dX12_alike_5 (fun hc => ?_) (fun hc => ?_)
  · replace hw := hw.1 hc
    refine go_iconst (v := (-1)) C rfl dX12_alike_16 ?_
    exact go_iret C hr ⟨_, rfl, hw⟩ dX12_alike_17
  · replace hw := hw.2 hc
    refine go_aload_n C 0 rfl rfl dX12_alike_8 ?_
    refine go_iload_n C 2 rfl rfl dX12_alike_9 ?_
    refine go_callV (as := [.int a2]) C hR (shX12 G) (ltX12 hN) cwX12_182 (Nat.le_trans (by decide) hd) (by decide) rfl rfl (Nat.le_of_ble_eq_true rfl) dX12_alike_10 (spX12_isName (Nat.le_refl _) hN hw) (fun v_ τ_ hw => ?_)
    obtain ⟨r_3, rfl, hw⟩ := hw
    obtain ⟨σ_4, rfl⟩ : ∃ z, z = τ_ := ⟨_, rfl⟩
    refine go_if_ne C 18 rfl dX12_alike_13 (fun hc => ?_) (fun hc => ?_)
    · replace hw := hw.1 hc
      refine go_aload_n C 0 rfl rfl dX12_alike_18 ?_
      refine go_get (v := .ref (G.2.2.1 78)) C (shX12 G) (ltX12 hN) lkX12_16 rfl dX12_alike_19 ?_
      refine go_iload_n C 1 rfl rfl dX12_alike_22 ?_
      refine go_lald C (saX12_letters G) (laX12_letters hN) hw.1 dX12_alike_23 ?_
      replace hw := hw.2
      refine go_aload_n C 0 rfl rfl dX12_alike_24 ?_
      refine go_get (v := .ref (G.2.2.1 78)) C (shX12 G) (ltX12 hN) lkX12_16 rfl dX12_alike_25 ?_
      refine go_iload_n C 2 rfl rfl dX12_alike_28 ?_
      refine go_lald C (saX12_letters G) (laX12_letters hN) hw.1 dX12_alike_29 ?_
      replace hw := hw.2
      refine go_callS (as := [.long (gL σ_4 78 a1.toNatClampNeg), .long (gL σ_4 78 a2.toNatClampNeg)]) C hR cwX12_199 (Nat.le_trans (by decide) hd) (by decide) rfl rfl (Nat.le_of_ble_eq_true rfl) dX12_alike_30 (spX12_areAlike (Nat.le_refl _) hN hw) (fun v_ τ_ hw => ?_)
      obtain ⟨r_5, rfl, hw⟩ := hw
      obtain ⟨σ_6, rfl⟩ : ∃ z, z = τ_ := ⟨_, rfl⟩
      refine go_if_eq C 40 rfl dX12_alike_33 (fun hc => ?_) (fun hc => ?_)
      · replace hw := hw.1 hc
        refine go_iconst (v := 0) C rfl dX12_alike_40 ?_
        exact go_iret C hr ⟨_, rfl, hw⟩ dX12_alike_41
      · replace hw := hw.2 hc
        refine go_iconst (v := 1) C rfl dX12_alike_36 ?_
        refine go_goto C 41 rfl dX12_alike_37 ?_
        exact go_iret C hr ⟨_, rfl, hw⟩ dX12_alike_41
    · replace hw := hw.2 hc
      refine go_iconst (v := (-1)) C rfl dX12_alike_16 ?_
      exact go_iret C hr ⟨_, rfl, hw⟩ dX12_alike_17
-- CradleNamesModel.born(IIIIII)I
set_option maxRecDepth 20000 in
set_option maxHeartbeats 4000000 in
theorem spX12_born {l : Launch} {G : GT} {d : Nat}  (hd : 3 ≤ d)  (hN : 119 ≤ G.2.2.2.2.2)  {a1 : Int32} {a2 : Int32} {a3 : Int32} {a4 : Int32} {a5 : Int32} {a6 : Int32} {σ : St} {post : Int32 → St → Prop} (hw : wpX12_born  a1 a2 a3 a4 a5 a6 σ post) : Sp l G d yX12_born cX12_born 8 (some .int) [.ref (G.2.2.1 75), .int a1, .int a2, .int a3, .int a4, .int a5, .int a6] σ (fun v τ => ∃ r : Int32, v = some (.int r) ∧ post r τ) := by
  refine Sp.of (by decide) (Nat.le_of_ble_eq_true rfl) fun X C hr hR hnl => ?_
  show Go X G 0 [(0, .ref (G.2.2.1 75)), (1, .int a1), (2, .int a2), (3, .int a3), (4, .int a4), (5, .int a5), (6, .int a6)] [] σ
  have hw : wpX12_isName a1 σ (fun r_1 σ_2 =>
  ((r_1 = 0 →
    post (-1) σ_2) ∧
  (¬ r_1 = 0 →
    wpX12_isCradle a2 a3 a4 σ_2 (fun r_3 σ_4 =>
    ((r_3 = 0 →
      post (-1) σ_4) ∧
    (¬ r_3 = 0 →
      wpX12_in a5 1 40 σ_4 (fun r_5 σ_6 =>
      ((r_5 = 0 →
        post (-1) σ_6) ∧
      (¬ r_5 = 0 →
        wpX12_in a6 1 99 σ_6 (fun r_7 σ_8 =>
        ((r_7 = 0 →
          post (-1) σ_8) ∧
        (¬ r_7 = 0 →
          vp_in 0 9680 ∧ (
          (((gI σ_8 76 (0 : Int32).toNatClampNeg) ≤ 0 →
            wpX12_cell a2 a3 a4 σ_8 (fun r_9 σ_10 =>
            ∀ v7_11 : Int32, v7_11 = (((2000 + ((a5 - 1) * 192)) + (r_9 * 16)) + a1) →
            vp_in v7_11 9680 ∧ (
            ((((gI σ_10 76 v7_11.toNatClampNeg) + a6) ≤ 9999 →
              vp_in v7_11 9680 ∧ (
              vp_in v7_11 9680 ∧ (
              ∀ σ_12 : St, σ_12 = sI σ_10 76 v7_11.toNatClampNeg ((gI σ_10 76 v7_11.toNatClampNeg) + a6) →
              vp_in v7_11 9680 ∧ (
              post (gI σ_12 76 v7_11.toNatClampNeg) σ_12)))) ∧
            (¬ ((gI σ_10 76 v7_11.toNatClampNeg) + a6) ≤ 9999 →
              post (-1) σ_10))))) ∧
          (¬ (gI σ_8 76 (0 : Int32).toNatClampNeg) ≤ 0 →
            post (-1) σ_8))))))))))))))) := hw
  refine go_aload_n C 0 rfl rfl dX12_born_0 ?_
  refine go_iload_n C 1 rfl rfl dX12_born_1 ?_
  refine go_callV (as := [.int a1]) C hR (shX12 G) (ltX12 hN) cwX12_182 (Nat.le_trans (by decide) hd) (by decide) rfl rfl (Nat.le_of_ble_eq_true rfl) dX12_born_2 (spX12_isName (Nat.le_refl _) hN hw) (fun v_ τ_ hw => ?_)
  obtain ⟨r_1, rfl, hw⟩ := hw
  obtain ⟨σ_2, rfl⟩ : ∃ z, z = τ_ := ⟨_, rfl⟩
  refine go_if_eq C 49 rfl dX12_born_5 (fun hc => ?_) (fun hc => ?_)
  · replace hw := hw.1 hc
    refine go_iconst (v := (-1)) C rfl dX12_born_49 ?_
    exact go_iret C hr ⟨_, rfl, hw⟩ dX12_born_50
  · replace hw := hw.2 hc
    refine go_iload_n C 2 rfl rfl dX12_born_8 ?_
    refine go_iload_n C 3 rfl rfl dX12_born_9 ?_
    refine go_iload C 4 rfl dX12_born_10 ?_
    refine go_callS (as := [.int a2, .int a3, .int a4]) C hR cwX12_203 (Nat.le_trans (by decide) hd) (by decide) rfl rfl (Nat.le_of_ble_eq_true rfl) dX12_born_12 (spX12_isCradle (Nat.le_refl _) hN hw) (fun v_ τ_ hw => ?_)
    obtain ⟨r_3, rfl, hw⟩ := hw
    obtain ⟨σ_4, rfl⟩ : ∃ z, z = τ_ := ⟨_, rfl⟩
    refine go_if_eq C 49 rfl dX12_born_15 (fun hc => ?_) (fun hc => ?_)
    · replace hw := hw.1 hc
      refine go_iconst (v := (-1)) C rfl dX12_born_49 ?_
      exact go_iret C hr ⟨_, rfl, hw⟩ dX12_born_50
    · replace hw := hw.2 hc
      refine go_iload C 5 rfl dX12_born_18 ?_
      refine go_iconst (v := 1) C rfl dX12_born_20 ?_
      refine go_bipush (v := 40) C rfl dX12_born_21 ?_
      refine go_callS (as := [.int a5, .int 1, .int 40]) C hR cwX12_152 (Nat.le_trans (by decide) hd) (by decide) rfl rfl (Nat.le_of_ble_eq_true rfl) dX12_born_23 (spX12_in (Nat.le_refl _) hN hw) (fun v_ τ_ hw => ?_)
      obtain ⟨r_5, rfl, hw⟩ := hw
      obtain ⟨σ_6, rfl⟩ : ∃ z, z = τ_ := ⟨_, rfl⟩
      refine go_if_eq C 49 rfl dX12_born_26 (fun hc => ?_) (fun hc => ?_)
      · replace hw := hw.1 hc
        refine go_iconst (v := (-1)) C rfl dX12_born_49 ?_
        exact go_iret C hr ⟨_, rfl, hw⟩ dX12_born_50
      · replace hw := hw.2 hc
        refine go_iload C 6 rfl dX12_born_29 ?_
        refine go_iconst (v := 1) C rfl dX12_born_31 ?_
        refine go_bipush (v := 99) C rfl dX12_born_32 ?_
        refine go_callS (as := [.int a6, .int 1, .int 99]) C hR cwX12_152 (Nat.le_trans (by decide) hd) (by decide) rfl rfl (Nat.le_of_ble_eq_true rfl) dX12_born_34 (spX12_in (Nat.le_refl _) hN hw) (fun v_ τ_ hw => ?_)
        obtain ⟨r_7, rfl, hw⟩ := hw
        obtain ⟨σ_8, rfl⟩ : ∃ z, z = τ_ := ⟨_, rfl⟩
        refine go_if_eq C 49 rfl dX12_born_37 (fun hc => ?_) (fun hc => ?_)
        · replace hw := hw.1 hc
          refine go_iconst (v := (-1)) C rfl dX12_born_49 ?_
          exact go_iret C hr ⟨_, rfl, hw⟩ dX12_born_50
        · replace hw := hw.2 hc
          refine go_aload_n C 0 rfl rfl dX12_born_40 ?_
          refine go_get (v := .ref (G.2.2.1 76)) C (shX12 G) (ltX12 hN) lkX12_7 rfl dX12_born_41 ?_
          refine go_iconst (v := 0) C rfl dX12_born_44 ?_
          refine go_iald C (saX12_a G) (laX12_a hN) hw.1 dX12_born_45 ?_
          replace hw := hw.2
          refine go_if_le C 51 rfl dX12_born_46 (fun hc => ?_) (fun hc => ?_)
          · replace hw := hw.1 hc
            refine go_sipush (v := 2000) C rfl dX12_born_51 ?_
            refine go_iload C 5 rfl dX12_born_54 ?_
            refine go_iconst (v := 1) C rfl dX12_born_56 ?_
            refine go_isub C dX12_born_57 ?_
            refine go_sipush (v := 192) C rfl dX12_born_58 ?_
            refine go_imul C dX12_born_61 ?_
            refine go_iadd C dX12_born_62 ?_
            refine go_iload_n C 2 rfl rfl dX12_born_63 ?_
            refine go_iload_n C 3 rfl rfl dX12_born_64 ?_
            refine go_iload C 4 rfl dX12_born_65 ?_
            refine go_callS (as := [.int a2, .int a3, .int a4]) C hR cwX12_206 (Nat.le_trans (by decide) hd) (by decide) rfl rfl (Nat.le_of_ble_eq_true rfl) dX12_born_67 (spX12_cell (Nat.le_refl _) hN hw) (fun v_ τ_ hw => ?_)
            obtain ⟨r_9, rfl, hw⟩ := hw
            obtain ⟨σ_10, rfl⟩ : ∃ z, z = τ_ := ⟨_, rfl⟩
            refine go_bipush (v := 16) C rfl dX12_born_70 ?_
            refine go_imul C dX12_born_72 ?_
            refine go_iadd C dX12_born_73 ?_
            refine go_iload_n C 1 rfl rfl dX12_born_74 ?_
            refine go_iadd C dX12_born_75 ?_
            refine go_topi (fun v7_11 ev7_11 => ?_)
            replace hw := hw v7_11 ev7_11
            refine go_istore (lv2 := [(7, .int v7_11), (0, .ref (G.2.2.1 75)), (1, .int a1), (2, .int a2), (3, .int a3), (4, .int a4), (5, .int a5), (6, .int a6)]) C (by rw [hnl]; decide) rfl dX12_born_76 ?_
            refine go_aload_n C 1 rfl rfl dX12_born_78 ?_
            refine go_get (v := .ref (G.2.2.1 76)) C (shX12 G) (ltX12 hN) lkX12_7 rfl dX12_born_79 ?_
            refine go_iload C 0 rfl dX12_born_82 ?_
            refine go_iald C (saX12_a G) (laX12_a hN) hw.1 dX12_born_84 ?_
            replace hw := hw.2
            refine go_iload C 7 rfl dX12_born_85 ?_
            refine go_iadd C dX12_born_87 ?_
            refine go_sipush (v := 9999) C rfl dX12_born_88 ?_
            refine go_icmp_le C 96 rfl dX12_born_91 (fun hc => ?_) (fun hc => ?_)
            · replace hw := hw.1 hc
              refine go_aload_n C 1 rfl rfl dX12_born_96 ?_
              refine go_get (v := .ref (G.2.2.1 76)) C (shX12 G) (ltX12 hN) lkX12_7 rfl dX12_born_97 ?_
              refine go_iload C 0 rfl dX12_born_100 ?_
              refine go_dup2 C rfl rfl dX12_born_102 ?_
              refine go_iald C (saX12_a G) (laX12_a hN) hw.1 dX12_born_103 ?_
              replace hw := hw.2
              refine go_iload C 7 rfl dX12_born_104 ?_
              refine go_iadd C dX12_born_106 ?_
              refine go_iast C (saX12_a G) (laX12_a hN) hw.1 dX12_born_107 (go_nm fun σ_12 eσ_12 => ?_)
              replace hw := hw.2 σ_12 eσ_12
              refine go_aload_n C 1 rfl rfl dX12_born_108 ?_
              refine go_get (v := .ref (G.2.2.1 76)) C (shX12 G) (ltX12 hN) lkX12_7 rfl dX12_born_109 ?_
              refine go_iload C 0 rfl dX12_born_112 ?_
              refine go_iald C (saX12_a G) (laX12_a hN) hw.1 dX12_born_114 ?_
              replace hw := hw.2
              exact go_iret C hr ⟨_, rfl, hw⟩ dX12_born_115
            · replace hw := hw.2 hc
              refine go_iconst (v := (-1)) C rfl dX12_born_94 ?_
              exact go_iret C hr ⟨_, rfl, hw⟩ dX12_born_95
          · replace hw := hw.2 hc
            refine go_iconst (v := (-1)) C rfl dX12_born_49 ?_
            exact go_iret C hr ⟨_, rfl, hw⟩ dX12_born_50
-- CradleNamesModel.life(I)Z
set_option maxRecDepth 20000 in
set_option maxHeartbeats 4000000 in
theorem spX12_life {l : Launch} {G : GT} {d : Nat}  (hd : 2 ≤ d)  (hN : 119 ≤ G.2.2.2.2.2)  {a1 : Int32} {σ : St} {post : Int32 → St → Prop} (hw : wpX12_life  a1 σ post) : Sp l G d yX12_life cX12_life 2 (some .boolean) [.ref (G.2.2.1 75), .int a1] σ (fun v τ => ∃ r : Int32, v = some (.int r) ∧ post r τ) := by
  refine Sp.of (by decide) (Nat.le_of_ble_eq_true rfl) fun X C hr hR hnl => ?_
  show Go X G 0 [(0, .ref (G.2.2.1 75)), (1, .int a1)] [] σ
  have hw : wpX12_in a1 20 90 σ (fun r_1 σ_2 =>
  ((r_1 = 0 →
    post 0 σ_2) ∧
  (¬ r_1 = 0 →
    vp_in 0 9680 ∧ (
    (((gI σ_2 76 (0 : Int32).toNatClampNeg) ≤ 0 →
      vp_in 6 9680 ∧ (
      ∀ σ_3 : St, σ_3 = sI σ_2 76 (6 : Int32).toNatClampNeg a1 →
      post 1 σ_3)) ∧
    (¬ (gI σ_2 76 (0 : Int32).toNatClampNeg) ≤ 0 →
      post 0 σ_2)))))) := hw
  refine go_iload_n C 1 rfl rfl dX12_life_0 ?_
  refine go_bipush (v := 20) C rfl dX12_life_1 ?_
  refine go_bipush (v := 90) C rfl dX12_life_3 ?_
  refine go_callS (as := [.int a1, .int 20, .int 90]) C hR cwX12_152 (Nat.le_trans (by decide) hd) (by decide) rfl rfl (Nat.le_of_ble_eq_true rfl) dX12_life_5 (spX12_in (Nat.le_refl _) hN hw) (fun v_ τ_ hw => ?_)
  obtain ⟨r_1, rfl, hw⟩ := hw
  obtain ⟨σ_2, rfl⟩ : ∃ z, z = τ_ := ⟨_, rfl⟩
  refine go_if_eq C 20 rfl dX12_life_8 (fun hc => ?_) (fun hc => ?_)
  · replace hw := hw.1 hc
    refine go_iconst (v := 0) C rfl dX12_life_20 ?_
    exact go_zret C hr rfl ⟨_, rfl, hw⟩ dX12_life_21
  · replace hw := hw.2 hc
    refine go_aload_n C 0 rfl rfl dX12_life_11 ?_
    refine go_get (v := .ref (G.2.2.1 76)) C (shX12 G) (ltX12 hN) lkX12_7 rfl dX12_life_12 ?_
    refine go_iconst (v := 0) C rfl dX12_life_15 ?_
    refine go_iald C (saX12_a G) (laX12_a hN) hw.1 dX12_life_16 ?_
    replace hw := hw.2
    refine go_if_le C 22 rfl dX12_life_17 (fun hc => ?_) (fun hc => ?_)
    · replace hw := hw.1 hc
      refine go_aload_n C 0 rfl rfl dX12_life_22 ?_
      refine go_get (v := .ref (G.2.2.1 76)) C (shX12 G) (ltX12 hN) lkX12_7 rfl dX12_life_23 ?_
      refine go_bipush (v := 6) C rfl dX12_life_26 ?_
      refine go_iload_n C 1 rfl rfl dX12_life_28 ?_
      refine go_iast C (saX12_a G) (laX12_a hN) hw.1 dX12_life_29 (go_nm fun σ_3 eσ_3 => ?_)
      replace hw := hw.2 σ_3 eσ_3
      refine go_iconst (v := 1) C rfl dX12_life_30 ?_
      exact go_zret C hr rfl ⟨_, rfl, hw⟩ dX12_life_31
    · replace hw := hw.2 hc
      refine go_iconst (v := 0) C rfl dX12_life_20 ?_
      exact go_zret C hr rfl ⟨_, rfl, hw⟩ dX12_life_21
-- CradleNamesModel.cradles(IIII)Z
set_option maxRecDepth 20000 in
set_option maxHeartbeats 4000000 in
theorem spX12_cradles {l : Launch} {G : GT} {d : Nat}  (hd : 3 ≤ d)  (hN : 119 ≤ G.2.2.2.2.2)  {a1 : Int32} {a2 : Int32} {a3 : Int32} {a4 : Int32} {σ : St} {post : Int32 → St → Prop} (hw : wpX12_cradles  a1 a2 a3 a4 σ post) : Sp l G d yX12_cradles cX12_cradles 5 (some .boolean) [.ref (G.2.2.1 75), .int a1, .int a2, .int a3, .int a4] σ (fun v τ => ∃ r : Int32, v = some (.int r) ∧ post r τ) := by
  refine Sp.of (by decide) (Nat.le_of_ble_eq_true rfl) fun X C hr hR hnl => ?_
  show Go X G 0 [(0, .ref (G.2.2.1 75)), (1, .int a1), (2, .int a2), (3, .int a3), (4, .int a4)] [] σ
  have hw : wpX12_isCradle a1 a2 a3 σ (fun r_1 σ_2 =>
  ((r_1 = 0 →
    post 0 σ_2) ∧
  (¬ r_1 = 0 →
    wpX12_in a4 0 6 σ_2 (fun r_3 σ_4 =>
    ((¬ r_3 = 0 →
      wpX12_cell a1 a2 a3 σ_4 (fun r_5 σ_6 =>
      vp_in (10 + r_5) 9680 ∧ (
      ∀ σ_7 : St, σ_7 = sI σ_6 76 (10 + r_5).toNatClampNeg a4 →
      post 1 σ_7))) ∧
    (r_3 = 0 →
      post 0 σ_4)))))) := hw
  refine go_iload_n C 1 rfl rfl dX12_cradles_0 ?_
  refine go_iload_n C 2 rfl rfl dX12_cradles_1 ?_
  refine go_iload_n C 3 rfl rfl dX12_cradles_2 ?_
  refine go_callS (as := [.int a1, .int a2, .int a3]) C hR cwX12_203 (Nat.le_trans (by decide) hd) (by decide) rfl rfl (Nat.le_of_ble_eq_true rfl) dX12_cradles_3 (spX12_isCradle (Nat.le_refl _) hN hw) (fun v_ τ_ hw => ?_)
  obtain ⟨r_1, rfl, hw⟩ := hw
  obtain ⟨σ_2, rfl⟩ : ∃ z, z = τ_ := ⟨_, rfl⟩
  refine go_if_eq C 20 rfl dX12_cradles_6 (fun hc => ?_) (fun hc => ?_)
  · replace hw := hw.1 hc
    refine go_iconst (v := 0) C rfl dX12_cradles_20 ?_
    exact go_zret C hr rfl ⟨_, rfl, hw⟩ dX12_cradles_21
  · replace hw := hw.2 hc
    refine go_iload C 4 rfl dX12_cradles_9 ?_
    refine go_iconst (v := 0) C rfl dX12_cradles_11 ?_
    refine go_bipush (v := 6) C rfl dX12_cradles_12 ?_
    refine go_callS (as := [.int a4, .int 0, .int 6]) C hR cwX12_152 (Nat.le_trans (by decide) hd) (by decide) rfl rfl (Nat.le_of_ble_eq_true rfl) dX12_cradles_14 (spX12_in (Nat.le_refl _) hN hw) (fun v_ τ_ hw => ?_)
    obtain ⟨r_3, rfl, hw⟩ := hw
    obtain ⟨σ_4, rfl⟩ : ∃ z, z = τ_ := ⟨_, rfl⟩
    refine go_if_ne C 22 rfl dX12_cradles_17 (fun hc => ?_) (fun hc => ?_)
    · replace hw := hw.1 hc
      refine go_aload_n C 0 rfl rfl dX12_cradles_22 ?_
      refine go_get (v := .ref (G.2.2.1 76)) C (shX12 G) (ltX12 hN) lkX12_7 rfl dX12_cradles_23 ?_
      refine go_bipush (v := 10) C rfl dX12_cradles_26 ?_
      refine go_iload_n C 1 rfl rfl dX12_cradles_28 ?_
      refine go_iload_n C 2 rfl rfl dX12_cradles_29 ?_
      refine go_iload_n C 3 rfl rfl dX12_cradles_30 ?_
      refine go_callS (as := [.int a1, .int a2, .int a3]) C hR cwX12_206 (Nat.le_trans (by decide) hd) (by decide) rfl rfl (Nat.le_of_ble_eq_true rfl) dX12_cradles_31 (spX12_cell (Nat.le_refl _) hN hw) (fun v_ τ_ hw => ?_)
      obtain ⟨r_5, rfl, hw⟩ := hw
      obtain ⟨σ_6, rfl⟩ : ∃ z, z = τ_ := ⟨_, rfl⟩
      refine go_iadd C dX12_cradles_34 ?_
      refine go_iload C 4 rfl dX12_cradles_35 ?_
      refine go_iast C (saX12_a G) (laX12_a hN) hw.1 dX12_cradles_37 (go_nm fun σ_7 eσ_7 => ?_)
      replace hw := hw.2 σ_7 eσ_7
      refine go_iconst (v := 1) C rfl dX12_cradles_38 ?_
      exact go_zret C hr rfl ⟨_, rfl, hw⟩ dX12_cradles_39
    · replace hw := hw.2 hc
      refine go_iconst (v := 0) C rfl dX12_cradles_20 ?_
      exact go_zret C hr rfl ⟨_, rfl, hw⟩ dX12_cradles_21
-- CradleNamesModel.list(II)I
set_option maxRecDepth 20000 in
set_option maxHeartbeats 4000000 in
theorem spX12_list {l : Launch} {G : GT} {d : Nat}  (hd : 2 ≤ d)  (hN : 119 ≤ G.2.2.2.2.2)  {a1 : Int32} {a2 : Int32} {σ : St} {post : Int32 → St → Prop} (hw : wpX12_list  a1 a2 σ post) : Sp l G d yX12_list cX12_list 3 (some .int) [.ref (G.2.2.1 75), .int a1, .int a2] σ (fun v τ => ∃ r : Int32, v = some (.int r) ∧ post r τ) := by
  refine Sp.of (by decide) (Nat.le_of_ble_eq_true rfl) fun X C hr hR hnl => ?_
  show Go X G 0 [(0, .ref (G.2.2.1 75)), (1, .int a1), (2, .int a2)] [] σ
  have hw : vp_in 0 9680 ∧ (
  wpX12_in a1 (gI σ 76 (0 : Int32).toNatClampNeg) 60 σ (fun r_1 σ_2 =>
  ((r_1 = 0 →
    post (-1) σ_2) ∧
  (¬ r_1 = 0 →
    vp_in 2 9680 ∧ (
    ((¬ (gI σ_2 76 (2 : Int32).toNatClampNeg) = 8 →
      vp_in 2 9680 ∧ (
      vp_in (50 + (2 * (gI σ_2 76 (2 : Int32).toNatClampNeg))) 9680 ∧ (
      ∀ σ_3 : St, σ_3 = sI σ_2 76 (50 + (2 * (gI σ_2 76 (2 : Int32).toNatClampNeg))).toNatClampNeg a1 →
      vp_in 2 9680 ∧ (
      vp_in 1 9680 ∧ (
      vp_in ((50 + (2 * (gI σ_3 76 (2 : Int32).toNatClampNeg))) + 1) 9680 ∧ (
      ∀ σ_4 : St, σ_4 = sI σ_3 76 ((50 + (2 * (gI σ_3 76 (2 : Int32).toNatClampNeg))) + 1).toNatClampNeg (a2 &&& ((1 <<< ((gI σ_3 76 (1 : Int32).toNatClampNeg) &&& 31)) - 1)) →
      vp_in 2 9680 ∧ (
      vp_in 2 9680 ∧ (
      ∀ σ_5 : St, σ_5 = sI σ_4 76 (2 : Int32).toNatClampNeg ((gI σ_4 76 (2 : Int32).toNatClampNeg) + 1) →
      vp_in 2 9680 ∧ (
      post (gI σ_5 76 (2 : Int32).toNatClampNeg) σ_5))))))))) ∧
    ((gI σ_2 76 (2 : Int32).toNatClampNeg) = 8 →
      post (-1) σ_2))))))) := hw
  refine go_iload_n C 1 rfl rfl dX12_list_0 ?_
  refine go_aload_n C 0 rfl rfl dX12_list_1 ?_
  refine go_get (v := .ref (G.2.2.1 76)) C (shX12 G) (ltX12 hN) lkX12_7 rfl dX12_list_2 ?_
  refine go_iconst (v := 0) C rfl dX12_list_5 ?_
  refine go_iald C (saX12_a G) (laX12_a hN) hw.1 dX12_list_6 ?_
  replace hw := hw.2
  refine go_bipush (v := 60) C rfl dX12_list_7 ?_
  refine go_callS (as := [.int a1, .int (gI σ 76 (0 : Int32).toNatClampNeg), .int 60]) C hR cwX12_152 (Nat.le_trans (by decide) hd) (by decide) rfl rfl (Nat.le_of_ble_eq_true rfl) dX12_list_9 (spX12_in (Nat.le_refl _) hN hw) (fun v_ τ_ hw => ?_)
  obtain ⟨r_1, rfl, hw⟩ := hw
  obtain ⟨σ_2, rfl⟩ : ∃ z, z = τ_ := ⟨_, rfl⟩
  refine go_if_eq C 26 rfl dX12_list_12 (fun hc => ?_) (fun hc => ?_)
  · replace hw := hw.1 hc
    refine go_iconst (v := (-1)) C rfl dX12_list_26 ?_
    exact go_iret C hr ⟨_, rfl, hw⟩ dX12_list_27
  · replace hw := hw.2 hc
    refine go_aload_n C 0 rfl rfl dX12_list_15 ?_
    refine go_get (v := .ref (G.2.2.1 76)) C (shX12 G) (ltX12 hN) lkX12_7 rfl dX12_list_16 ?_
    refine go_iconst (v := 2) C rfl dX12_list_19 ?_
    refine go_iald C (saX12_a G) (laX12_a hN) hw.1 dX12_list_20 ?_
    replace hw := hw.2
    refine go_bipush (v := 8) C rfl dX12_list_21 ?_
    refine go_icmp_ne C 28 rfl dX12_list_23 (fun hc => ?_) (fun hc => ?_)
    · replace hw := hw.1 hc
      refine go_aload_n C 0 rfl rfl dX12_list_28 ?_
      refine go_get (v := .ref (G.2.2.1 76)) C (shX12 G) (ltX12 hN) lkX12_7 rfl dX12_list_29 ?_
      refine go_bipush (v := 50) C rfl dX12_list_32 ?_
      refine go_iconst (v := 2) C rfl dX12_list_34 ?_
      refine go_aload_n C 0 rfl rfl dX12_list_35 ?_
      refine go_get (v := .ref (G.2.2.1 76)) C (shX12 G) (ltX12 hN) lkX12_7 rfl dX12_list_36 ?_
      refine go_iconst (v := 2) C rfl dX12_list_39 ?_
      refine go_iald C (saX12_a G) (laX12_a hN) hw.1 dX12_list_40 ?_
      replace hw := hw.2
      refine go_imul C dX12_list_41 ?_
      refine go_iadd C dX12_list_42 ?_
      refine go_iload_n C 1 rfl rfl dX12_list_43 ?_
      refine go_iast C (saX12_a G) (laX12_a hN) hw.1 dX12_list_44 (go_nm fun σ_3 eσ_3 => ?_)
      replace hw := hw.2 σ_3 eσ_3
      refine go_aload_n C 0 rfl rfl dX12_list_45 ?_
      refine go_get (v := .ref (G.2.2.1 76)) C (shX12 G) (ltX12 hN) lkX12_7 rfl dX12_list_46 ?_
      refine go_bipush (v := 50) C rfl dX12_list_49 ?_
      refine go_iconst (v := 2) C rfl dX12_list_51 ?_
      refine go_aload_n C 0 rfl rfl dX12_list_52 ?_
      refine go_get (v := .ref (G.2.2.1 76)) C (shX12 G) (ltX12 hN) lkX12_7 rfl dX12_list_53 ?_
      refine go_iconst (v := 2) C rfl dX12_list_56 ?_
      refine go_iald C (saX12_a G) (laX12_a hN) hw.1 dX12_list_57 ?_
      replace hw := hw.2
      refine go_imul C dX12_list_58 ?_
      refine go_iadd C dX12_list_59 ?_
      refine go_iconst (v := 1) C rfl dX12_list_60 ?_
      refine go_iadd C dX12_list_61 ?_
      refine go_iload_n C 2 rfl rfl dX12_list_62 ?_
      refine go_iconst (v := 1) C rfl dX12_list_63 ?_
      refine go_aload_n C 0 rfl rfl dX12_list_64 ?_
      refine go_get (v := .ref (G.2.2.1 76)) C (shX12 G) (ltX12 hN) lkX12_7 rfl dX12_list_65 ?_
      refine go_iconst (v := 1) C rfl dX12_list_68 ?_
      refine go_iald C (saX12_a G) (laX12_a hN) hw.1 dX12_list_69 ?_
      replace hw := hw.2
      refine go_ishl C dX12_list_70 ?_
      refine go_iconst (v := 1) C rfl dX12_list_71 ?_
      refine go_isub C dX12_list_72 ?_
      refine go_iand C dX12_list_73 ?_
      refine go_iast C (saX12_a G) (laX12_a hN) hw.1 dX12_list_74 (go_nm fun σ_4 eσ_4 => ?_)
      replace hw := hw.2 σ_4 eσ_4
      refine go_aload_n C 0 rfl rfl dX12_list_75 ?_
      refine go_get (v := .ref (G.2.2.1 76)) C (shX12 G) (ltX12 hN) lkX12_7 rfl dX12_list_76 ?_
      refine go_iconst (v := 2) C rfl dX12_list_79 ?_
      refine go_dup2 C rfl rfl dX12_list_80 ?_
      refine go_iald C (saX12_a G) (laX12_a hN) hw.1 dX12_list_81 ?_
      replace hw := hw.2
      refine go_iconst (v := 1) C rfl dX12_list_82 ?_
      refine go_iadd C dX12_list_83 ?_
      refine go_iast C (saX12_a G) (laX12_a hN) hw.1 dX12_list_84 (go_nm fun σ_5 eσ_5 => ?_)
      replace hw := hw.2 σ_5 eσ_5
      refine go_aload_n C 0 rfl rfl dX12_list_85 ?_
      refine go_get (v := .ref (G.2.2.1 76)) C (shX12 G) (ltX12 hN) lkX12_7 rfl dX12_list_86 ?_
      refine go_iconst (v := 2) C rfl dX12_list_89 ?_
      refine go_iald C (saX12_a G) (laX12_a hN) hw.1 dX12_list_90 ?_
      replace hw := hw.2
      exact go_iret C hr ⟨_, rfl, hw⟩ dX12_list_91
    · replace hw := hw.2 hc
      refine go_iconst (v := (-1)) C rfl dX12_list_26 ?_
      exact go_iret C hr ⟨_, rfl, hw⟩ dX12_list_27
-- CradleNamesModel.film(III)I
set_option maxRecDepth 20000 in
set_option maxHeartbeats 4000000 in
theorem spX12_film {l : Launch} {G : GT} {d : Nat}  (hd : 3 ≤ d)  (hN : 119 ≤ G.2.2.2.2.2)  {a1 : Int32} {a2 : Int32} {a3 : Int32} {σ : St} {post : Int32 → St → Prop} (hw : wpX12_film  a1 a2 a3 σ post) : Sp l G d yX12_film cX12_film 5 (some .int) [.ref (G.2.2.1 75), .int a1, .int a2, .int a3] σ (fun v τ => ∃ r : Int32, v = some (.int r) ∧ post r τ) := by
  refine Sp.of (by decide) (Nat.le_of_ble_eq_true rfl) fun X C hr hR hnl => ?_
  show Go X G 0 [(0, .ref (G.2.2.1 75)), (1, .int a1), (2, .int a2), (3, .int a3)] [] σ
  have hw : wpX12_isName a1 σ (fun r_1 σ_2 =>
  ((r_1 = 0 →
    post (-1) σ_2) ∧
  (¬ r_1 = 0 →
    vp_in 0 9680 ∧ (
    wpX12_in a2 (gI σ_2 76 (0 : Int32).toNatClampNeg) 60 σ_2 (fun r_3 σ_4 =>
    ((r_3 = 0 →
      post (-1) σ_4) ∧
    (¬ r_3 = 0 →
      wpX12_in a3 1 999 σ_4 (fun r_5 σ_6 =>
      ((r_5 = 0 →
        post (-1) σ_6) ∧
      (¬ r_5 = 0 →
        vp_in 3 9680 ∧ (
        ((¬ (gI σ_6 76 (3 : Int32).toNatClampNeg) = 8 →
          vp_in 3 9680 ∧ (
          ∀ v4_7 : Int32, v4_7 = (70 + (3 * (gI σ_6 76 (3 : Int32).toNatClampNeg))) →
          vp_in v4_7 9680 ∧ (
          ∀ σ_8 : St, σ_8 = sI σ_6 76 v4_7.toNatClampNeg a1 →
          vp_in (v4_7 + 1) 9680 ∧ (
          ∀ σ_9 : St, σ_9 = sI σ_8 76 (v4_7 + 1).toNatClampNeg a2 →
          vp_in (v4_7 + 2) 9680 ∧ (
          ∀ σ_10 : St, σ_10 = sI σ_9 76 (v4_7 + 2).toNatClampNeg a3 →
          vp_in 3 9680 ∧ (
          vp_in 3 9680 ∧ (
          ∀ σ_11 : St, σ_11 = sI σ_10 76 (3 : Int32).toNatClampNeg ((gI σ_10 76 (3 : Int32).toNatClampNeg) + 1) →
          vp_in 3 9680 ∧ (
          post ((gI σ_11 76 (3 : Int32).toNatClampNeg) - 1) σ_11)))))))) ∧
        ((gI σ_6 76 (3 : Int32).toNatClampNeg) = 8 →
          post (-1) σ_6))))))))))))) := hw
  refine go_aload_n C 0 rfl rfl dX12_film_0 ?_
  refine go_iload_n C 1 rfl rfl dX12_film_1 ?_
  refine go_callV (as := [.int a1]) C hR (shX12 G) (ltX12 hN) cwX12_182 (Nat.le_trans (by decide) hd) (by decide) rfl rfl (Nat.le_of_ble_eq_true rfl) dX12_film_2 (spX12_isName (Nat.le_refl _) hN hw) (fun v_ τ_ hw => ?_)
  obtain ⟨r_1, rfl, hw⟩ := hw
  obtain ⟨σ_2, rfl⟩ : ∃ z, z = τ_ := ⟨_, rfl⟩
  refine go_if_eq C 45 rfl dX12_film_5 (fun hc => ?_) (fun hc => ?_)
  · replace hw := hw.1 hc
    refine go_iconst (v := (-1)) C rfl dX12_film_45 ?_
    exact go_iret C hr ⟨_, rfl, hw⟩ dX12_film_46
  · replace hw := hw.2 hc
    refine go_iload_n C 2 rfl rfl dX12_film_8 ?_
    refine go_aload_n C 0 rfl rfl dX12_film_9 ?_
    refine go_get (v := .ref (G.2.2.1 76)) C (shX12 G) (ltX12 hN) lkX12_7 rfl dX12_film_10 ?_
    refine go_iconst (v := 0) C rfl dX12_film_13 ?_
    refine go_iald C (saX12_a G) (laX12_a hN) hw.1 dX12_film_14 ?_
    replace hw := hw.2
    refine go_bipush (v := 60) C rfl dX12_film_15 ?_
    refine go_callS (as := [.int a2, .int (gI σ_2 76 (0 : Int32).toNatClampNeg), .int 60]) C hR cwX12_152 (Nat.le_trans (by decide) hd) (by decide) rfl rfl (Nat.le_of_ble_eq_true rfl) dX12_film_17 (spX12_in (Nat.le_refl _) hN hw) (fun v_ τ_ hw => ?_)
    obtain ⟨r_3, rfl, hw⟩ := hw
    obtain ⟨σ_4, rfl⟩ : ∃ z, z = τ_ := ⟨_, rfl⟩
    refine go_if_eq C 45 rfl dX12_film_20 (fun hc => ?_) (fun hc => ?_)
    · replace hw := hw.1 hc
      refine go_iconst (v := (-1)) C rfl dX12_film_45 ?_
      exact go_iret C hr ⟨_, rfl, hw⟩ dX12_film_46
    · replace hw := hw.2 hc
      refine go_iload_n C 3 rfl rfl dX12_film_23 ?_
      refine go_iconst (v := 1) C rfl dX12_film_24 ?_
      refine go_sipush (v := 999) C rfl dX12_film_25 ?_
      refine go_callS (as := [.int a3, .int 1, .int 999]) C hR cwX12_152 (Nat.le_trans (by decide) hd) (by decide) rfl rfl (Nat.le_of_ble_eq_true rfl) dX12_film_28 (spX12_in (Nat.le_refl _) hN hw) (fun v_ τ_ hw => ?_)
      obtain ⟨r_5, rfl, hw⟩ := hw
      obtain ⟨σ_6, rfl⟩ : ∃ z, z = τ_ := ⟨_, rfl⟩
      refine go_if_eq C 45 rfl dX12_film_31 (fun hc => ?_) (fun hc => ?_)
      · replace hw := hw.1 hc
        refine go_iconst (v := (-1)) C rfl dX12_film_45 ?_
        exact go_iret C hr ⟨_, rfl, hw⟩ dX12_film_46
      · replace hw := hw.2 hc
        refine go_aload_n C 0 rfl rfl dX12_film_34 ?_
        refine go_get (v := .ref (G.2.2.1 76)) C (shX12 G) (ltX12 hN) lkX12_7 rfl dX12_film_35 ?_
        refine go_iconst (v := 3) C rfl dX12_film_38 ?_
        refine go_iald C (saX12_a G) (laX12_a hN) hw.1 dX12_film_39 ?_
        replace hw := hw.2
        refine go_bipush (v := 8) C rfl dX12_film_40 ?_
        refine go_icmp_ne C 47 rfl dX12_film_42 (fun hc => ?_) (fun hc => ?_)
        · replace hw := hw.1 hc
          refine go_bipush (v := 70) C rfl dX12_film_47 ?_
          refine go_iconst (v := 3) C rfl dX12_film_49 ?_
          refine go_aload_n C 0 rfl rfl dX12_film_50 ?_
          refine go_get (v := .ref (G.2.2.1 76)) C (shX12 G) (ltX12 hN) lkX12_7 rfl dX12_film_51 ?_
          refine go_iconst (v := 3) C rfl dX12_film_54 ?_
          refine go_iald C (saX12_a G) (laX12_a hN) hw.1 dX12_film_55 ?_
          replace hw := hw.2
          refine go_imul C dX12_film_56 ?_
          refine go_iadd C dX12_film_57 ?_
          refine go_topi (fun v4_7 ev4_7 => ?_)
          replace hw := hw v4_7 ev4_7
          refine go_istore (lv2 := [(4, .int v4_7), (0, .ref (G.2.2.1 75)), (1, .int a1), (2, .int a2), (3, .int a3)]) C (by rw [hnl]; decide) rfl dX12_film_58 ?_
          refine go_aload_n C 1 rfl rfl dX12_film_60 ?_
          refine go_get (v := .ref (G.2.2.1 76)) C (shX12 G) (ltX12 hN) lkX12_7 rfl dX12_film_61 ?_
          refine go_iload C 0 rfl dX12_film_64 ?_
          refine go_iload_n C 2 rfl rfl dX12_film_66 ?_
          refine go_iast C (saX12_a G) (laX12_a hN) hw.1 dX12_film_67 (go_nm fun σ_8 eσ_8 => ?_)
          replace hw := hw.2 σ_8 eσ_8
          refine go_aload_n C 1 rfl rfl dX12_film_68 ?_
          refine go_get (v := .ref (G.2.2.1 76)) C (shX12 G) (ltX12 hN) lkX12_7 rfl dX12_film_69 ?_
          refine go_iload C 0 rfl dX12_film_72 ?_
          refine go_iconst (v := 1) C rfl dX12_film_74 ?_
          refine go_iadd C dX12_film_75 ?_
          refine go_iload_n C 3 rfl rfl dX12_film_76 ?_
          refine go_iast C (saX12_a G) (laX12_a hN) hw.1 dX12_film_77 (go_nm fun σ_9 eσ_9 => ?_)
          replace hw := hw.2 σ_9 eσ_9
          refine go_aload_n C 1 rfl rfl dX12_film_78 ?_
          refine go_get (v := .ref (G.2.2.1 76)) C (shX12 G) (ltX12 hN) lkX12_7 rfl dX12_film_79 ?_
          refine go_iload C 0 rfl dX12_film_82 ?_
          refine go_iconst (v := 2) C rfl dX12_film_84 ?_
          refine go_iadd C dX12_film_85 ?_
          refine go_iload_n C 4 rfl rfl dX12_film_86 ?_
          refine go_iast C (saX12_a G) (laX12_a hN) hw.1 dX12_film_87 (go_nm fun σ_10 eσ_10 => ?_)
          replace hw := hw.2 σ_10 eσ_10
          refine go_aload_n C 1 rfl rfl dX12_film_88 ?_
          refine go_get (v := .ref (G.2.2.1 76)) C (shX12 G) (ltX12 hN) lkX12_7 rfl dX12_film_89 ?_
          refine go_iconst (v := 3) C rfl dX12_film_92 ?_
          refine go_dup2 C rfl rfl dX12_film_93 ?_
          refine go_iald C (saX12_a G) (laX12_a hN) hw.1 dX12_film_94 ?_
          replace hw := hw.2
          refine go_iconst (v := 1) C rfl dX12_film_95 ?_
          refine go_iadd C dX12_film_96 ?_
          refine go_iast C (saX12_a G) (laX12_a hN) hw.1 dX12_film_97 (go_nm fun σ_11 eσ_11 => ?_)
          replace hw := hw.2 σ_11 eσ_11
          refine go_aload_n C 1 rfl rfl dX12_film_98 ?_
          refine go_get (v := .ref (G.2.2.1 76)) C (shX12 G) (ltX12 hN) lkX12_7 rfl dX12_film_99 ?_
          refine go_iconst (v := 3) C rfl dX12_film_102 ?_
          refine go_iald C (saX12_a G) (laX12_a hN) hw.1 dX12_film_103 ?_
          replace hw := hw.2
          refine go_iconst (v := 1) C rfl dX12_film_104 ?_
          refine go_isub C dX12_film_105 ?_
          exact go_iret C hr ⟨_, rfl, hw⟩ dX12_film_106
        · replace hw := hw.2 hc
          refine go_iconst (v := (-1)) C rfl dX12_film_45 ?_
          exact go_iret C hr ⟨_, rfl, hw⟩ dX12_film_46
-- CradleNamesModel.put(I)V
set_option maxRecDepth 20000 in
set_option maxHeartbeats 4000000 in
theorem gbX12_put_3 {X : XT} {G : GT} {l : Launch} {d : Nat}  {post : St → Prop} (C : Cx X G cX12_put RX12) (hr : Rt X G none (fun v τ => v = none ∧ post τ)) (hR : Rm X l d) (hnl : X.2.2.2.2.2.2.2.2.2.2.1 = 3)  (hd : 1 ≤ d) (hN : 119 ≤ G.2.2.2.2.2)   
    : ∀ (n : Nat) (v1 : Int32) (v2 : Int32) (σ : St), wbX12_put_3   post n v1 v2 σ → Go X G 3 [(0, .ref (G.2.2.1 75)), (1, .int v1), (2, .int v2)] [] σ := by
  intro n
  induction n with
  | zero => intro v1 v2 σ hw; exact hw.elim
  | succ n ih =>
    intro v1 v2 σ hw
    have hw : ((v2 < 0 →
      post σ) ∧
    (¬ v2 < 0 →
      vp_in (gI σ 75 4) 300 ∧ (
      ∀ σ_1 : St, σ_1 = sI σ 79 (gI σ 75 4).toNatClampNeg (vp_nar .byte ((v1 >>> (v2 &&& 31)).toInt8.toInt32)) →
      ∀ σ_2 : St, σ_2 = sI σ_1 75 4 ((gI σ_1 75 4) + 1) →
      ∀ v2_3 : Int32, v2_3 = (v2 - 8) →
      wbX12_put_3 post n v1 v2_3 σ_2))) := hw
    refine go_iload_n C 2 rfl rfl dX12_put_3 ?_
    refine go_if_lt C 38 rfl dX12_put_4 (fun hc => ?_) (fun hc => ?_)
    · replace hw := hw.1 hc
      exact go_vret C hr ⟨rfl, hw⟩ dX12_put_38
    · replace hw := hw.2 hc
      refine go_aload_n C 0 rfl rfl dX12_put_7 ?_
      refine go_get (v := .ref (G.2.2.1 79)) C (shX12 G) (ltX12 hN) lkX12_20 rfl dX12_put_8 ?_
      refine go_aload_n C 0 rfl rfl dX12_put_11 ?_
      refine go_get (v := .int (gI σ 75 4)) C (shX12 G) (ltX12 hN) lkX12_210 rfl dX12_put_12 ?_
      refine go_iload_n C 1 rfl rfl dX12_put_15 ?_
      refine go_iload_n C 2 rfl rfl dX12_put_16 ?_
      refine go_ishr C dX12_put_17 ?_
      refine go_i2b C dX12_put_18 ?_
      refine go_bast C (saX12_tape G) (laX12_tape hN) hw.1 dX12_put_19 (go_nm fun σ_1 eσ_1 => ?_)
      replace hw := hw.2 σ_1 eσ_1
      refine go_aload_n C 0 rfl rfl dX12_put_20 ?_
      refine go_dup C rfl dX12_put_21 ?_
      refine go_get (v := .int (gI σ_1 75 4)) C (shX12 G) (ltX12 hN) lkX12_210 rfl dX12_put_22 ?_
      refine go_iconst (v := 1) C rfl dX12_put_25 ?_
      refine go_iadd C dX12_put_26 ?_
      refine go_puti C (shX12 G) (ltX12 hN) lpX12_210 (show 4 < 64 by decide) (pxX12_4 G _ _) dX12_put_27 (go_nm fun σ_2 eσ_2 => ?_)
      replace hw := hw σ_2 eσ_2
      refine go_iload_n C 2 rfl rfl dX12_put_30 ?_
      refine go_bipush (v := 8) C rfl dX12_put_31 ?_
      refine go_isub C dX12_put_33 ?_
      refine go_topi (fun v2_3 ev2_3 => ?_)
      replace hw := hw v2_3 ev2_3
      refine go_istore_n (lv2 := [(2, .int v2_3), (0, .ref (G.2.2.1 75)), (1, .int v1)]) C rfl (by rw [hnl]; decide) rfl dX12_put_34 ?_
      refine go_goto C 3 rfl dX12_put_35 ?_
      refine go_sub [1, 2, 0] rfl ?_
      exact ih _ _ _ hw
set_option maxRecDepth 20000 in
set_option maxHeartbeats 4000000 in
theorem spX12_put {l : Launch} {G : GT} {d : Nat}  (hd : 1 ≤ d)  (hN : 119 ≤ G.2.2.2.2.2)  {a1 : Int32} {σ : St} {post : St → Prop} (hw : wpX12_put  a1 σ post) : Sp l G d yX12_put cX12_put 3 none [.ref (G.2.2.1 75), .int a1] σ (fun v τ => v = none ∧ post τ) := by
  refine Sp.of (by decide) (Nat.le_of_ble_eq_true rfl) fun X C hr hR hnl => ?_
  show Go X G 0 [(0, .ref (G.2.2.1 75)), (1, .int a1)] [] σ
  have hw : ∃ m_3, wbX12_put_3 post m_3 a1 24 σ := hw
  refine go_bipush (v := 24) C rfl dX12_put_0 ?_
  refine go_istore_n (lv2 := [(2, .int 24), (0, .ref (G.2.2.1 75)), (1, .int a1)]) C rfl (by rw [hnl]; decide) rfl dX12_put_2 ?_
  refine go_sub [1, 2, 0] rfl ?_
  obtain ⟨n_0, hw⟩ := hw
  exact (gbX12_put_3 C hr hR hnl hd hN) n_0 _ _ _ hw
-- CradleNamesModel.feed(IIIII)I
set_option maxRecDepth 20000 in
set_option maxHeartbeats 4000000 in
theorem spX12_feed {l : Launch} {G : GT} {d : Nat}  (hd : 2 ≤ d)  (hN : 119 ≤ G.2.2.2.2.2)  {a1 : Int32} {a2 : Int32} {a3 : Int32} {a4 : Int32} {a5 : Int32} {σ : St} {post : Int32 → St → Prop} (hw : wpX12_feed  a1 a2 a3 a4 a5 σ post) : Sp l G d yX12_feed cX12_feed 6 (some .int) [.ref (G.2.2.1 75), .int a1, .int a2, .int a3, .int a4, .int a5] σ (fun v τ => ∃ r : Int32, v = some (.int r) ∧ post r τ) := by
  refine Sp.of (by decide) (Nat.le_of_ble_eq_true rfl) fun X C hr hR hnl => ?_
  show Go X G 0 [(0, .ref (G.2.2.1 75)), (1, .int a1), (2, .int a2), (3, .int a3), (4, .int a4), (5, .int a5)] [] σ
  have hw : ((((gI σ 75 4) + 20) ≤ 300 →
    wpX12_put a1 σ (fun σ_2 =>
    wpX12_put a2 σ_2 (fun σ_4 =>
    wpX12_put a3 σ_4 (fun σ_6 =>
    wpX12_put a4 σ_6 (fun σ_8 =>
    wpX12_put a5 σ_8 (fun σ_10 =>
    post (gI σ_10 75 4) σ_10)))))) ∧
  (¬ ((gI σ 75 4) + 20) ≤ 300 →
    post (-1) σ)) := hw
  refine go_aload_n C 0 rfl rfl dX12_feed_0 ?_
  refine go_get (v := .int (gI σ 75 4)) C (shX12 G) (ltX12 hN) lkX12_210 rfl dX12_feed_1 ?_
  refine go_bipush (v := 20) C rfl dX12_feed_4 ?_
  refine go_iadd C dX12_feed_6 ?_
  refine go_sipush (v := 300) C rfl dX12_feed_7 ?_
  refine go_icmp_le C 15 rfl dX12_feed_10 (fun hc => ?_) (fun hc => ?_)
  · replace hw := hw.1 hc
    refine go_aload_n C 0 rfl rfl dX12_feed_15 ?_
    refine go_iload_n C 1 rfl rfl dX12_feed_16 ?_
    refine go_callV (as := [.int a1]) C hR (shX12 G) (ltX12 hN) cwX12_213 (Nat.le_trans (by decide) hd) (by decide) rfl rfl (Nat.le_of_ble_eq_true rfl) dX12_feed_17 (spX12_put (Nat.le_refl _) hN hw) (fun v_ τ_ hw => ?_)
    obtain ⟨rfl, hw⟩ := hw
    obtain ⟨σ_2, rfl⟩ : ∃ z, z = τ_ := ⟨_, rfl⟩
    refine go_aload_n C 0 rfl rfl dX12_feed_20 ?_
    refine go_iload_n C 2 rfl rfl dX12_feed_21 ?_
    refine go_callV (as := [.int a2]) C hR (shX12 G) (ltX12 hN) cwX12_213 (Nat.le_trans (by decide) hd) (by decide) rfl rfl (Nat.le_of_ble_eq_true rfl) dX12_feed_22 (spX12_put (Nat.le_refl _) hN hw) (fun v_ τ_ hw => ?_)
    obtain ⟨rfl, hw⟩ := hw
    obtain ⟨σ_4, rfl⟩ : ∃ z, z = τ_ := ⟨_, rfl⟩
    refine go_aload_n C 0 rfl rfl dX12_feed_25 ?_
    refine go_iload_n C 3 rfl rfl dX12_feed_26 ?_
    refine go_callV (as := [.int a3]) C hR (shX12 G) (ltX12 hN) cwX12_213 (Nat.le_trans (by decide) hd) (by decide) rfl rfl (Nat.le_of_ble_eq_true rfl) dX12_feed_27 (spX12_put (Nat.le_refl _) hN hw) (fun v_ τ_ hw => ?_)
    obtain ⟨rfl, hw⟩ := hw
    obtain ⟨σ_6, rfl⟩ : ∃ z, z = τ_ := ⟨_, rfl⟩
    refine go_aload_n C 0 rfl rfl dX12_feed_30 ?_
    refine go_iload C 4 rfl dX12_feed_31 ?_
    refine go_callV (as := [.int a4]) C hR (shX12 G) (ltX12 hN) cwX12_213 (Nat.le_trans (by decide) hd) (by decide) rfl rfl (Nat.le_of_ble_eq_true rfl) dX12_feed_33 (spX12_put (Nat.le_refl _) hN hw) (fun v_ τ_ hw => ?_)
    obtain ⟨rfl, hw⟩ := hw
    obtain ⟨σ_8, rfl⟩ : ∃ z, z = τ_ := ⟨_, rfl⟩
    refine go_aload_n C 0 rfl rfl dX12_feed_36 ?_
    refine go_iload C 5 rfl dX12_feed_37 ?_
    refine go_callV (as := [.int a5]) C hR (shX12 G) (ltX12 hN) cwX12_213 (Nat.le_trans (by decide) hd) (by decide) rfl rfl (Nat.le_of_ble_eq_true rfl) dX12_feed_39 (spX12_put (Nat.le_refl _) hN hw) (fun v_ τ_ hw => ?_)
    obtain ⟨rfl, hw⟩ := hw
    obtain ⟨σ_10, rfl⟩ : ∃ z, z = τ_ := ⟨_, rfl⟩
    refine go_aload_n C 0 rfl rfl dX12_feed_42 ?_
    refine go_get (v := .int (gI σ_10 75 4)) C (shX12 G) (ltX12 hN) lkX12_210 rfl dX12_feed_43 ?_
    exact go_iret C hr ⟨_, rfl, hw⟩ dX12_feed_46
  · replace hw := hw.2 hc
    refine go_iconst (v := (-1)) C rfl dX12_feed_13 ?_
    exact go_iret C hr ⟨_, rfl, hw⟩ dX12_feed_14
-- CradleNamesModel.end(I)I
set_option maxRecDepth 20000 in
set_option maxHeartbeats 4000000 in
theorem spX12_end {l : Launch} {G : GT} {d : Nat}  (hd : 2 ≤ d)  (hN : 119 ≤ G.2.2.2.2.2)  {a1 : Int32} {σ : St} {post : Int32 → St → Prop} (hw : wpX12_end  a1 σ post) : Sp l G d yX12_end cX12_end 2 (some .int) [.ref (G.2.2.1 75), .int a1] σ (fun v τ => ∃ r : Int32, v = some (.int r) ∧ post r τ) := by
  refine Sp.of (by decide) (Nat.le_of_ble_eq_true rfl) fun X C hr hR hnl => ?_
  show Go X G 0 [(0, .ref (G.2.2.1 75)), (1, .int a1)] [] σ
  have hw : wpX12_in a1 0 (gI σ 75 4) σ (fun r_1 σ_2 =>
  ((¬ r_1 = 0 →
    ∀ σ_3 : St, σ_3 = sI σ_2 75 4 a1 →
    post a1 σ_3) ∧
  (r_1 = 0 →
    post (-1) σ_2))) := hw
  refine go_iload_n C 1 rfl rfl dX12_end_0 ?_
  refine go_iconst (v := 0) C rfl dX12_end_1 ?_
  refine go_aload_n C 0 rfl rfl dX12_end_2 ?_
  refine go_get (v := .int (gI σ 75 4)) C (shX12 G) (ltX12 hN) lkX12_210 rfl dX12_end_3 ?_
  refine go_callS (as := [.int a1, .int 0, .int (gI σ 75 4)]) C hR cwX12_152 (Nat.le_trans (by decide) hd) (by decide) rfl rfl (Nat.le_of_ble_eq_true rfl) dX12_end_6 (spX12_in (Nat.le_refl _) hN hw) (fun v_ τ_ hw => ?_)
  obtain ⟨r_1, rfl, hw⟩ := hw
  obtain ⟨σ_2, rfl⟩ : ∃ z, z = τ_ := ⟨_, rfl⟩
  refine go_if_ne C 14 rfl dX12_end_9 (fun hc => ?_) (fun hc => ?_)
  · replace hw := hw.1 hc
    refine go_aload_n C 0 rfl rfl dX12_end_14 ?_
    refine go_iload_n C 1 rfl rfl dX12_end_15 ?_
    refine go_puti C (shX12 G) (ltX12 hN) lpX12_210 (show 4 < 64 by decide) (pxX12_4 G _ _) dX12_end_16 (go_nm fun σ_3 eσ_3 => ?_)
    replace hw := hw σ_3 eσ_3
    refine go_iload_n C 1 rfl rfl dX12_end_19 ?_
    exact go_iret C hr ⟨_, rfl, hw⟩ dX12_end_20
  · replace hw := hw.2 hc
    refine go_iconst (v := (-1)) C rfl dX12_end_12 ?_
    exact go_iret C hr ⟨_, rfl, hw⟩ dX12_end_13
-- CradleNamesModel.isLetter(I)Z
set_option maxRecDepth 20000 in
set_option maxHeartbeats 4000000 in
theorem spX12_isLetter {l : Launch} {G : GT} {d : Nat}  (hd : 2 ≤ d)  (hN : 119 ≤ G.2.2.2.2.2)  {a1 : Int32} {σ : St} {post : Int32 → St → Prop} (hw : wpX12_isLetter  a1 σ post) : Sp l G d yX12_isLetter cX12_isLetter 1 (some .boolean) [.int a1] σ (fun v τ => ∃ r : Int32, v = some (.int r) ∧ post r τ) := by
  refine Sp.of (by decide) (Nat.le_of_ble_eq_true rfl) fun X C hr hR hnl => ?_
  show Go X G 0 [(0, .int a1)] [] σ
  have hw : wpX12_in a1 97 122 σ (fun r_1 σ_2 =>
  ((¬ r_1 = 0 →
    post 1 σ_2) ∧
  (r_1 = 0 →
    wpX12_in a1 65 90 σ_2 (fun r_3 σ_4 =>
    ((r_3 = 0 →
      post 0 σ_4) ∧
    (¬ r_3 = 0 →
      post 1 σ_4)))))) := hw
  refine go_iload_n C 0 rfl rfl dX12_isLetter_0 ?_
  refine go_bipush (v := 97) C rfl dX12_isLetter_1 ?_
  refine go_bipush (v := 122) C rfl dX12_isLetter_3 ?_
  refine go_callS (as := [.int a1, .int 97, .int 122]) C hR cwX12_152 (Nat.le_trans (by decide) hd) (by decide) rfl rfl (Nat.le_of_ble_eq_true rfl) dX12_isLetter_5 (spX12_in (Nat.le_refl _) hN hw) (fun v_ τ_ hw => ?_)
  obtain ⟨r_1, rfl, hw⟩ := hw
  obtain ⟨σ_2, rfl⟩ : ∃ z, z = τ_ := ⟨_, rfl⟩
  refine go_if_ne C 22 rfl dX12_isLetter_8 (fun hc => ?_) (fun hc => ?_)
  · replace hw := hw.1 hc
    refine go_iconst (v := 1) C rfl dX12_isLetter_22 ?_
    refine go_goto C 27 rfl dX12_isLetter_23 ?_
    exact go_zret C hr rfl ⟨_, rfl, hw⟩ dX12_isLetter_27
  · replace hw := hw.2 hc
    refine go_iload_n C 0 rfl rfl dX12_isLetter_11 ?_
    refine go_bipush (v := 65) C rfl dX12_isLetter_12 ?_
    refine go_bipush (v := 90) C rfl dX12_isLetter_14 ?_
    refine go_callS (as := [.int a1, .int 65, .int 90]) C hR cwX12_152 (Nat.le_trans (by decide) hd) (by decide) rfl rfl (Nat.le_of_ble_eq_true rfl) dX12_isLetter_16 (spX12_in (Nat.le_refl _) hN hw) (fun v_ τ_ hw => ?_)
    obtain ⟨r_3, rfl, hw⟩ := hw
    obtain ⟨σ_4, rfl⟩ : ∃ z, z = τ_ := ⟨_, rfl⟩
    refine go_if_eq C 26 rfl dX12_isLetter_19 (fun hc => ?_) (fun hc => ?_)
    · replace hw := hw.1 hc
      refine go_iconst (v := 0) C rfl dX12_isLetter_26 ?_
      exact go_zret C hr rfl ⟨_, rfl, hw⟩ dX12_isLetter_27
    · replace hw := hw.2 hc
      refine go_iconst (v := 1) C rfl dX12_isLetter_22 ?_
      refine go_goto C 27 rfl dX12_isLetter_23 ?_
      exact go_zret C hr rfl ⟨_, rfl, hw⟩ dX12_isLetter_27
-- CradleNamesModel.wordOf(J)I
set_option maxRecDepth 20000 in
set_option maxHeartbeats 4000000 in
theorem spX12_wordOf {l : Launch} {G : GT} {d : Nat}  (hd : 1 ≤ d)  (hN : 119 ≤ G.2.2.2.2.2)  {a1 : Int64} {σ : St} {post : Int32 → St → Prop} (hw : wpX12_wordOf  a1 σ post) : Sp l G d yX12_wordOf cX12_wordOf 2 (some .int) [.long a1] σ (fun v τ => ∃ r : Int32, v = some (.int r) ∧ post r τ) := by
  refine Sp.of (by decide) (Nat.le_of_ble_eq_true rfl) fun X C hr hR hnl => ?_
  show Go X G 0 [(0, .long a1)] [] σ
  have hw : ((¬ a1 = 935275816 →
    ((¬ a1 = 141426 →
      ((¬ a1 = 12212338 →
        ((¬ a1 = 12721396 →
          ((¬ a1 = 3058 →
            ((¬ a1 = 138148 →
              ((¬ a1 = 191476 →
                ((¬ a1 = 186990 →
                  ((¬ a1 = 186488 →
                    ((¬ a1 = 157810 →
                      ((¬ a1 = 3440 →
                        ((¬ a1 = 13507429 →
                          ((¬ a1 = 665266995 →
                            ((¬ a1 = 9109107 →
                              ((¬ a1 = 195364 →
                                ((¬ a1 = 138028 →
                                  ((¬ a1 = 10419109 →
                                    ((¬ a1 = 13278437 →
                                      ((¬ a1 = 868178852 →
                                        ((¬ a1 = 10132269 →
                                          ((¬ a1 = 11729831 →
                                            ((¬ a1 = 15095922 →
                                              post (-1) σ) ∧
                                            (a1 = 15095922 →
                                              post 21 σ))) ∧
                                          (a1 = 11729831 →
                                            post 20 σ))) ∧
                                        (a1 = 10132269 →
                                          post 19 σ))) ∧
                                      (a1 = 868178852 →
                                        post 18 σ))) ∧
                                    (a1 = 13278437 →
                                      post 17 σ))) ∧
                                  (a1 = 10419109 →
                                    post 16 σ))) ∧
                                (a1 = 138028 →
                                  post 15 σ))) ∧
                              (a1 = 195364 →
                                post 14 σ))) ∧
                            (a1 = 9109107 →
                              post 13 σ))) ∧
                          (a1 = 665266995 →
                            post 12 σ))) ∧
                        (a1 = 13507429 →
                          post 11 σ))) ∧
                      (a1 = 3440 →
                        post 10 σ))) ∧
                    (a1 = 157810 →
                      post 9 σ))) ∧
                  (a1 = 186488 →
                    post 8 σ))) ∧
                (a1 = 186990 →
                  post 7 σ))) ∧
              (a1 = 191476 →
                post 6 σ))) ∧
            (a1 = 138148 →
              post 5 σ))) ∧
          (a1 = 3058 →
            post 4 σ))) ∧
        (a1 = 12721396 →
          post 3 σ))) ∧
      (a1 = 12212338 →
        post 2 σ))) ∧
    (a1 = 141426 →
      post 1 σ))) ∧
  (a1 = 935275816 →
    post 0 σ)) := hw
  refine go_lload_n C 0 rfl rfl dX12_wordOf_0 ?_
  refine go_ldc2 (v := 935275816) C kcX12_217 dX12_wordOf_1 ?_
  refine go_lc_ne C 10 rfl dX12_wordOf_4 dX12_wordOf_5 (fun hc => ?_) (fun hc => ?_)
  · replace hw := hw.1 hc
    refine go_lload_n C 0 rfl rfl dX12_wordOf_10 ?_
    refine go_ldc2 (v := 141426) C kcX12_219 dX12_wordOf_11 ?_
    refine go_lc_ne C 20 rfl dX12_wordOf_14 dX12_wordOf_15 (fun hc => ?_) (fun hc => ?_)
    · replace hw := hw.1 hc
      refine go_lload_n C 0 rfl rfl dX12_wordOf_20 ?_
      refine go_ldc2 (v := 12212338) C kcX12_221 dX12_wordOf_21 ?_
      refine go_lc_ne C 30 rfl dX12_wordOf_24 dX12_wordOf_25 (fun hc => ?_) (fun hc => ?_)
      · replace hw := hw.1 hc
        refine go_lload_n C 0 rfl rfl dX12_wordOf_30 ?_
        refine go_ldc2 (v := 12721396) C kcX12_223 dX12_wordOf_31 ?_
        refine go_lc_ne C 40 rfl dX12_wordOf_34 dX12_wordOf_35 (fun hc => ?_) (fun hc => ?_)
        · replace hw := hw.1 hc
          refine go_lload_n C 0 rfl rfl dX12_wordOf_40 ?_
          refine go_ldc2 (v := 3058) C kcX12_225 dX12_wordOf_41 ?_
          refine go_lc_ne C 50 rfl dX12_wordOf_44 dX12_wordOf_45 (fun hc => ?_) (fun hc => ?_)
          · replace hw := hw.1 hc
            refine go_lload_n C 0 rfl rfl dX12_wordOf_50 ?_
            refine go_ldc2 (v := 138148) C kcX12_227 dX12_wordOf_51 ?_
            refine go_lc_ne C 60 rfl dX12_wordOf_54 dX12_wordOf_55 (fun hc => ?_) (fun hc => ?_)
            · replace hw := hw.1 hc
              refine go_lload_n C 0 rfl rfl dX12_wordOf_60 ?_
              refine go_ldc2 (v := 191476) C kcX12_229 dX12_wordOf_61 ?_
              refine go_lc_ne C 71 rfl dX12_wordOf_64 dX12_wordOf_65 (fun hc => ?_) (fun hc => ?_)
              · replace hw := hw.1 hc
                refine go_lload_n C 0 rfl rfl dX12_wordOf_71 ?_
                refine go_ldc2 (v := 186990) C kcX12_231 dX12_wordOf_72 ?_
                refine go_lc_ne C 82 rfl dX12_wordOf_75 dX12_wordOf_76 (fun hc => ?_) (fun hc => ?_)
                · replace hw := hw.1 hc
                  refine go_lload_n C 0 rfl rfl dX12_wordOf_82 ?_
                  refine go_ldc2 (v := 186488) C kcX12_233 dX12_wordOf_83 ?_
                  refine go_lc_ne C 93 rfl dX12_wordOf_86 dX12_wordOf_87 (fun hc => ?_) (fun hc => ?_)
                  · replace hw := hw.1 hc
                    refine go_lload_n C 0 rfl rfl dX12_wordOf_93 ?_
                    refine go_ldc2 (v := 157810) C kcX12_235 dX12_wordOf_94 ?_
                    refine go_lc_ne C 104 rfl dX12_wordOf_97 dX12_wordOf_98 (fun hc => ?_) (fun hc => ?_)
                    · replace hw := hw.1 hc
                      refine go_lload_n C 0 rfl rfl dX12_wordOf_104 ?_
                      refine go_ldc2 (v := 3440) C kcX12_237 dX12_wordOf_105 ?_
                      refine go_lc_ne C 115 rfl dX12_wordOf_108 dX12_wordOf_109 (fun hc => ?_) (fun hc => ?_)
                      · replace hw := hw.1 hc
                        refine go_lload_n C 0 rfl rfl dX12_wordOf_115 ?_
                        refine go_ldc2 (v := 13507429) C kcX12_239 dX12_wordOf_116 ?_
                        refine go_lc_ne C 126 rfl dX12_wordOf_119 dX12_wordOf_120 (fun hc => ?_) (fun hc => ?_)
                        · replace hw := hw.1 hc
                          refine go_lload_n C 0 rfl rfl dX12_wordOf_126 ?_
                          refine go_ldc2 (v := 665266995) C kcX12_241 dX12_wordOf_127 ?_
                          refine go_lc_ne C 137 rfl dX12_wordOf_130 dX12_wordOf_131 (fun hc => ?_) (fun hc => ?_)
                          · replace hw := hw.1 hc
                            refine go_lload_n C 0 rfl rfl dX12_wordOf_137 ?_
                            refine go_ldc2 (v := 9109107) C kcX12_243 dX12_wordOf_138 ?_
                            refine go_lc_ne C 148 rfl dX12_wordOf_141 dX12_wordOf_142 (fun hc => ?_) (fun hc => ?_)
                            · replace hw := hw.1 hc
                              refine go_lload_n C 0 rfl rfl dX12_wordOf_148 ?_
                              refine go_ldc2 (v := 195364) C kcX12_245 dX12_wordOf_149 ?_
                              refine go_lc_ne C 159 rfl dX12_wordOf_152 dX12_wordOf_153 (fun hc => ?_) (fun hc => ?_)
                              · replace hw := hw.1 hc
                                refine go_lload_n C 0 rfl rfl dX12_wordOf_159 ?_
                                refine go_ldc2 (v := 138028) C kcX12_247 dX12_wordOf_160 ?_
                                refine go_lc_ne C 170 rfl dX12_wordOf_163 dX12_wordOf_164 (fun hc => ?_) (fun hc => ?_)
                                · replace hw := hw.1 hc
                                  refine go_lload_n C 0 rfl rfl dX12_wordOf_170 ?_
                                  refine go_ldc2 (v := 10419109) C kcX12_249 dX12_wordOf_171 ?_
                                  refine go_lc_ne C 181 rfl dX12_wordOf_174 dX12_wordOf_175 (fun hc => ?_) (fun hc => ?_)
                                  · replace hw := hw.1 hc
                                    refine go_lload_n C 0 rfl rfl dX12_wordOf_181 ?_
                                    refine go_ldc2 (v := 13278437) C kcX12_251 dX12_wordOf_182 ?_
                                    refine go_lc_ne C 192 rfl dX12_wordOf_185 dX12_wordOf_186 (fun hc => ?_) (fun hc => ?_)
                                    · replace hw := hw.1 hc
                                      refine go_lload_n C 0 rfl rfl dX12_wordOf_192 ?_
                                      refine go_ldc2 (v := 868178852) C kcX12_253 dX12_wordOf_193 ?_
                                      refine go_lc_ne C 203 rfl dX12_wordOf_196 dX12_wordOf_197 (fun hc => ?_) (fun hc => ?_)
                                      · replace hw := hw.1 hc
                                        refine go_lload_n C 0 rfl rfl dX12_wordOf_203 ?_
                                        refine go_ldc2 (v := 10132269) C kcX12_255 dX12_wordOf_204 ?_
                                        refine go_lc_ne C 214 rfl dX12_wordOf_207 dX12_wordOf_208 (fun hc => ?_) (fun hc => ?_)
                                        · replace hw := hw.1 hc
                                          refine go_lload_n C 0 rfl rfl dX12_wordOf_214 ?_
                                          refine go_ldc2 (v := 11729831) C kcX12_257 dX12_wordOf_215 ?_
                                          refine go_lc_ne C 225 rfl dX12_wordOf_218 dX12_wordOf_219 (fun hc => ?_) (fun hc => ?_)
                                          · replace hw := hw.1 hc
                                            refine go_lload_n C 0 rfl rfl dX12_wordOf_225 ?_
                                            refine go_ldc2 (v := 15095922) C kcX12_259 dX12_wordOf_226 ?_
                                            refine go_lc_ne C 236 rfl dX12_wordOf_229 dX12_wordOf_230 (fun hc => ?_) (fun hc => ?_)
                                            · replace hw := hw.1 hc
                                              refine go_iconst (v := (-1)) C rfl dX12_wordOf_236 ?_
                                              exact go_iret C hr ⟨_, rfl, hw⟩ dX12_wordOf_237
                                            · replace hw := hw.2 hc
                                              refine go_bipush (v := 21) C rfl dX12_wordOf_233 ?_
                                              exact go_iret C hr ⟨_, rfl, hw⟩ dX12_wordOf_235
                                          · replace hw := hw.2 hc
                                            refine go_bipush (v := 20) C rfl dX12_wordOf_222 ?_
                                            exact go_iret C hr ⟨_, rfl, hw⟩ dX12_wordOf_224
                                        · replace hw := hw.2 hc
                                          refine go_bipush (v := 19) C rfl dX12_wordOf_211 ?_
                                          exact go_iret C hr ⟨_, rfl, hw⟩ dX12_wordOf_213
                                      · replace hw := hw.2 hc
                                        refine go_bipush (v := 18) C rfl dX12_wordOf_200 ?_
                                        exact go_iret C hr ⟨_, rfl, hw⟩ dX12_wordOf_202
                                    · replace hw := hw.2 hc
                                      refine go_bipush (v := 17) C rfl dX12_wordOf_189 ?_
                                      exact go_iret C hr ⟨_, rfl, hw⟩ dX12_wordOf_191
                                  · replace hw := hw.2 hc
                                    refine go_bipush (v := 16) C rfl dX12_wordOf_178 ?_
                                    exact go_iret C hr ⟨_, rfl, hw⟩ dX12_wordOf_180
                                · replace hw := hw.2 hc
                                  refine go_bipush (v := 15) C rfl dX12_wordOf_167 ?_
                                  exact go_iret C hr ⟨_, rfl, hw⟩ dX12_wordOf_169
                              · replace hw := hw.2 hc
                                refine go_bipush (v := 14) C rfl dX12_wordOf_156 ?_
                                exact go_iret C hr ⟨_, rfl, hw⟩ dX12_wordOf_158
                            · replace hw := hw.2 hc
                              refine go_bipush (v := 13) C rfl dX12_wordOf_145 ?_
                              exact go_iret C hr ⟨_, rfl, hw⟩ dX12_wordOf_147
                          · replace hw := hw.2 hc
                            refine go_bipush (v := 12) C rfl dX12_wordOf_134 ?_
                            exact go_iret C hr ⟨_, rfl, hw⟩ dX12_wordOf_136
                        · replace hw := hw.2 hc
                          refine go_bipush (v := 11) C rfl dX12_wordOf_123 ?_
                          exact go_iret C hr ⟨_, rfl, hw⟩ dX12_wordOf_125
                      · replace hw := hw.2 hc
                        refine go_bipush (v := 10) C rfl dX12_wordOf_112 ?_
                        exact go_iret C hr ⟨_, rfl, hw⟩ dX12_wordOf_114
                    · replace hw := hw.2 hc
                      refine go_bipush (v := 9) C rfl dX12_wordOf_101 ?_
                      exact go_iret C hr ⟨_, rfl, hw⟩ dX12_wordOf_103
                  · replace hw := hw.2 hc
                    refine go_bipush (v := 8) C rfl dX12_wordOf_90 ?_
                    exact go_iret C hr ⟨_, rfl, hw⟩ dX12_wordOf_92
                · replace hw := hw.2 hc
                  refine go_bipush (v := 7) C rfl dX12_wordOf_79 ?_
                  exact go_iret C hr ⟨_, rfl, hw⟩ dX12_wordOf_81
              · replace hw := hw.2 hc
                refine go_bipush (v := 6) C rfl dX12_wordOf_68 ?_
                exact go_iret C hr ⟨_, rfl, hw⟩ dX12_wordOf_70
            · replace hw := hw.2 hc
              refine go_iconst (v := 5) C rfl dX12_wordOf_58 ?_
              exact go_iret C hr ⟨_, rfl, hw⟩ dX12_wordOf_59
          · replace hw := hw.2 hc
            refine go_iconst (v := 4) C rfl dX12_wordOf_48 ?_
            exact go_iret C hr ⟨_, rfl, hw⟩ dX12_wordOf_49
        · replace hw := hw.2 hc
          refine go_iconst (v := 3) C rfl dX12_wordOf_38 ?_
          exact go_iret C hr ⟨_, rfl, hw⟩ dX12_wordOf_39
      · replace hw := hw.2 hc
        refine go_iconst (v := 2) C rfl dX12_wordOf_28 ?_
        exact go_iret C hr ⟨_, rfl, hw⟩ dX12_wordOf_29
    · replace hw := hw.2 hc
      refine go_iconst (v := 1) C rfl dX12_wordOf_18 ?_
      exact go_iret C hr ⟨_, rfl, hw⟩ dX12_wordOf_19
  · replace hw := hw.2 hc
    refine go_iconst (v := 0) C rfl dX12_wordOf_8 ?_
    exact go_iret C hr ⟨_, rfl, hw⟩ dX12_wordOf_9
-- CradleNamesModel.next()V
set_option maxRecDepth 20000 in
set_option maxHeartbeats 4000000 in
theorem gbX12_next_189 {X : XT} {G : GT} {l : Launch} {d : Nat}  {post : St → Prop} (C : Cx X G cX12_next RX12) (hr : Rt X G none (fun v τ => v = none ∧ post τ)) (hR : Rm X l d) (hnl : X.2.2.2.2.2.2.2.2.2.2.1 = 5)  (hd : 3 ≤ d) (hN : 119 ≤ G.2.2.2.2.2)   
    : ∀ (s0 : Int32) (σ : St), wbX12_next_189   post s0 σ → Go X G 189 [(0, .ref (G.2.2.1 75))] [.int s0, .ref (G.2.2.1 75)] σ := by
  intro s0 σ hw
  have hw : ∀ σ_1 : St, σ_1 = sI σ 75 18 s0 →
  ((0 ≤ (gI σ_1 75 18) →
    ∀ σ_2 : St, σ_2 = sI σ_1 75 17 1 →
    post σ_2) ∧
  (¬ 0 ≤ (gI σ_1 75 18) →
    ∀ σ_3 : St, σ_3 = sI σ_1 75 17 4 →
    post σ_3)) := hw
  refine go_puti C (shX12 G) (ltX12 hN) lpX12_281 (show 18 < 64 by decide) (pxX12_18 G _ _) dX12_next_189 (go_nm fun σ_1 eσ_1 => ?_)
  replace hw := hw σ_1 eσ_1
  refine go_aload_n C 0 rfl rfl dX12_next_192 ?_
  refine go_aload_n C 0 rfl rfl dX12_next_193 ?_
  refine go_get (v := .int (gI σ_1 75 18)) C (shX12 G) (ltX12 hN) lkX12_281 rfl dX12_next_194 ?_
  refine go_if_ge C 204 rfl dX12_next_197 (fun hc => ?_) (fun hc => ?_)
  · replace hw := hw.1 hc
    refine go_iconst (v := 1) C rfl dX12_next_204 ?_
    refine go_puti C (shX12 G) (ltX12 hN) lpX12_270 (show 17 < 64 by decide) (pxX12_17 G _ _) dX12_next_205 (go_nm fun σ_2 eσ_2 => ?_)
    replace hw := hw σ_2 eσ_2
    refine go_goto C 440 rfl dX12_next_208 ?_
    exact go_vret C hr ⟨rfl, hw⟩ dX12_next_440
  · replace hw := hw.2 hc
    refine go_iconst (v := 4) C rfl dX12_next_200 ?_
    refine go_goto C 205 rfl dX12_next_201 ?_
    refine go_puti C (shX12 G) (ltX12 hN) lpX12_270 (show 17 < 64 by decide) (pxX12_17 G _ _) dX12_next_205 (go_nm fun σ_3 eσ_3 => ?_)
    replace hw := hw σ_3 eσ_3
    refine go_goto C 440 rfl dX12_next_208 ?_
    exact go_vret C hr ⟨rfl, hw⟩ dX12_next_440
set_option maxRecDepth 20000 in
set_option maxHeartbeats 4000000 in
theorem gbX12_next_427 {X : XT} {G : GT} {l : Launch} {d : Nat}  {post : St → Prop} (C : Cx X G cX12_next RX12) (hr : Rt X G none (fun v τ => v = none ∧ post τ)) (hR : Rm X l d) (hnl : X.2.2.2.2.2.2.2.2.2.2.1 = 5)  (hd : 3 ≤ d) (hN : 119 ≤ G.2.2.2.2.2)   
    : ∀ (s0 : Int32) (σ : St), wbX12_next_427   post s0 σ → Go X G 427 [(0, .ref (G.2.2.1 75))] [.int s0, .ref (G.2.2.1 75)] σ := by
  intro s0 σ hw
  have hw : ∀ σ_1 : St, σ_1 = sI σ 75 18 s0 →
  ∀ σ_2 : St, σ_2 = sI σ_1 75 15 ((gI σ_1 75 15) + 1) →
  post σ_2 := hw
  refine go_puti C (shX12 G) (ltX12 hN) lpX12_281 (show 18 < 64 by decide) (pxX12_18 G _ _) dX12_next_427 (go_nm fun σ_1 eσ_1 => ?_)
  replace hw := hw σ_1 eσ_1
  refine go_aload_n C 0 rfl rfl dX12_next_430 ?_
  refine go_dup C rfl dX12_next_431 ?_
  refine go_get (v := .int (gI σ_1 75 15)) C (shX12 G) (ltX12 hN) lkX12_261 rfl dX12_next_432 ?_
  refine go_iconst (v := 1) C rfl dX12_next_435 ?_
  refine go_iadd C dX12_next_436 ?_
  refine go_puti C (shX12 G) (ltX12 hN) lpX12_261 (show 15 < 64 by decide) (pxX12_15 G _ _) dX12_next_437 (go_nm fun σ_2 eσ_2 => ?_)
  replace hw := hw σ_2 eσ_2
  exact go_vret C hr ⟨rfl, hw⟩ dX12_next_440
set_option maxRecDepth 20000 in
set_option maxHeartbeats 4000000 in
theorem gbX12_next_156 {X : XT} {G : GT} {l : Launch} {d : Nat}  {post : St → Prop} (C : Cx X G cX12_next RX12) (hr : Rt X G none (fun v τ => v = none ∧ post τ)) (hR : Rm X l d) (hnl : X.2.2.2.2.2.2.2.2.2.2.1 = 5)  (hd : 3 ≤ d) (hN : 119 ≤ G.2.2.2.2.2)  {K99 : Int64 → Int32 → St → Prop} (hK99 : ∀ (v2 : Int64) (v4 : Int32) (σ : St), K99 v2 v4 σ → Go X G 99 [(0, .ref (G.2.2.1 75)), (2, .long v2), (4, .int v4)] [] σ)
    : ∀ (v4 : Int32) (s0 : Int64) (σ : St), wbX12_next_156  K99 post v4 s0 σ → Go X G 156 [(0, .ref (G.2.2.1 75)), (4, .int v4)] [.long s0] σ := by
  intro v4 s0 σ hw
  have hw : ∀ v4_1 : Int32, v4_1 = v4 + 1 →
  ∀ σ_2 : St, σ_2 = sI σ 75 15 ((gI σ 75 15) + 1) →
  K99 s0 v4_1 σ_2 := hw
  refine go_lstore_n (lv2 := [(2, .long s0), (0, .ref (G.2.2.1 75)), (4, .int v4)]) C rfl (by rw [hnl]; decide) rfl dX12_next_156 ?_
  obtain ⟨v4_1, ev4_1⟩ : ∃ z : Int32, z = v4 + 1 := ⟨_, rfl⟩
  replace hw := hw v4_1 ev4_1
  refine go_iinc (v := v4_1) (lv2 := [(4, .int v4_1), (2, .long s0), (0, .ref (G.2.2.1 75))]) C 2 rfl (by rw [ev4_1]; rfl) (by rw [hnl]; decide) rfl dX12_next_157 ?_
  refine go_aload_n C 2 rfl rfl dX12_next_160 ?_
  refine go_dup C rfl dX12_next_161 ?_
  refine go_get (v := .int (gI σ 75 15)) C (shX12 G) (ltX12 hN) lkX12_261 rfl dX12_next_162 ?_
  refine go_iconst (v := 1) C rfl dX12_next_165 ?_
  refine go_iadd C dX12_next_166 ?_
  refine go_puti C (shX12 G) (ltX12 hN) lpX12_261 (show 15 < 64 by decide) (pxX12_15 G _ _) dX12_next_167 (go_nm fun σ_2 eσ_2 => ?_)
  replace hw := hw σ_2 eσ_2
  refine go_goto C 99 rfl dX12_next_170 ?_
  refine go_sub [2, 1, 0] rfl ?_
  exact hK99 _ _ _ hw
set_option maxRecDepth 20000 in
set_option maxHeartbeats 4000000 in
theorem gbX12_next_173 {X : XT} {G : GT} {l : Launch} {d : Nat}  {post : St → Prop} (C : Cx X G cX12_next RX12) (hr : Rt X G none (fun v τ => v = none ∧ post τ)) (hR : Rm X l d) (hnl : X.2.2.2.2.2.2.2.2.2.2.1 = 5)  (hd : 3 ≤ d) (hN : 119 ≤ G.2.2.2.2.2)   
    : ∀ (v2 : Int64) (v4 : Int32) (σ : St), wbX12_next_173   post v2 v4 σ → Go X G 173 [(0, .ref (G.2.2.1 75)), (2, .long v2), (4, .int v4)] [] σ := by
  intro v2 v4 σ hw
  have hw : ((v4 ≤ 7 →
    wpX12_wordOf v2 σ (fun r_1 σ_2 =>
    wbX12_next_189 post r_1 σ_2)) ∧
  (¬ v4 ≤ 7 →
    wbX12_next_189 post (-1) σ)) := hw
  refine go_aload_n C 0 rfl rfl dX12_next_173 ?_
  refine go_iload C 2 rfl dX12_next_174 ?_
  refine go_bipush (v := 7) C rfl dX12_next_176 ?_
  refine go_icmp_le C 185 rfl dX12_next_178 (fun hc => ?_) (fun hc => ?_)
  · replace hw := hw.1 hc
    refine go_lload_n C 1 rfl rfl dX12_next_185 ?_
    refine go_callS (as := [.long v2]) C hR cwX12_278 (Nat.le_trans (by decide) hd) (by decide) rfl rfl (Nat.le_of_ble_eq_true rfl) dX12_next_186 (spX12_wordOf (Nat.le_refl _) hN hw) (fun v_ τ_ hw => ?_)
    obtain ⟨r_1, rfl, hw⟩ := hw
    obtain ⟨σ_2, rfl⟩ : ∃ z, z = τ_ := ⟨_, rfl⟩
    refine go_sub [0] rfl ?_
    exact (gbX12_next_189 C hr hR hnl hd hN) _ _ hw
  · replace hw := hw.2 hc
    refine go_iconst (v := (-1)) C rfl dX12_next_181 ?_
    refine go_goto C 189 rfl dX12_next_182 ?_
    refine go_sub [0] rfl ?_
    exact (gbX12_next_189 C hr hR hnl hd hN) _ _ hw
set_option maxRecDepth 20000 in
set_option maxHeartbeats 4000000 in
theorem gbX12_next_300 {X : XT} {G : GT} {l : Launch} {d : Nat}  {post : St → Prop} (C : Cx X G cX12_next RX12) (hr : Rt X G none (fun v τ => v = none ∧ post τ)) (hR : Rm X l d) (hnl : X.2.2.2.2.2.2.2.2.2.2.1 = 5)  (hd : 3 ≤ d) (hN : 119 ≤ G.2.2.2.2.2)  {K232 : St → Prop} (hK232 : ∀ (σ : St), K232 σ → Go X G 232 [(0, .ref (G.2.2.1 75))] [] σ)
    : ∀ (s0 : Int32) (σ : St), wbX12_next_300  K232 post s0 σ → Go X G 300 [(0, .ref (G.2.2.1 75))] [.int s0, .ref (G.2.2.1 75)] σ := by
  intro s0 σ hw
  have hw : ∀ σ_1 : St, σ_1 = sI σ 75 18 s0 →
  ∀ σ_2 : St, σ_2 = sI σ_1 75 15 ((gI σ_1 75 15) + 1) →
  K232 σ_2 := hw
  refine go_puti C (shX12 G) (ltX12 hN) lpX12_281 (show 18 < 64 by decide) (pxX12_18 G _ _) dX12_next_300 (go_nm fun σ_1 eσ_1 => ?_)
  replace hw := hw σ_1 eσ_1
  refine go_aload_n C 0 rfl rfl dX12_next_303 ?_
  refine go_dup C rfl dX12_next_304 ?_
  refine go_get (v := .int (gI σ_1 75 15)) C (shX12 G) (ltX12 hN) lkX12_261 rfl dX12_next_305 ?_
  refine go_iconst (v := 1) C rfl dX12_next_308 ?_
  refine go_iadd C dX12_next_309 ?_
  refine go_puti C (shX12 G) (ltX12 hN) lpX12_261 (show 15 < 64 by decide) (pxX12_15 G _ _) dX12_next_310 (go_nm fun σ_2 eσ_2 => ?_)
  replace hw := hw σ_2 eσ_2
  refine go_goto C 232 rfl dX12_next_313 ?_
  exact hK232 _ hw
set_option maxRecDepth 20000 in
set_option maxHeartbeats 4000000 in
theorem gbX12_next_386 {X : XT} {G : GT} {l : Launch} {d : Nat}  {post : St → Prop} (C : Cx X G cX12_next RX12) (hr : Rt X G none (fun v τ => v = none ∧ post τ)) (hR : Rm X l d) (hnl : X.2.2.2.2.2.2.2.2.2.2.1 = 5)  (hd : 3 ≤ d) (hN : 119 ≤ G.2.2.2.2.2)   
    : ∀ (v1 : Int32) (σ : St), wbX12_next_386   post v1 σ → Go X G 386 [(0, .ref (G.2.2.1 75)), (1, .int v1)] [] σ := by
  intro v1 σ hw
  have hw : (((gI σ 75 14) ≤ (gI σ 75 15) →
    post σ) ∧
  (¬ (gI σ 75 14) ≤ (gI σ 75 15) →
    vp_in (gI σ 75 15) 300 ∧ (
    ((¬ (gI σ 79 (gI σ 75 15).toNatClampNeg) = 61 →
      post σ) ∧
    ((gI σ 79 (gI σ 75 15).toNatClampNeg) = 61 →
      ((¬ v1 = 60 →
        wbX12_next_427 post 301 σ) ∧
      (v1 = 60 →
        wbX12_next_427 post 300 σ))))))) := hw
  refine go_aload_n C 0 rfl rfl dX12_next_386 ?_
  refine go_get (v := .int (gI σ 75 15)) C (shX12 G) (ltX12 hN) lkX12_261 rfl dX12_next_387 ?_
  refine go_aload_n C 0 rfl rfl dX12_next_390 ?_
  refine go_get (v := .int (gI σ 75 14)) C (shX12 G) (ltX12 hN) lkX12_264 rfl dX12_next_391 ?_
  refine go_icmp_ge C 440 rfl dX12_next_394 (fun hc => ?_) (fun hc => ?_)
  · replace hw := hw.1 hc
    exact go_vret C hr ⟨rfl, hw⟩ dX12_next_440
  · replace hw := hw.2 hc
    refine go_aload_n C 0 rfl rfl dX12_next_397 ?_
    refine go_get (v := .ref (G.2.2.1 79)) C (shX12 G) (ltX12 hN) lkX12_20 rfl dX12_next_398 ?_
    refine go_aload_n C 0 rfl rfl dX12_next_401 ?_
    refine go_get (v := .int (gI σ 75 15)) C (shX12 G) (ltX12 hN) lkX12_261 rfl dX12_next_402 ?_
    refine go_bald C (saX12_tape G) (laX12_tape hN) hw.1 dX12_next_405 ?_
    replace hw := hw.2
    refine go_bipush (v := 61) C rfl dX12_next_406 ?_
    refine go_icmp_ne C 440 rfl dX12_next_408 (fun hc => ?_) (fun hc => ?_)
    · replace hw := hw.1 hc
      exact go_vret C hr ⟨rfl, hw⟩ dX12_next_440
    · replace hw := hw.2 hc
      refine go_aload_n C 0 rfl rfl dX12_next_411 ?_
      refine go_iload_n C 1 rfl rfl dX12_next_412 ?_
      refine go_bipush (v := 60) C rfl dX12_next_413 ?_
      refine go_icmp_ne C 424 rfl dX12_next_415 (fun hc => ?_) (fun hc => ?_)
      · replace hw := hw.1 hc
        refine go_sipush (v := 301) C rfl dX12_next_424 ?_
        refine go_sub [0] rfl ?_
        exact (gbX12_next_427 C hr hR hnl hd hN) _ _ hw
      · replace hw := hw.2 hc
        refine go_sipush (v := 300) C rfl dX12_next_418 ?_
        refine go_goto C 427 rfl dX12_next_421 ?_
        refine go_sub [0] rfl ?_
        exact (gbX12_next_427 C hr hR hnl hd hN) _ _ hw
set_option maxRecDepth 20000 in
set_option maxHeartbeats 4000000 in
theorem gbX12_next_99 {X : XT} {G : GT} {l : Launch} {d : Nat}  {post : St → Prop} (C : Cx X G cX12_next RX12) (hr : Rt X G none (fun v τ => v = none ∧ post τ)) (hR : Rm X l d) (hnl : X.2.2.2.2.2.2.2.2.2.2.1 = 5)  (hd : 3 ≤ d) (hN : 119 ≤ G.2.2.2.2.2)   
    : ∀ (n : Nat) (v2 : Int64) (v4 : Int32) (σ : St), wbX12_next_99   post n v2 v4 σ → Go X G 99 [(0, .ref (G.2.2.1 75)), (2, .long v2), (4, .int v4)] [] σ := by
  intro n
  induction n with
  | zero => intro v2 v4 σ hw; exact hw.elim
  | succ n ih =>
    intro v2 v4 σ hw
    have hw : (((gI σ 75 14) ≤ (gI σ 75 15) →
      wbX12_next_173 post v2 v4 σ) ∧
    (¬ (gI σ 75 14) ≤ (gI σ 75 15) →
      vp_in (gI σ 75 15) 300 ∧ (
      wpX12_isLetter (gI σ 79 (gI σ 75 15).toNatClampNeg) σ (fun r_1 σ_2 =>
      ((r_1 = 0 →
        wbX12_next_173 post v2 v4 σ_2) ∧
      (¬ r_1 = 0 →
        ((8 ≤ v4 →
          wbX12_next_156 (wbX12_next_99 post n) post v4 v2 σ_2) ∧
        (¬ 8 ≤ v4 →
          vp_in (gI σ_2 75 15) 300 ∧ (
          wbX12_next_156 (wbX12_next_99 post n) post v4 (((64 * v2) + (gI σ_2 79 (gI σ_2 75 15).toNatClampNeg).toInt64) - 64) σ_2))))))))) := hw
    refine go_aload_n C 0 rfl rfl dX12_next_99 ?_
    refine go_get (v := .int (gI σ 75 15)) C (shX12 G) (ltX12 hN) lkX12_261 rfl dX12_next_100 ?_
    refine go_aload_n C 0 rfl rfl dX12_next_103 ?_
    refine go_get (v := .int (gI σ 75 14)) C (shX12 G) (ltX12 hN) lkX12_264 rfl dX12_next_104 ?_
    refine go_icmp_ge C 173 rfl dX12_next_107 (fun hc => ?_) (fun hc => ?_)
    · replace hw := hw.1 hc
      exact (gbX12_next_173 C hr hR hnl hd hN) _ _ _ hw
    · replace hw := hw.2 hc
      refine go_aload_n C 0 rfl rfl dX12_next_110 ?_
      refine go_get (v := .ref (G.2.2.1 79)) C (shX12 G) (ltX12 hN) lkX12_20 rfl dX12_next_111 ?_
      refine go_aload_n C 0 rfl rfl dX12_next_114 ?_
      refine go_get (v := .int (gI σ 75 15)) C (shX12 G) (ltX12 hN) lkX12_261 rfl dX12_next_115 ?_
      refine go_bald C (saX12_tape G) (laX12_tape hN) hw.1 dX12_next_118 ?_
      replace hw := hw.2
      refine go_callS (as := [.int (gI σ 79 (gI σ 75 15).toNatClampNeg)]) C hR cwX12_273 (Nat.le_trans (by decide) hd) (by decide) rfl rfl (Nat.le_of_ble_eq_true rfl) dX12_next_119 (spX12_isLetter (Nat.le_refl _) hN hw) (fun v_ τ_ hw => ?_)
      obtain ⟨r_1, rfl, hw⟩ := hw
      obtain ⟨σ_2, rfl⟩ : ∃ z, z = τ_ := ⟨_, rfl⟩
      refine go_if_eq C 173 rfl dX12_next_122 (fun hc => ?_) (fun hc => ?_)
      · replace hw := hw.1 hc
        exact (gbX12_next_173 C hr hR hnl hd hN) _ _ _ hw
      · replace hw := hw.2 hc
        refine go_iload C 2 rfl dX12_next_125 ?_
        refine go_bipush (v := 8) C rfl dX12_next_127 ?_
        refine go_icmp_ge C 155 rfl dX12_next_129 (fun hc => ?_) (fun hc => ?_)
        · replace hw := hw.1 hc
          refine go_lload_n C 1 rfl rfl dX12_next_155 ?_
          refine go_sub [0, 2] rfl ?_
          exact (gbX12_next_156 C hr hR hnl hd hN ih) _ _ _ hw
        · replace hw := hw.2 hc
          refine go_ldc2 (v := 64) C kcX12_276 dX12_next_132 ?_
          refine go_lload_n C 1 rfl rfl dX12_next_135 ?_
          refine go_lmul C dX12_next_136 ?_
          refine go_aload_n C 0 rfl rfl dX12_next_137 ?_
          refine go_get (v := .ref (G.2.2.1 79)) C (shX12 G) (ltX12 hN) lkX12_20 rfl dX12_next_138 ?_
          refine go_aload_n C 0 rfl rfl dX12_next_141 ?_
          refine go_get (v := .int (gI σ_2 75 15)) C (shX12 G) (ltX12 hN) lkX12_261 rfl dX12_next_142 ?_
          refine go_bald C (saX12_tape G) (laX12_tape hN) hw.1 dX12_next_145 ?_
          replace hw := hw.2
          refine go_i2l C dX12_next_146 ?_
          refine go_ladd C dX12_next_147 ?_
          refine go_ldc2 (v := 64) C kcX12_276 dX12_next_148 ?_
          refine go_lsub C dX12_next_151 ?_
          refine go_goto C 156 rfl dX12_next_152 ?_
          refine go_sub [0, 2] rfl ?_
          exact (gbX12_next_156 C hr hR hnl hd hN ih) _ _ _ hw
set_option maxRecDepth 20000 in
set_option maxHeartbeats 4000000 in
theorem gbX12_next_232 {X : XT} {G : GT} {l : Launch} {d : Nat}  {post : St → Prop} (C : Cx X G cX12_next RX12) (hr : Rt X G none (fun v τ => v = none ∧ post τ)) (hR : Rm X l d) (hnl : X.2.2.2.2.2.2.2.2.2.2.1 = 5)  (hd : 3 ≤ d) (hN : 119 ≤ G.2.2.2.2.2)   
    : ∀ (n : Nat) (σ : St), wbX12_next_232   post n σ → Go X G 232 [(0, .ref (G.2.2.1 75))] [] σ := by
  intro n
  induction n with
  | zero => intro σ hw; exact hw.elim
  | succ n ih =>
    intro σ hw
    have hw : (((gI σ 75 14) ≤ (gI σ 75 15) →
      post σ) ∧
    (¬ (gI σ 75 14) ≤ (gI σ 75 15) →
      vp_in (gI σ 75 15) 300 ∧ (
      wpX12_in (gI σ 79 (gI σ 75 15).toNatClampNeg) 48 57 σ (fun r_1 σ_2 =>
      ((r_1 = 0 →
        post σ_2) ∧
      (¬ r_1 = 0 →
        (((gI σ_2 75 18) ≤ 99999 →
          vp_in (gI σ_2 75 15) 300 ∧ (
          wbX12_next_300 (wbX12_next_232 post n) post (((10 * (gI σ_2 75 18)) + (gI σ_2 79 (gI σ_2 75 15).toNatClampNeg)) - 48) σ_2)) ∧
        (¬ (gI σ_2 75 18) ≤ 99999 →
          wbX12_next_300 (wbX12_next_232 post n) post (gI σ_2 75 18) σ_2)))))))) := hw
    refine go_aload_n C 0 rfl rfl dX12_next_232 ?_
    refine go_get (v := .int (gI σ 75 15)) C (shX12 G) (ltX12 hN) lkX12_261 rfl dX12_next_233 ?_
    refine go_aload_n C 0 rfl rfl dX12_next_236 ?_
    refine go_get (v := .int (gI σ 75 14)) C (shX12 G) (ltX12 hN) lkX12_264 rfl dX12_next_237 ?_
    refine go_icmp_ge C 440 rfl dX12_next_240 (fun hc => ?_) (fun hc => ?_)
    · replace hw := hw.1 hc
      exact go_vret C hr ⟨rfl, hw⟩ dX12_next_440
    · replace hw := hw.2 hc
      refine go_aload_n C 0 rfl rfl dX12_next_243 ?_
      refine go_get (v := .ref (G.2.2.1 79)) C (shX12 G) (ltX12 hN) lkX12_20 rfl dX12_next_244 ?_
      refine go_aload_n C 0 rfl rfl dX12_next_247 ?_
      refine go_get (v := .int (gI σ 75 15)) C (shX12 G) (ltX12 hN) lkX12_261 rfl dX12_next_248 ?_
      refine go_bald C (saX12_tape G) (laX12_tape hN) hw.1 dX12_next_251 ?_
      replace hw := hw.2
      refine go_bipush (v := 48) C rfl dX12_next_252 ?_
      refine go_bipush (v := 57) C rfl dX12_next_254 ?_
      refine go_callS (as := [.int (gI σ 79 (gI σ 75 15).toNatClampNeg), .int 48, .int 57]) C hR cwX12_152 (Nat.le_trans (by decide) hd) (by decide) rfl rfl (Nat.le_of_ble_eq_true rfl) dX12_next_256 (spX12_in (Nat.le_refl _) hN hw) (fun v_ τ_ hw => ?_)
      obtain ⟨r_1, rfl, hw⟩ := hw
      obtain ⟨σ_2, rfl⟩ : ∃ z, z = τ_ := ⟨_, rfl⟩
      refine go_if_eq C 440 rfl dX12_next_259 (fun hc => ?_) (fun hc => ?_)
      · replace hw := hw.1 hc
        exact go_vret C hr ⟨rfl, hw⟩ dX12_next_440
      · replace hw := hw.2 hc
        refine go_aload_n C 0 rfl rfl dX12_next_262 ?_
        refine go_aload_n C 0 rfl rfl dX12_next_263 ?_
        refine go_get (v := .int (gI σ_2 75 18)) C (shX12 G) (ltX12 hN) lkX12_281 rfl dX12_next_264 ?_
        refine go_ldcw (v := 99999) C kcX12_284 dX12_next_267 ?_
        refine go_icmp_le C 280 rfl dX12_next_270 (fun hc => ?_) (fun hc => ?_)
        · replace hw := hw.1 hc
          refine go_bipush (v := 10) C rfl dX12_next_280 ?_
          refine go_aload_n C 0 rfl rfl dX12_next_282 ?_
          refine go_get (v := .int (gI σ_2 75 18)) C (shX12 G) (ltX12 hN) lkX12_281 rfl dX12_next_283 ?_
          refine go_imul C dX12_next_286 ?_
          refine go_aload_n C 0 rfl rfl dX12_next_287 ?_
          refine go_get (v := .ref (G.2.2.1 79)) C (shX12 G) (ltX12 hN) lkX12_20 rfl dX12_next_288 ?_
          refine go_aload_n C 0 rfl rfl dX12_next_291 ?_
          refine go_get (v := .int (gI σ_2 75 15)) C (shX12 G) (ltX12 hN) lkX12_261 rfl dX12_next_292 ?_
          refine go_bald C (saX12_tape G) (laX12_tape hN) hw.1 dX12_next_295 ?_
          replace hw := hw.2
          refine go_iadd C dX12_next_296 ?_
          refine go_bipush (v := 48) C rfl dX12_next_297 ?_
          refine go_isub C dX12_next_299 ?_
          exact (gbX12_next_300 C hr hR hnl hd hN ih) _ _ hw
        · replace hw := hw.2 hc
          refine go_aload_n C 0 rfl rfl dX12_next_273 ?_
          refine go_get (v := .int (gI σ_2 75 18)) C (shX12 G) (ltX12 hN) lkX12_281 rfl dX12_next_274 ?_
          refine go_goto C 300 rfl dX12_next_277 ?_
          exact (gbX12_next_300 C hr hR hnl hd hN ih) _ _ hw
set_option maxRecDepth 20000 in
set_option maxHeartbeats 4000000 in
theorem gbX12_next_371 {X : XT} {G : GT} {l : Launch} {d : Nat}  {post : St → Prop} (C : Cx X G cX12_next RX12) (hr : Rt X G none (fun v τ => v = none ∧ post τ)) (hR : Rm X l d) (hnl : X.2.2.2.2.2.2.2.2.2.2.1 = 5)  (hd : 3 ≤ d) (hN : 119 ≤ G.2.2.2.2.2)   
    : ∀ (v1 : Int32) (s0 : Int32) (σ : St), wbX12_next_371   post v1 s0 σ → Go X G 371 [(0, .ref (G.2.2.1 75)), (1, .int v1)] [.int s0, .ref (G.2.2.1 75)] σ := by
  intro v1 s0 σ hw
  have hw : ∀ σ_1 : St, σ_1 = sI σ 75 17 s0 →
  ((v1 = 60 →
    wbX12_next_386 post v1 σ_1) ∧
  (¬ v1 = 60 →
    ((¬ v1 = 62 →
      post σ_1) ∧
    (v1 = 62 →
      wbX12_next_386 post v1 σ_1)))) := hw
  refine go_puti C (shX12 G) (ltX12 hN) lpX12_270 (show 17 < 64 by decide) (pxX12_17 G _ _) dX12_next_371 (go_nm fun σ_1 eσ_1 => ?_)
  replace hw := hw σ_1 eσ_1
  refine go_iload_n C 1 rfl rfl dX12_next_374 ?_
  refine go_bipush (v := 60) C rfl dX12_next_375 ?_
  refine go_icmp_eq C 386 rfl dX12_next_377 (fun hc => ?_) (fun hc => ?_)
  · replace hw := hw.1 hc
    exact (gbX12_next_386 C hr hR hnl hd hN) _ _ hw
  · replace hw := hw.2 hc
    refine go_iload_n C 1 rfl rfl dX12_next_380 ?_
    refine go_bipush (v := 62) C rfl dX12_next_381 ?_
    refine go_icmp_ne C 440 rfl dX12_next_383 (fun hc => ?_) (fun hc => ?_)
    · replace hw := hw.1 hc
      exact go_vret C hr ⟨rfl, hw⟩ dX12_next_440
    · replace hw := hw.2 hc
      exact (gbX12_next_386 C hr hR hnl hd hN) _ _ hw
set_option maxRecDepth 20000 in
set_option maxHeartbeats 4000000 in
theorem gbX12_next_39 {X : XT} {G : GT} {l : Launch} {d : Nat}  {post : St → Prop} (C : Cx X G cX12_next RX12) (hr : Rt X G none (fun v τ => v = none ∧ post τ)) (hR : Rm X l d) (hnl : X.2.2.2.2.2.2.2.2.2.2.1 = 5)  (hd : 3 ≤ d) (hN : 119 ≤ G.2.2.2.2.2)  {K0 : St → Prop} (hK0 : ∀ (σ : St), K0 σ → Go X G 0 [(0, .ref (G.2.2.1 75))] [] σ)
    : ∀ (σ : St), wbX12_next_39  K0 post σ → Go X G 39 [(0, .ref (G.2.2.1 75))] [] σ := by
  intro σ hw
  have hw : ∀ σ_1 : St, σ_1 = sI σ 75 15 ((gI σ 75 15) + 1) →
  K0 σ_1 := hw
  refine go_aload_n C 0 rfl rfl dX12_next_39 ?_
  refine go_dup C rfl dX12_next_40 ?_
  refine go_get (v := .int (gI σ 75 15)) C (shX12 G) (ltX12 hN) lkX12_261 rfl dX12_next_41 ?_
  refine go_iconst (v := 1) C rfl dX12_next_44 ?_
  refine go_iadd C dX12_next_45 ?_
  refine go_puti C (shX12 G) (ltX12 hN) lpX12_261 (show 15 < 64 by decide) (pxX12_15 G _ _) dX12_next_46 (go_nm fun σ_1 eσ_1 => ?_)
  replace hw := hw σ_1 eσ_1
  refine go_goto C 0 rfl dX12_next_49 ?_
  exact hK0 _ hw
set_option maxRecDepth 20000 in
set_option maxHeartbeats 4000000 in
theorem gbX12_next_52 {X : XT} {G : GT} {l : Launch} {d : Nat}  {post : St → Prop} (C : Cx X G cX12_next RX12) (hr : Rt X G none (fun v τ => v = none ∧ post τ)) (hR : Rm X l d) (hnl : X.2.2.2.2.2.2.2.2.2.2.1 = 5)  (hd : 3 ≤ d) (hN : 119 ≤ G.2.2.2.2.2)   
    : ∀ (σ : St), wbX12_next_52   post σ → Go X G 52 [(0, .ref (G.2.2.1 75))] [] σ := by
  intro σ hw
  have hw : ∀ σ_1 : St, σ_1 = sI σ 75 16 (gI σ 75 15) →
  ((¬ (gI σ_1 75 15) = (gI σ_1 75 14) →
    vp_in (gI σ_1 75 15) 300 ∧ (
    ∀ v1_2 : Int32, v1_2 = (gI σ_1 79 (gI σ_1 75 15).toNatClampNeg) →
    wpX12_isLetter v1_2 σ_1 (fun r_3 σ_4 =>
    ((r_3 = 0 →
      wpX12_in v1_2 48 57 σ_4 (fun r_5 σ_6 =>
      ((r_5 = 0 →
        ∀ σ_7 : St, σ_7 = sI σ_6 75 15 ((gI σ_6 75 15) + 1) →
        ∀ σ_8 : St, σ_8 = sI σ_7 75 18 v1_2 →
        wpX12_in v1_2 59 62 σ_8 (fun r_9 σ_10 =>
        ((¬ r_9 = 0 →
          wbX12_next_371 post v1_2 3 σ_10) ∧
        (r_9 = 0 →
          wpX12_in v1_2 40 45 σ_10 (fun r_11 σ_12 =>
          ((¬ r_11 = 0 →
            wbX12_next_371 post v1_2 3 σ_12) ∧
          (r_11 = 0 →
            ((v1_2 = 47 →
              wbX12_next_371 post v1_2 3 σ_12) ∧
            (¬ v1_2 = 47 →
              ((¬ v1_2 = 35 →
                wbX12_next_371 post v1_2 4 σ_12) ∧
              (v1_2 = 35 →
                wbX12_next_371 post v1_2 3 σ_12))))))))))) ∧
      (¬ r_5 = 0 →
        ∀ σ_13 : St, σ_13 = sI σ_6 75 17 2 →
        ∀ σ_14 : St, σ_14 = sI σ_13 75 18 0 →
        ∃ m_232, wbX12_next_232 post m_232 σ_14)))) ∧
    (¬ r_3 = 0 →
      ∃ m_99, wbX12_next_99 post m_99 0 0 σ_4))))) ∧
  ((gI σ_1 75 15) = (gI σ_1 75 14) →
    ∀ σ_15 : St, σ_15 = sI σ_1 75 17 0 →
    post σ_15)) := hw
  refine go_aload_n C 0 rfl rfl dX12_next_52 ?_
  refine go_aload_n C 0 rfl rfl dX12_next_53 ?_
  refine go_get (v := .int (gI σ 75 15)) C (shX12 G) (ltX12 hN) lkX12_261 rfl dX12_next_54 ?_
  refine go_puti C (shX12 G) (ltX12 hN) lpX12_267 (show 16 < 64 by decide) (pxX12_16 G _ _) dX12_next_57 (go_nm fun σ_1 eσ_1 => ?_)
  replace hw := hw σ_1 eσ_1
  refine go_aload_n C 0 rfl rfl dX12_next_60 ?_
  refine go_get (v := .int (gI σ_1 75 15)) C (shX12 G) (ltX12 hN) lkX12_261 rfl dX12_next_61 ?_
  refine go_aload_n C 0 rfl rfl dX12_next_64 ?_
  refine go_get (v := .int (gI σ_1 75 14)) C (shX12 G) (ltX12 hN) lkX12_264 rfl dX12_next_65 ?_
  refine go_icmp_ne C 77 rfl dX12_next_68 (fun hc => ?_) (fun hc => ?_)
  · replace hw := hw.1 hc
    refine go_aload_n C 0 rfl rfl dX12_next_77 ?_
    refine go_get (v := .ref (G.2.2.1 79)) C (shX12 G) (ltX12 hN) lkX12_20 rfl dX12_next_78 ?_
    refine go_aload_n C 0 rfl rfl dX12_next_81 ?_
    refine go_get (v := .int (gI σ_1 75 15)) C (shX12 G) (ltX12 hN) lkX12_261 rfl dX12_next_82 ?_
    refine go_bald C (saX12_tape G) (laX12_tape hN) hw.1 dX12_next_85 ?_
    replace hw := hw.2
    refine go_topi (fun v1_2 ev1_2 => ?_)
    replace hw := hw v1_2 ev1_2
    refine go_istore_n (lv2 := [(1, .int v1_2), (0, .ref (G.2.2.1 75))]) C rfl (by rw [hnl]; decide) rfl dX12_next_86 ?_
    refine go_iload_n C 0 rfl rfl dX12_next_87 ?_
    refine go_callS (as := [.int v1_2]) C hR cwX12_273 (Nat.le_trans (by decide) hd) (by decide) rfl rfl (Nat.le_of_ble_eq_true rfl) dX12_next_88 (spX12_isLetter (Nat.le_refl _) hN hw) (fun v_ τ_ hw => ?_)
    obtain ⟨r_3, rfl, hw⟩ := hw
    obtain ⟨σ_4, rfl⟩ : ∃ z, z = τ_ := ⟨_, rfl⟩
    refine go_if_eq C 211 rfl dX12_next_91 (fun hc => ?_) (fun hc => ?_)
    · replace hw := hw.1 hc
      refine go_iload_n C 0 rfl rfl dX12_next_211 ?_
      refine go_bipush (v := 48) C rfl dX12_next_212 ?_
      refine go_bipush (v := 57) C rfl dX12_next_214 ?_
      refine go_callS (as := [.int v1_2, .int 48, .int 57]) C hR cwX12_152 (Nat.le_trans (by decide) hd) (by decide) rfl rfl (Nat.le_of_ble_eq_true rfl) dX12_next_216 (spX12_in (Nat.le_refl _) hN hw) (fun v_ τ_ hw => ?_)
      obtain ⟨r_5, rfl, hw⟩ := hw
      obtain ⟨σ_6, rfl⟩ : ∃ z, z = τ_ := ⟨_, rfl⟩
      refine go_if_eq C 316 rfl dX12_next_219 (fun hc => ?_) (fun hc => ?_)
      · replace hw := hw.1 hc
        refine go_aload_n C 1 rfl rfl dX12_next_316 ?_
        refine go_dup C rfl dX12_next_317 ?_
        refine go_get (v := .int (gI σ_6 75 15)) C (shX12 G) (ltX12 hN) lkX12_261 rfl dX12_next_318 ?_
        refine go_iconst (v := 1) C rfl dX12_next_321 ?_
        refine go_iadd C dX12_next_322 ?_
        refine go_puti C (shX12 G) (ltX12 hN) lpX12_261 (show 15 < 64 by decide) (pxX12_15 G _ _) dX12_next_323 (go_nm fun σ_7 eσ_7 => ?_)
        replace hw := hw σ_7 eσ_7
        refine go_aload_n C 1 rfl rfl dX12_next_326 ?_
        refine go_iload_n C 0 rfl rfl dX12_next_327 ?_
        refine go_puti C (shX12 G) (ltX12 hN) lpX12_281 (show 18 < 64 by decide) (pxX12_18 G _ _) dX12_next_328 (go_nm fun σ_8 eσ_8 => ?_)
        replace hw := hw σ_8 eσ_8
        refine go_aload_n C 1 rfl rfl dX12_next_331 ?_
        refine go_iload_n C 0 rfl rfl dX12_next_332 ?_
        refine go_bipush (v := 59) C rfl dX12_next_333 ?_
        refine go_bipush (v := 62) C rfl dX12_next_335 ?_
        refine go_callS (as := [.int v1_2, .int 59, .int 62]) C hR cwX12_152 (Nat.le_trans (by decide) hd) (by decide) rfl rfl (Nat.le_of_ble_eq_true rfl) dX12_next_337 (spX12_in (Nat.le_refl _) hN hw) (fun v_ τ_ hw => ?_)
        obtain ⟨r_9, rfl, hw⟩ := hw
        obtain ⟨σ_10, rfl⟩ : ∃ z, z = τ_ := ⟨_, rfl⟩
        refine go_if_ne C 366 rfl dX12_next_340 (fun hc => ?_) (fun hc => ?_)
        · replace hw := hw.1 hc
          refine go_iconst (v := 3) C rfl dX12_next_366 ?_
          refine go_goto C 371 rfl dX12_next_367 ?_
          refine go_sub [1, 0] rfl ?_
          exact (gbX12_next_371 C hr hR hnl hd hN) _ _ _ hw
        · replace hw := hw.2 hc
          refine go_iload_n C 0 rfl rfl dX12_next_343 ?_
          refine go_bipush (v := 40) C rfl dX12_next_344 ?_
          refine go_bipush (v := 45) C rfl dX12_next_346 ?_
          refine go_callS (as := [.int v1_2, .int 40, .int 45]) C hR cwX12_152 (Nat.le_trans (by decide) hd) (by decide) rfl rfl (Nat.le_of_ble_eq_true rfl) dX12_next_348 (spX12_in (Nat.le_refl _) hN hw) (fun v_ τ_ hw => ?_)
          obtain ⟨r_11, rfl, hw⟩ := hw
          obtain ⟨σ_12, rfl⟩ : ∃ z, z = τ_ := ⟨_, rfl⟩
          refine go_if_ne C 366 rfl dX12_next_351 (fun hc => ?_) (fun hc => ?_)
          · replace hw := hw.1 hc
            refine go_iconst (v := 3) C rfl dX12_next_366 ?_
            refine go_goto C 371 rfl dX12_next_367 ?_
            refine go_sub [1, 0] rfl ?_
            exact (gbX12_next_371 C hr hR hnl hd hN) _ _ _ hw
          · replace hw := hw.2 hc
            refine go_iload_n C 0 rfl rfl dX12_next_354 ?_
            refine go_bipush (v := 47) C rfl dX12_next_355 ?_
            refine go_icmp_eq C 366 rfl dX12_next_357 (fun hc => ?_) (fun hc => ?_)
            · replace hw := hw.1 hc
              refine go_iconst (v := 3) C rfl dX12_next_366 ?_
              refine go_goto C 371 rfl dX12_next_367 ?_
              refine go_sub [1, 0] rfl ?_
              exact (gbX12_next_371 C hr hR hnl hd hN) _ _ _ hw
            · replace hw := hw.2 hc
              refine go_iload_n C 0 rfl rfl dX12_next_360 ?_
              refine go_bipush (v := 35) C rfl dX12_next_361 ?_
              refine go_icmp_ne C 370 rfl dX12_next_363 (fun hc => ?_) (fun hc => ?_)
              · replace hw := hw.1 hc
                refine go_iconst (v := 4) C rfl dX12_next_370 ?_
                refine go_sub [1, 0] rfl ?_
                exact (gbX12_next_371 C hr hR hnl hd hN) _ _ _ hw
              · replace hw := hw.2 hc
                refine go_iconst (v := 3) C rfl dX12_next_366 ?_
                refine go_goto C 371 rfl dX12_next_367 ?_
                refine go_sub [1, 0] rfl ?_
                exact (gbX12_next_371 C hr hR hnl hd hN) _ _ _ hw
      · replace hw := hw.2 hc
        refine go_aload_n C 1 rfl rfl dX12_next_222 ?_
        refine go_iconst (v := 2) C rfl dX12_next_223 ?_
        refine go_puti C (shX12 G) (ltX12 hN) lpX12_270 (show 17 < 64 by decide) (pxX12_17 G _ _) dX12_next_224 (go_nm fun σ_13 eσ_13 => ?_)
        replace hw := hw σ_13 eσ_13
        refine go_aload_n C 1 rfl rfl dX12_next_227 ?_
        refine go_iconst (v := 0) C rfl dX12_next_228 ?_
        refine go_puti C (shX12 G) (ltX12 hN) lpX12_281 (show 18 < 64 by decide) (pxX12_18 G _ _) dX12_next_229 (go_nm fun σ_14 eσ_14 => ?_)
        replace hw := hw σ_14 eσ_14
        refine go_sub [1] rfl ?_
        obtain ⟨n_0, hw⟩ := hw
        exact (gbX12_next_232 C hr hR hnl hd hN) n_0 _ hw
    · replace hw := hw.2 hc
      refine go_lconst (v := 0) C rfl dX12_next_94 ?_
      refine go_lstore_n (lv2 := [(2, .long 0), (1, .int v1_2), (0, .ref (G.2.2.1 75))]) C rfl (by rw [hnl]; decide) rfl dX12_next_95 ?_
      refine go_iconst (v := 0) C rfl dX12_next_96 ?_
      refine go_istore (lv2 := [(4, .int 0), (2, .long 0), (1, .int v1_2), (0, .ref (G.2.2.1 75))]) C (by rw [hnl]; decide) rfl dX12_next_97 ?_
      refine go_sub [3, 1, 0] rfl ?_
      obtain ⟨n_0, hw⟩ := hw
      exact (gbX12_next_99 C hr hR hnl hd hN) n_0 _ _ _ hw
  · replace hw := hw.2 hc
    refine go_aload_n C 0 rfl rfl dX12_next_71 ?_
    refine go_iconst (v := 0) C rfl dX12_next_72 ?_
    refine go_puti C (shX12 G) (ltX12 hN) lpX12_270 (show 17 < 64 by decide) (pxX12_17 G _ _) dX12_next_73 (go_nm fun σ_15 eσ_15 => ?_)
    replace hw := hw σ_15 eσ_15
    exact go_vret C hr ⟨rfl, hw⟩ dX12_next_76
set_option maxRecDepth 20000 in
set_option maxHeartbeats 4000000 in
theorem gbX12_next_0 {X : XT} {G : GT} {l : Launch} {d : Nat}  {post : St → Prop} (C : Cx X G cX12_next RX12) (hr : Rt X G none (fun v τ => v = none ∧ post τ)) (hR : Rm X l d) (hnl : X.2.2.2.2.2.2.2.2.2.2.1 = 5)  (hd : 3 ≤ d) (hN : 119 ≤ G.2.2.2.2.2)   
    : ∀ (n : Nat) (σ : St), wbX12_next_0   post n σ → Go X G 0 [(0, .ref (G.2.2.1 75))] [] σ := by
  intro n
  induction n with
  | zero => intro σ hw; exact hw.elim
  | succ n ih =>
    intro σ hw
    have hw : (((gI σ 75 14) ≤ (gI σ 75 15) →
      wbX12_next_52 post σ) ∧
    (¬ (gI σ 75 14) ≤ (gI σ 75 15) →
      vp_in (gI σ 75 15) 300 ∧ (
      (((gI σ 79 (gI σ 75 15).toNatClampNeg) = 32 →
        wbX12_next_39 (wbX12_next_0 post n) post σ) ∧
      (¬ (gI σ 79 (gI σ 75 15).toNatClampNeg) = 32 →
        vp_in (gI σ 75 15) 300 ∧ (
        ((¬ (gI σ 79 (gI σ 75 15).toNatClampNeg) = 10 →
          wbX12_next_52 post σ) ∧
        ((gI σ 79 (gI σ 75 15).toNatClampNeg) = 10 →
          wbX12_next_39 (wbX12_next_0 post n) post σ)))))))) := hw
    refine go_aload_n C 0 rfl rfl dX12_next_0 ?_
    refine go_get (v := .int (gI σ 75 15)) C (shX12 G) (ltX12 hN) lkX12_261 rfl dX12_next_1 ?_
    refine go_aload_n C 0 rfl rfl dX12_next_4 ?_
    refine go_get (v := .int (gI σ 75 14)) C (shX12 G) (ltX12 hN) lkX12_264 rfl dX12_next_5 ?_
    refine go_icmp_ge C 52 rfl dX12_next_8 (fun hc => ?_) (fun hc => ?_)
    · replace hw := hw.1 hc
      exact (gbX12_next_52 C hr hR hnl hd hN) _ hw
    · replace hw := hw.2 hc
      refine go_aload_n C 0 rfl rfl dX12_next_11 ?_
      refine go_get (v := .ref (G.2.2.1 79)) C (shX12 G) (ltX12 hN) lkX12_20 rfl dX12_next_12 ?_
      refine go_aload_n C 0 rfl rfl dX12_next_15 ?_
      refine go_get (v := .int (gI σ 75 15)) C (shX12 G) (ltX12 hN) lkX12_261 rfl dX12_next_16 ?_
      refine go_bald C (saX12_tape G) (laX12_tape hN) hw.1 dX12_next_19 ?_
      replace hw := hw.2
      refine go_bipush (v := 32) C rfl dX12_next_20 ?_
      refine go_icmp_eq C 39 rfl dX12_next_22 (fun hc => ?_) (fun hc => ?_)
      · replace hw := hw.1 hc
        exact (gbX12_next_39 C hr hR hnl hd hN ih) _ hw
      · replace hw := hw.2 hc
        refine go_aload_n C 0 rfl rfl dX12_next_25 ?_
        refine go_get (v := .ref (G.2.2.1 79)) C (shX12 G) (ltX12 hN) lkX12_20 rfl dX12_next_26 ?_
        refine go_aload_n C 0 rfl rfl dX12_next_29 ?_
        refine go_get (v := .int (gI σ 75 15)) C (shX12 G) (ltX12 hN) lkX12_261 rfl dX12_next_30 ?_
        refine go_bald C (saX12_tape G) (laX12_tape hN) hw.1 dX12_next_33 ?_
        replace hw := hw.2
        refine go_bipush (v := 10) C rfl dX12_next_34 ?_
        refine go_icmp_ne C 52 rfl dX12_next_36 (fun hc => ?_) (fun hc => ?_)
        · replace hw := hw.1 hc
          exact (gbX12_next_52 C hr hR hnl hd hN) _ hw
        · replace hw := hw.2 hc
          exact (gbX12_next_39 C hr hR hnl hd hN ih) _ hw
set_option maxRecDepth 20000 in
set_option maxHeartbeats 4000000 in
theorem spX12_next {l : Launch} {G : GT} {d : Nat}  (hd : 3 ≤ d)  (hN : 119 ≤ G.2.2.2.2.2)   {σ : St} {post : St → Prop} (hw : wpX12_next   σ post) : Sp l G d yX12_next cX12_next 5 none [.ref (G.2.2.1 75)] σ (fun v τ => v = none ∧ post τ) := by
  refine Sp.of (by decide) (Nat.le_of_ble_eq_true rfl) fun X C hr hR hnl => ?_
  show Go X G 0 [(0, .ref (G.2.2.1 75))] [] σ
  have hw : ∃ m_0, wbX12_next_0 post m_0 σ := hw
  obtain ⟨n_0, hw⟩ := hw
  exact (gbX12_next_0 C hr hR hnl hd hN) n_0 _ hw
