-- CradleNames$Reader.either()V
set_option maxRecDepth 20000 in
set_option maxHeartbeats 4000000 in
theorem gbX8_either_77 {X : XT} {G : GT} {l : Launch} {d : Nat}  {post : St → Prop} (C : Cx X G cX8_either RX8) (hr : Rt X G none (fun v τ => v = none ∧ post τ)) (hR : Rm X l d) (hnl : X.2.2.2.2.2.2.2.2.2.2.1 = 4)  (hd : 58 ≤ d) (hN : 75 ≤ G.2.2.2.2.2)  {K4 : Int32 → Int32 → St → Prop} (hK4 : ∀ (v1 : Int32) (v2 : Int32) (σ : St), K4 v1 v2 σ → Go X G 4 [(0, .ref (G.2.2.1 42)), (1, .int v1), (2, .int v2)] [] σ)
    : ∀ (v1 : Int32) (v2 : Int32) (σ : St), wbX8_either_77  K4 post v1 v2 σ → Go X G 77 [(0, .ref (G.2.2.1 42)), (1, .int v1), (2, .int v2)] [] σ := by
  intro v1 v2 σ hw
  have hw : ((v1 = 0 →
    ∀ v2_1 : Int32, v2_1 = v2 + 1 →
    K4 1 v2_1 σ) ∧
  (¬ v1 = 0 →
    ∃ k_2, gR σ 42 9 = some (30 + 2 * k_2) ∧ k_2 < 6 ∧ (
    wpX9_put k_2 17 σ (fun σ_4 =>
    ∀ v2_5 : Int32, v2_5 = v2 + 1 →
    K4 1 v2_5 σ_4)))) := hw
  refine go_iload_n C 1 rfl rfl dX8_either_77 ?_
  refine go_if_eq C 90 rfl dX8_either_78 (fun hc => ?_) (fun hc => ?_)
  · replace hw := hw.1 hc
    refine go_iconst (v := 1) C rfl dX8_either_90 ?_
    refine go_istore_n (lv2 := [(1, .int 1), (0, .ref (G.2.2.1 42)), (2, .int v2)]) C rfl (by rw [hnl]; decide) rfl dX8_either_91 ?_
    obtain ⟨v2_1, ev2_1⟩ : ∃ z : Int32, z = v2 + 1 := ⟨_, rfl⟩
    replace hw := hw v2_1 ev2_1
    refine go_iinc (v := v2_1) (lv2 := [(2, .int v2_1), (1, .int 1), (0, .ref (G.2.2.1 42))]) C 2 rfl (by rw [ev2_1]; rfl) (by rw [hnl]; decide) rfl dX8_either_92 ?_
    refine go_goto C 4 rfl dX8_either_95 ?_
    refine go_sub [2, 1, 0] rfl ?_
    exact hK4 _ _ _ hw
  · replace hw := hw.2 hc
    refine go_aload_n C 0 rfl rfl dX8_either_81 ?_
    obtain ⟨k_2, gk_2, hk_2, hw⟩ := hw
    refine go_get (v := .ref (G.2.2.1 (30 + 2 * k_2))) C (shX8 G) (ltX8 hN) lkX8_31 (by show some (va_rf ((gR σ 42 9).map G.2.2.1)) = _; rw [gk_2]; rfl) dX8_either_82 ?_
    refine go_bipush (v := 17) C rfl dX8_either_85 ?_
    refine go_callV (as := [.int 17]) C hR (shX9 G hk_2) (ltX9 hN hk_2) cwX8_101 (Nat.le_trans (by decide) hd) (by decide) rfl rfl (Nat.le_of_ble_eq_true rfl) dX8_either_87 (spX9_put (Nat.le_refl _) hN hk_2 hw) (fun v_ τ_ hw => ?_)
    obtain ⟨rfl, hw⟩ := hw
    obtain ⟨σ_4, rfl⟩ : ∃ z, z = τ_ := ⟨_, rfl⟩
    refine go_iconst (v := 1) C rfl dX8_either_90 ?_
    refine go_istore_n (lv2 := [(1, .int 1), (0, .ref (G.2.2.1 42)), (2, .int v2)]) C rfl (by rw [hnl]; decide) rfl dX8_either_91 ?_
    obtain ⟨v2_5, ev2_5⟩ : ∃ z : Int32, z = v2 + 1 := ⟨_, rfl⟩
    replace hw := hw v2_5 ev2_5
    refine go_iinc (v := v2_5) (lv2 := [(2, .int v2_5), (1, .int 1), (0, .ref (G.2.2.1 42))]) C 2 rfl (by rw [ev2_5]; rfl) (by rw [hnl]; decide) rfl dX8_either_92 ?_
    refine go_goto C 4 rfl dX8_either_95 ?_
    refine go_sub [2, 1, 0] rfl ?_
    exact hK4 _ _ _ hw
set_option maxRecDepth 20000 in
set_option maxHeartbeats 4000000 in
theorem gbX8_either_38 {X : XT} {G : GT} {l : Launch} {d : Nat}  {post : St → Prop} (C : Cx X G cX8_either RX8) (hr : Rt X G none (fun v τ => v = none ∧ post τ)) (hR : Rm X l d) (hnl : X.2.2.2.2.2.2.2.2.2.2.1 = 4)  (hd : 58 ≤ d) (hN : 75 ≤ G.2.2.2.2.2)  {K4 : Int32 → Int32 → St → Prop} (hK4 : ∀ (v1 : Int32) (v2 : Int32) (σ : St), K4 v1 v2 σ → Go X G 4 [(0, .ref (G.2.2.1 42)), (1, .int v1), (2, .int v2)] [] σ)
    : ∀ (n : Nat) (v1 : Int32) (v2 : Int32) (v3 : Int32) (σ : St), wbX8_either_38  K4 post n v1 v2 v3 σ → Go X G 38 [(0, .ref (G.2.2.1 42)), (1, .int v1), (2, .int v2), (3, .int v3)] [] σ := by
  intro n
  induction n with
  | zero => intro v1 v2 v3 σ hw; exact hw.elim
  | succ n ih =>
    intro v1 v2 v3 σ hw
    have hw : ((300 ≤ v3 →
      wbX8_either_77 K4 post v1 v2 σ) ∧
    (¬ 300 ≤ v3 →
      ((¬ (gI σ 42 8) = 18 →
        wbX8_either_77 K4 post v1 v2 σ) ∧
      ((gI σ 42 8) = 18 →
        wpX8_advance  σ (fun σ_2 =>
        wpX8_ask  σ_2 (fun σ_4 =>
        ∃ k_5, gR σ_4 42 9 = some (30 + 2 * k_5) ∧ k_5 < 6 ∧ (
        wpX9_put k_5 18 σ_4 (fun σ_7 =>
        ∀ v3_8 : Int32, v3_8 = v3 + 1 →
        wbX8_either_38 K4 post n v1 v2 v3_8 σ_7)))))))) := hw
    refine go_iload_n C 3 rfl rfl dX8_either_38 ?_
    refine go_sipush (v := 300) C rfl dX8_either_39 ?_
    refine go_icmp_ge C 77 rfl dX8_either_42 (fun hc => ?_) (fun hc => ?_)
    · replace hw := hw.1 hc
      refine go_sub [0, 1, 2] rfl ?_
      exact (gbX8_either_77 C hr hR hnl hd hN hK4) _ _ _ hw
    · replace hw := hw.2 hc
      refine go_aload_n C 0 rfl rfl dX8_either_45 ?_
      refine go_get (v := .int (gI σ 42 8)) C (shX8 G) (ltX8 hN) lkX8_52 rfl dX8_either_46 ?_
      refine go_bipush (v := 18) C rfl dX8_either_49 ?_
      refine go_icmp_ne C 77 rfl dX8_either_51 (fun hc => ?_) (fun hc => ?_)
      · replace hw := hw.1 hc
        refine go_sub [0, 1, 2] rfl ?_
        exact (gbX8_either_77 C hr hR hnl hd hN hK4) _ _ _ hw
      · replace hw := hw.2 hc
        refine go_aload_n C 0 rfl rfl dX8_either_54 ?_
        refine go_callV (as := []) C hR (shX8 G) (ltX8 hN) cwX8_92 (Nat.le_trans (by decide) hd) (by decide) rfl rfl (Nat.le_of_ble_eq_true rfl) dX8_either_55 (spX8_advance (Nat.le_refl _) hN hw) (fun v_ τ_ hw => ?_)
        obtain ⟨rfl, hw⟩ := hw
        obtain ⟨σ_2, rfl⟩ : ∃ z, z = τ_ := ⟨_, rfl⟩
        refine go_aload_n C 0 rfl rfl dX8_either_58 ?_
        refine go_callV (as := []) C hR (shX8 G) (ltX8 hN) cwX8_119 (Nat.le_trans (by decide) hd) (by decide) rfl rfl (Nat.le_of_ble_eq_true rfl) dX8_either_59 (spX8_ask (Nat.le_refl _) hN hw) (fun v_ τ_ hw => ?_)
        obtain ⟨rfl, hw⟩ := hw
        obtain ⟨σ_4, rfl⟩ : ∃ z, z = τ_ := ⟨_, rfl⟩
        refine go_aload_n C 0 rfl rfl dX8_either_62 ?_
        obtain ⟨k_5, gk_5, hk_5, hw⟩ := hw
        refine go_get (v := .ref (G.2.2.1 (30 + 2 * k_5))) C (shX8 G) (ltX8 hN) lkX8_31 (by show some (va_rf ((gR σ_4 42 9).map G.2.2.1)) = _; rw [gk_5]; rfl) dX8_either_63 ?_
        refine go_bipush (v := 18) C rfl dX8_either_66 ?_
        refine go_callV (as := [.int 18]) C hR (shX9 G hk_5) (ltX9 hN hk_5) cwX8_101 (Nat.le_trans (by decide) hd) (by decide) rfl rfl (Nat.le_of_ble_eq_true rfl) dX8_either_68 (spX9_put (Nat.le_refl _) hN hk_5 hw) (fun v_ τ_ hw => ?_)
        obtain ⟨rfl, hw⟩ := hw
        obtain ⟨σ_7, rfl⟩ : ∃ z, z = τ_ := ⟨_, rfl⟩
        obtain ⟨v3_8, ev3_8⟩ : ∃ z : Int32, z = v3 + 1 := ⟨_, rfl⟩
        replace hw := hw v3_8 ev3_8
        refine go_iinc (v := v3_8) (lv2 := [(3, .int v3_8), (0, .ref (G.2.2.1 42)), (1, .int v1), (2, .int v2)]) C 3 rfl (by rw [ev3_8]; rfl) (by rw [hnl]; decide) rfl dX8_either_71 ?_
        refine go_goto C 38 rfl dX8_either_74 ?_
        refine go_sub [1, 2, 3, 0] rfl ?_
        exact ih _ _ _ _ hw
set_option maxRecDepth 20000 in
set_option maxHeartbeats 4000000 in
theorem gbX8_either_32 {X : XT} {G : GT} {l : Launch} {d : Nat}  {post : St → Prop} (C : Cx X G cX8_either RX8) (hr : Rt X G none (fun v τ => v = none ∧ post τ)) (hR : Rm X l d) (hnl : X.2.2.2.2.2.2.2.2.2.2.1 = 4)  (hd : 58 ≤ d) (hN : 75 ≤ G.2.2.2.2.2)  {K4 : Int32 → Int32 → St → Prop} (hK4 : ∀ (v1 : Int32) (v2 : Int32) (σ : St), K4 v1 v2 σ → Go X G 4 [(0, .ref (G.2.2.1 42)), (1, .int v1), (2, .int v2)] [] σ)
    : ∀ (v1 : Int32) (v2 : Int32) (σ : St), wbX8_either_32  K4 post v1 v2 σ → Go X G 32 [(0, .ref (G.2.2.1 42)), (1, .int v1), (2, .int v2)] [] σ := by
  intro v1 v2 σ hw
  have hw : wpX8_ask  σ (fun σ_2 =>
  ∃ m_38, wbX8_either_38 K4 post m_38 v1 v2 0 σ_2) := hw
  refine go_aload_n C 0 rfl rfl dX8_either_32 ?_
  refine go_callV (as := []) C hR (shX8 G) (ltX8 hN) cwX8_119 (Nat.le_trans (by decide) hd) (by decide) rfl rfl (Nat.le_of_ble_eq_true rfl) dX8_either_33 (spX8_ask (Nat.le_refl _) hN hw) (fun v_ τ_ hw => ?_)
  obtain ⟨rfl, hw⟩ := hw
  obtain ⟨σ_2, rfl⟩ : ∃ z, z = τ_ := ⟨_, rfl⟩
  refine go_iconst (v := 0) C rfl dX8_either_36 ?_
  refine go_istore_n (lv2 := [(3, .int 0), (0, .ref (G.2.2.1 42)), (1, .int v1), (2, .int v2)]) C rfl (by rw [hnl]; decide) rfl dX8_either_37 ?_
  refine go_sub [1, 2, 3, 0] rfl ?_
  obtain ⟨n_0, hw⟩ := hw
  exact (gbX8_either_38 C hr hR hnl hd hN hK4) n_0 _ _ _ _ hw
set_option maxRecDepth 20000 in
set_option maxHeartbeats 4000000 in
theorem gbX8_either_24 {X : XT} {G : GT} {l : Launch} {d : Nat}  {post : St → Prop} (C : Cx X G cX8_either RX8) (hr : Rt X G none (fun v τ => v = none ∧ post τ)) (hR : Rm X l d) (hnl : X.2.2.2.2.2.2.2.2.2.2.1 = 4)  (hd : 58 ≤ d) (hN : 75 ≤ G.2.2.2.2.2)  {K4 : Int32 → Int32 → St → Prop} (hK4 : ∀ (v1 : Int32) (v2 : Int32) (σ : St), K4 v1 v2 σ → Go X G 4 [(0, .ref (G.2.2.1 42)), (1, .int v1), (2, .int v2)] [] σ)
    : ∀ (v1 : Int32) (v2 : Int32) (σ : St), wbX8_either_24  K4 post v1 v2 σ → Go X G 24 [(0, .ref (G.2.2.1 42)), (1, .int v1), (2, .int v2)] [] σ := by
  intro v1 v2 σ hw
  have hw : ((v1 = 0 →
    wbX8_either_32 K4 post v1 v2 σ) ∧
  (¬ v1 = 0 →
    wpX8_advance  σ (fun σ_2 =>
    wbX8_either_32 K4 post v1 v2 σ_2))) := hw
  refine go_iload_n C 1 rfl rfl dX8_either_24 ?_
  refine go_if_eq C 32 rfl dX8_either_25 (fun hc => ?_) (fun hc => ?_)
  · replace hw := hw.1 hc
    exact (gbX8_either_32 C hr hR hnl hd hN hK4) _ _ _ hw
  · replace hw := hw.2 hc
    refine go_aload_n C 0 rfl rfl dX8_either_28 ?_
    refine go_callV (as := []) C hR (shX8 G) (ltX8 hN) cwX8_92 (Nat.le_trans (by decide) hd) (by decide) rfl rfl (Nat.le_of_ble_eq_true rfl) dX8_either_29 (spX8_advance (Nat.le_refl _) hN hw) (fun v_ τ_ hw => ?_)
    obtain ⟨rfl, hw⟩ := hw
    obtain ⟨σ_2, rfl⟩ : ∃ z, z = τ_ := ⟨_, rfl⟩
    exact (gbX8_either_32 C hr hR hnl hd hN hK4) _ _ _ hw
set_option maxRecDepth 20000 in
set_option maxHeartbeats 4000000 in
theorem gbX8_either_4 {X : XT} {G : GT} {l : Launch} {d : Nat}  {post : St → Prop} (C : Cx X G cX8_either RX8) (hr : Rt X G none (fun v τ => v = none ∧ post τ)) (hR : Rm X l d) (hnl : X.2.2.2.2.2.2.2.2.2.2.1 = 4)  (hd : 58 ≤ d) (hN : 75 ≤ G.2.2.2.2.2)   
    : ∀ (n : Nat) (v1 : Int32) (v2 : Int32) (σ : St), wbX8_either_4   post n v1 v2 σ → Go X G 4 [(0, .ref (G.2.2.1 42)), (1, .int v1), (2, .int v2)] [] σ := by
  intro n
  induction n with
  | zero => intro v1 v2 σ hw; exact hw.elim
  | succ n ih =>
    intro v1 v2 σ hw
    have hw : ((300 ≤ v2 →
      post σ) ∧
    (¬ 300 ≤ v2 →
      ((v2 = 0 →
        wbX8_either_24 (wbX8_either_4 post n) post v1 v2 σ) ∧
      (¬ v2 = 0 →
        ((¬ (gI σ 42 8) = 17 →
          post σ) ∧
        ((gI σ 42 8) = 17 →
          wbX8_either_24 (wbX8_either_4 post n) post v1 v2 σ)))))) := hw
    refine go_iload_n C 2 rfl rfl dX8_either_4 ?_
    refine go_sipush (v := 300) C rfl dX8_either_5 ?_
    refine go_icmp_ge C 98 rfl dX8_either_8 (fun hc => ?_) (fun hc => ?_)
    · replace hw := hw.1 hc
      exact go_vret C hr ⟨rfl, hw⟩ dX8_either_98
    · replace hw := hw.2 hc
      refine go_iload_n C 2 rfl rfl dX8_either_11 ?_
      refine go_if_eq C 24 rfl dX8_either_12 (fun hc => ?_) (fun hc => ?_)
      · replace hw := hw.1 hc
        exact (gbX8_either_24 C hr hR hnl hd hN ih) _ _ _ hw
      · replace hw := hw.2 hc
        refine go_aload_n C 0 rfl rfl dX8_either_15 ?_
        refine go_get (v := .int (gI σ 42 8)) C (shX8 G) (ltX8 hN) lkX8_52 rfl dX8_either_16 ?_
        refine go_bipush (v := 17) C rfl dX8_either_19 ?_
        refine go_icmp_ne C 98 rfl dX8_either_21 (fun hc => ?_) (fun hc => ?_)
        · replace hw := hw.1 hc
          exact go_vret C hr ⟨rfl, hw⟩ dX8_either_98
        · replace hw := hw.2 hc
          exact (gbX8_either_24 C hr hR hnl hd hN ih) _ _ _ hw
set_option maxRecDepth 20000 in
set_option maxHeartbeats 4000000 in
theorem spX8_either {l : Launch} {G : GT} {d : Nat}  (hd : 58 ≤ d)  (hN : 75 ≤ G.2.2.2.2.2)   {σ : St} {post : St → Prop} (hw : wpX8_either   σ post) : Sp l G d yX8_either cX8_either 4 none [.ref (G.2.2.1 42)] σ (fun v τ => v = none ∧ post τ) := by
  refine Sp.of (by decide) (Nat.le_of_ble_eq_true rfl) fun X C hr hR hnl => ?_
  show Go X G 0 [(0, .ref (G.2.2.1 42))] [] σ
  have hw : ∃ m_4, wbX8_either_4 post m_4 0 0 σ := hw
  refine go_iconst (v := 0) C rfl dX8_either_0 ?_
  refine go_istore_n (lv2 := [(1, .int 0), (0, .ref (G.2.2.1 42))]) C rfl (by rw [hnl]; decide) rfl dX8_either_1 ?_
  refine go_iconst (v := 0) C rfl dX8_either_2 ?_
  refine go_istore_n (lv2 := [(2, .int 0), (1, .int 0), (0, .ref (G.2.2.1 42))]) C rfl (by rw [hnl]; decide) rfl dX8_either_3 ?_
  refine go_sub [2, 1, 0] rfl ?_
  obtain ⟨n_0, hw⟩ := hw
  exact (gbX8_either_4 C hr hR hnl hd hN) n_0 _ _ _ hw
-- CradleNames$Reader.clause(I)V
set_option maxRecDepth 20000 in
set_option maxHeartbeats 4000000 in
theorem gbX8_clause_151 {X : XT} {G : GT} {l : Launch} {d : Nat}  {post : St → Prop} (C : Cx X G cX8_clause RX8) (hr : Rt X G none (fun v τ => v = none ∧ post τ)) (hR : Rm X l d) (hnl : X.2.2.2.2.2.2.2.2.2.2.1 = 3)  (hd : 59 ≤ d) (hN : 75 ≤ G.2.2.2.2.2)   
    : ∀ (σ : St), wbX8_clause_151   post σ → Go X G 151 [(0, .ref (G.2.2.1 42))] [] σ := by
  intro σ hw
  have hw : wpX8_expect 35 σ (fun σ_2 =>
  post σ_2) := hw
  refine go_aload_n C 0 rfl rfl dX8_clause_151 ?_
  refine go_bipush (v := 35) C rfl dX8_clause_152 ?_
  refine go_callV (as := [.int 35]) C hR (shX8 G) (ltX8 hN) cwX8_110 (Nat.le_trans (by decide) hd) (by decide) rfl rfl (Nat.le_of_ble_eq_true rfl) dX8_clause_154 (spX8_expect (Nat.le_refl _) hN hw) (fun v_ τ_ hw => ?_)
  obtain ⟨rfl, hw⟩ := hw
  obtain ⟨σ_2, rfl⟩ : ∃ z, z = τ_ := ⟨_, rfl⟩
  exact go_vret C hr ⟨rfl, hw⟩ dX8_clause_157
set_option maxRecDepth 20000 in
set_option maxHeartbeats 4000000 in
theorem gbX8_clause_93 {X : XT} {G : GT} {l : Launch} {d : Nat}  {post : St → Prop} (C : Cx X G cX8_clause RX8) (hr : Rt X G none (fun v τ => v = none ∧ post τ)) (hR : Rm X l d) (hnl : X.2.2.2.2.2.2.2.2.2.2.1 = 3)  (hd : 59 ≤ d) (hN : 75 ≤ G.2.2.2.2.2)   
    : ∀ (v2 : Int32) (s0 : Int32) (s1 : Int32) (σ : St), wbX8_clause_93   post v2 s0 s1 σ → Go X G 93 [(0, .ref (G.2.2.1 42)), (2, .int v2)] [.int s0, .int s1, .ref (G.2.2.1 42)] σ := by
  intro v2 s0 s1 σ hw
  have hw : ∀ σ_1 : St, σ_1 = sI σ 42 10 (s1 ||| s0) →
  wpX8_advance  σ_1 (fun σ_3 =>
  ((¬ v2 = 14 →
    ((¬ v2 = 15 →
      wpX8_window v2 σ_3 (fun σ_5 =>
      wbX8_clause_151 post σ_5)) ∧
    (v2 = 15 →
      wpX8_either  σ_3 (fun σ_7 =>
      ∃ k_8, gR σ_7 42 9 = some (30 + 2 * k_8) ∧ k_8 < 6 ∧ (
      wpX9_put k_8 15 σ_7 (fun σ_10 =>
      wbX8_clause_151 post σ_10)))))) ∧
  (v2 = 14 →
    wpX8_sum (wrX8_around 12) 0 σ_3 (fun σ_12 =>
    ∃ k_13, gR σ_12 42 9 = some (30 + 2 * k_13) ∧ k_13 < 6 ∧ (
    wpX9_put k_13 14 σ_12 (fun σ_15 =>
    wbX8_clause_151 post σ_15)))))) := hw
  refine go_ior C dX8_clause_93 ?_
  refine go_puti C (shX8 G) (ltX8 hN) lpX8_43 (show 10 < 11 by decide) (pxX8_10 G _ _) dX8_clause_94 (go_nm fun σ_1 eσ_1 => ?_)
  replace hw := hw σ_1 eσ_1
  refine go_aload_n C 0 rfl rfl dX8_clause_97 ?_
  refine go_callV (as := []) C hR (shX8 G) (ltX8 hN) cwX8_92 (Nat.le_trans (by decide) hd) (by decide) rfl rfl (Nat.le_of_ble_eq_true rfl) dX8_clause_98 (spX8_advance (Nat.le_refl _) hN hw) (fun v_ τ_ hw => ?_)
  obtain ⟨rfl, hw⟩ := hw
  obtain ⟨σ_3, rfl⟩ : ∃ z, z = τ_ := ⟨_, rfl⟩
  refine go_iload_n C 1 rfl rfl dX8_clause_101 ?_
  refine go_bipush (v := 14) C rfl dX8_clause_102 ?_
  refine go_icmp_ne C 124 rfl dX8_clause_104 (fun hc => ?_) (fun hc => ?_)
  · replace hw := hw.1 hc
    refine go_iload_n C 1 rfl rfl dX8_clause_124 ?_
    refine go_bipush (v := 15) C rfl dX8_clause_125 ?_
    refine go_icmp_ne C 146 rfl dX8_clause_127 (fun hc => ?_) (fun hc => ?_)
    · replace hw := hw.1 hc
      refine go_aload_n C 0 rfl rfl dX8_clause_146 ?_
      refine go_iload_n C 1 rfl rfl dX8_clause_147 ?_
      refine go_callV (as := [.int v2]) C hR (shX8 G) (ltX8 hN) cwX8_107 (Nat.le_trans (by decide) hd) (by decide) rfl rfl (Nat.le_of_ble_eq_true rfl) dX8_clause_148 (spX8_window (Nat.le_refl _) hN hw) (fun v_ τ_ hw => ?_)
      obtain ⟨rfl, hw⟩ := hw
      obtain ⟨σ_5, rfl⟩ : ∃ z, z = τ_ := ⟨_, rfl⟩
      refine go_sub [0] rfl ?_
      exact (gbX8_clause_151 C hr hR hnl hd hN) _ hw
    · replace hw := hw.2 hc
      refine go_aload_n C 0 rfl rfl dX8_clause_130 ?_
      refine go_callV (as := []) C hR (shX8 G) (ltX8 hN) cwX8_104 (Nat.le_trans (by decide) hd) (by decide) rfl rfl (Nat.le_of_ble_eq_true rfl) dX8_clause_131 (spX8_either (Nat.le_refl _) hN hw) (fun v_ τ_ hw => ?_)
      obtain ⟨rfl, hw⟩ := hw
      obtain ⟨σ_7, rfl⟩ : ∃ z, z = τ_ := ⟨_, rfl⟩
      refine go_aload_n C 0 rfl rfl dX8_clause_134 ?_
      obtain ⟨k_8, gk_8, hk_8, hw⟩ := hw
      refine go_get (v := .ref (G.2.2.1 (30 + 2 * k_8))) C (shX8 G) (ltX8 hN) lkX8_31 (by show some (va_rf ((gR σ_7 42 9).map G.2.2.1)) = _; rw [gk_8]; rfl) dX8_clause_135 ?_
      refine go_bipush (v := 15) C rfl dX8_clause_138 ?_
      refine go_callV (as := [.int 15]) C hR (shX9 G hk_8) (ltX9 hN hk_8) cwX8_101 (Nat.le_trans (by decide) hd) (by decide) rfl rfl (Nat.le_of_ble_eq_true rfl) dX8_clause_140 (spX9_put (Nat.le_refl _) hN hk_8 hw) (fun v_ τ_ hw => ?_)
      obtain ⟨rfl, hw⟩ := hw
      obtain ⟨σ_10, rfl⟩ : ∃ z, z = τ_ := ⟨_, rfl⟩
      refine go_goto C 151 rfl dX8_clause_143 ?_
      refine go_sub [0] rfl ?_
      exact (gbX8_clause_151 C hr hR hnl hd hN) _ hw
  · replace hw := hw.2 hc
    refine go_aload_n C 0 rfl rfl dX8_clause_107 ?_
    refine go_iconst (v := 0) C rfl dX8_clause_108 ?_
    refine go_callV (as := [.int 0]) C hR (shX8 G) (ltX8 hN) cwX8_98 (Nat.le_trans (by decide) hd) (by decide) rfl rfl (Nat.le_of_ble_eq_true rfl) dX8_clause_109 (spX8_sum (dF := 53) (by decide) (srX8_around hN 12) (Nat.le_refl _) hN hw) (fun v_ τ_ hw => ?_)
    obtain ⟨rfl, hw⟩ := hw
    obtain ⟨σ_12, rfl⟩ : ∃ z, z = τ_ := ⟨_, rfl⟩
    refine go_aload_n C 0 rfl rfl dX8_clause_112 ?_
    obtain ⟨k_13, gk_13, hk_13, hw⟩ := hw
    refine go_get (v := .ref (G.2.2.1 (30 + 2 * k_13))) C (shX8 G) (ltX8 hN) lkX8_31 (by show some (va_rf ((gR σ_12 42 9).map G.2.2.1)) = _; rw [gk_13]; rfl) dX8_clause_113 ?_
    refine go_bipush (v := 14) C rfl dX8_clause_116 ?_
    refine go_callV (as := [.int 14]) C hR (shX9 G hk_13) (ltX9 hN hk_13) cwX8_101 (Nat.le_trans (by decide) hd) (by decide) rfl rfl (Nat.le_of_ble_eq_true rfl) dX8_clause_118 (spX9_put (Nat.le_refl _) hN hk_13 hw) (fun v_ τ_ hw => ?_)
    obtain ⟨rfl, hw⟩ := hw
    obtain ⟨σ_15, rfl⟩ : ∃ z, z = τ_ := ⟨_, rfl⟩
    refine go_goto C 151 rfl dX8_clause_121 ?_
    refine go_sub [0] rfl ?_
    exact (gbX8_clause_151 C hr hR hnl hd hN) _ hw
set_option maxRecDepth 20000 in
set_option maxHeartbeats 4000000 in
theorem gbX8_clause_35 {X : XT} {G : GT} {l : Launch} {d : Nat}  {post : St → Prop} (C : Cx X G cX8_clause RX8) (hr : Rt X G none (fun v τ => v = none ∧ post τ)) (hR : Rm X l d) (hnl : X.2.2.2.2.2.2.2.2.2.2.1 = 3)  (hd : 59 ≤ d) (hN : 75 ≤ G.2.2.2.2.2)  {K66 : Int32 → St → Prop} (hK66 : ∀ (v2 : Int32) (σ : St), K66 v2 σ → Go X G 66 [(0, .ref (G.2.2.1 42)), (2, .int v2)] [] σ)
    : ∀ (v1 : Int32) (v2 : Int32) (σ : St), wbX8_clause_35  K66 post v1 v2 σ → Go X G 35 [(0, .ref (G.2.2.1 42)), (1, .int v1), (2, .int v2)] [] σ := by
  intro v1 v2 σ hw
  have hw : ((¬ (((gI σ 42 10) >>> (v2 &&& 31)) &&& 1) = 1 →
    ((v1 < 12 →
      K66 v2 σ) ∧
    (¬ v1 < 12 →
      wpX8_fail 5 σ (fun σ_2 =>
      K66 v2 σ_2)))) ∧
  ((((gI σ 42 10) >>> (v2 &&& 31)) &&& 1) = 1 →
    wpX8_fail 4 σ (fun σ_4 =>
    K66 v2 σ_4))) := hw
  refine go_aload_n C 0 rfl rfl dX8_clause_35 ?_
  refine go_get (v := .int (gI σ 42 10)) C (shX8 G) (ltX8 hN) lkX8_43 rfl dX8_clause_36 ?_
  refine go_iload_n C 2 rfl rfl dX8_clause_39 ?_
  refine go_ishr C dX8_clause_40 ?_
  refine go_iconst (v := 1) C rfl dX8_clause_41 ?_
  refine go_iand C dX8_clause_42 ?_
  refine go_iconst (v := 1) C rfl dX8_clause_43 ?_
  refine go_icmp_ne C 55 rfl dX8_clause_44 (fun hc => ?_) (fun hc => ?_)
  · replace hw := hw.1 hc
    refine go_iload_n C 1 rfl rfl dX8_clause_55 ?_
    refine go_bipush (v := 12) C rfl dX8_clause_56 ?_
    refine go_icmp_lt C 66 rfl dX8_clause_58 (fun hc => ?_) (fun hc => ?_)
    · replace hw := hw.1 hc
      refine go_sub [0, 2] rfl ?_
      exact hK66 _ _ hw
    · replace hw := hw.2 hc
      refine go_aload_n C 0 rfl rfl dX8_clause_61 ?_
      refine go_iconst (v := 5) C rfl dX8_clause_62 ?_
      refine go_callV (as := [.int 5]) C hR (shX8 G) (ltX8 hN) cwX8_95 (Nat.le_trans (by decide) hd) (by decide) rfl rfl (Nat.le_of_ble_eq_true rfl) dX8_clause_63 (spX8_fail (Nat.le_refl _) hN hw) (fun v_ τ_ hw => ?_)
      obtain ⟨rfl, hw⟩ := hw
      obtain ⟨σ_2, rfl⟩ : ∃ z, z = τ_ := ⟨_, rfl⟩
      refine go_sub [0, 2] rfl ?_
      exact hK66 _ _ hw
  · replace hw := hw.2 hc
    refine go_aload_n C 0 rfl rfl dX8_clause_47 ?_
    refine go_iconst (v := 4) C rfl dX8_clause_48 ?_
    refine go_callV (as := [.int 4]) C hR (shX8 G) (ltX8 hN) cwX8_95 (Nat.le_trans (by decide) hd) (by decide) rfl rfl (Nat.le_of_ble_eq_true rfl) dX8_clause_49 (spX8_fail (Nat.le_refl _) hN hw) (fun v_ τ_ hw => ?_)
    obtain ⟨rfl, hw⟩ := hw
    obtain ⟨σ_4, rfl⟩ : ∃ z, z = τ_ := ⟨_, rfl⟩
    refine go_goto C 66 rfl dX8_clause_52 ?_
    refine go_sub [0, 2] rfl ?_
    exact hK66 _ _ hw
set_option maxRecDepth 20000 in
set_option maxHeartbeats 4000000 in
theorem gbX8_clause_66 {X : XT} {G : GT} {l : Launch} {d : Nat}  {post : St → Prop} (C : Cx X G cX8_clause RX8) (hr : Rt X G none (fun v τ => v = none ∧ post τ)) (hR : Rm X l d) (hnl : X.2.2.2.2.2.2.2.2.2.2.1 = 3)  (hd : 59 ≤ d) (hN : 75 ≤ G.2.2.2.2.2)   
    : ∀ (v2 : Int32) (σ : St), wbX8_clause_66   post v2 σ → Go X G 66 [(0, .ref (G.2.2.1 42)), (2, .int v2)] [] σ := by
  intro v2 σ hw
  have hw : ((v2 = 15 →
    wbX8_clause_93 post v2 0 (gI σ 42 10) σ) ∧
  (¬ v2 = 15 →
    ((¬ (gI σ 42 8) = 39 →
      wbX8_clause_93 post v2 (1 <<< (v2 &&& 31)) (gI σ 42 10) σ) ∧
    ((gI σ 42 8) = 39 →
      wbX8_clause_93 post v2 0 (gI σ 42 10) σ)))) := hw
  refine go_aload_n C 0 rfl rfl dX8_clause_66 ?_
  refine go_dup C rfl dX8_clause_67 ?_
  refine go_get (v := .int (gI σ 42 10)) C (shX8 G) (ltX8 hN) lkX8_43 rfl dX8_clause_68 ?_
  refine go_iload_n C 1 rfl rfl dX8_clause_71 ?_
  refine go_bipush (v := 15) C rfl dX8_clause_72 ?_
  refine go_icmp_eq C 86 rfl dX8_clause_74 (fun hc => ?_) (fun hc => ?_)
  · replace hw := hw.1 hc
    refine go_iconst (v := 0) C rfl dX8_clause_86 ?_
    refine go_goto C 93 rfl dX8_clause_87 ?_
    exact (gbX8_clause_93 C hr hR hnl hd hN) _ _ _ _ hw
  · replace hw := hw.2 hc
    refine go_aload_n C 0 rfl rfl dX8_clause_77 ?_
    refine go_get (v := .int (gI σ 42 8)) C (shX8 G) (ltX8 hN) lkX8_52 rfl dX8_clause_78 ?_
    refine go_bipush (v := 39) C rfl dX8_clause_81 ?_
    refine go_icmp_ne C 90 rfl dX8_clause_83 (fun hc => ?_) (fun hc => ?_)
    · replace hw := hw.1 hc
      refine go_iconst (v := 1) C rfl dX8_clause_90 ?_
      refine go_iload_n C 1 rfl rfl dX8_clause_91 ?_
      refine go_ishl C dX8_clause_92 ?_
      exact (gbX8_clause_93 C hr hR hnl hd hN) _ _ _ _ hw
    · replace hw := hw.2 hc
      refine go_iconst (v := 0) C rfl dX8_clause_86 ?_
      refine go_goto C 93 rfl dX8_clause_87 ?_
      exact (gbX8_clause_93 C hr hR hnl hd hN) _ _ _ _ hw
set_option maxRecDepth 20000 in
set_option maxHeartbeats 4000000 in
theorem spX8_clause {l : Launch} {G : GT} {d : Nat}  (hd : 59 ≤ d)  (hN : 75 ≤ G.2.2.2.2.2)  {a1 : Int32} {σ : St} {post : St → Prop} (hw : wpX8_clause  a1 σ post) : Sp l G d yX8_clause cX8_clause 3 none [.ref (G.2.2.1 42), .int a1] σ (fun v τ => v = none ∧ post τ) := by
  refine Sp.of (by decide) (Nat.le_of_ble_eq_true rfl) fun X C hr hR hnl => ?_
  show Go X G 0 [(0, .ref (G.2.2.1 42)), (1, .int a1)] [] σ
  have hw : ∀ v2_1 : Int32, v2_1 = (gI σ 42 8) →
  ((v2_1 = 14 →
    wbX8_clause_35 (wbX8_clause_66 post) post a1 v2_1 σ) ∧
  (¬ v2_1 = 14 →
    ((v2_1 = 15 →
      wbX8_clause_35 (wbX8_clause_66 post) post a1 v2_1 σ) ∧
    (¬ v2_1 = 15 →
      ((v2_1 = 0 →
        wbX8_clause_35 (wbX8_clause_66 post) post a1 v2_1 σ) ∧
      (¬ v2_1 = 0 →
        ((v2_1 = 16 →
          wbX8_clause_35 (wbX8_clause_66 post) post a1 v2_1 σ) ∧
        (¬ v2_1 = 16 →
          wpX8_fail 1 σ (fun σ_3 =>
          wbX8_clause_66 post v2_1 σ_3))))))))) := hw
  refine go_aload_n C 0 rfl rfl dX8_clause_0 ?_
  refine go_get (v := .int (gI σ 42 8)) C (shX8 G) (ltX8 hN) lkX8_52 rfl dX8_clause_1 ?_
  refine go_topi (fun v2_1 ev2_1 => ?_)
  replace hw := hw v2_1 ev2_1
  refine go_istore_n (lv2 := [(2, .int v2_1), (0, .ref (G.2.2.1 42)), (1, .int a1)]) C rfl (by rw [hnl]; decide) rfl dX8_clause_4 ?_
  refine go_iload_n C 0 rfl rfl dX8_clause_5 ?_
  refine go_bipush (v := 14) C rfl dX8_clause_6 ?_
  refine go_icmp_eq C 35 rfl dX8_clause_8 (fun hc => ?_) (fun hc => ?_)
  · replace hw := hw.1 hc
    refine go_sub [1, 2, 0] rfl ?_
    exact (gbX8_clause_35 C hr hR hnl hd hN (gbX8_clause_66 C hr hR hnl hd hN)) _ _ _ hw
  · replace hw := hw.2 hc
    refine go_iload_n C 0 rfl rfl dX8_clause_11 ?_
    refine go_bipush (v := 15) C rfl dX8_clause_12 ?_
    refine go_icmp_eq C 35 rfl dX8_clause_14 (fun hc => ?_) (fun hc => ?_)
    · replace hw := hw.1 hc
      refine go_sub [1, 2, 0] rfl ?_
      exact (gbX8_clause_35 C hr hR hnl hd hN (gbX8_clause_66 C hr hR hnl hd hN)) _ _ _ hw
    · replace hw := hw.2 hc
      refine go_iload_n C 0 rfl rfl dX8_clause_17 ?_
      refine go_if_eq C 35 rfl dX8_clause_18 (fun hc => ?_) (fun hc => ?_)
      · replace hw := hw.1 hc
        refine go_sub [1, 2, 0] rfl ?_
        exact (gbX8_clause_35 C hr hR hnl hd hN (gbX8_clause_66 C hr hR hnl hd hN)) _ _ _ hw
      · replace hw := hw.2 hc
        refine go_iload_n C 0 rfl rfl dX8_clause_21 ?_
        refine go_bipush (v := 16) C rfl dX8_clause_22 ?_
        refine go_icmp_eq C 35 rfl dX8_clause_24 (fun hc => ?_) (fun hc => ?_)
        · replace hw := hw.1 hc
          refine go_sub [1, 2, 0] rfl ?_
          exact (gbX8_clause_35 C hr hR hnl hd hN (gbX8_clause_66 C hr hR hnl hd hN)) _ _ _ hw
        · replace hw := hw.2 hc
          refine go_aload_n C 1 rfl rfl dX8_clause_27 ?_
          refine go_iconst (v := 1) C rfl dX8_clause_28 ?_
          refine go_callV (as := [.int 1]) C hR (shX8 G) (ltX8 hN) cwX8_95 (Nat.le_trans (by decide) hd) (by decide) rfl rfl (Nat.le_of_ble_eq_true rfl) dX8_clause_29 (spX8_fail (Nat.le_refl _) hN hw) (fun v_ τ_ hw => ?_)
          obtain ⟨rfl, hw⟩ := hw
          obtain ⟨σ_3, rfl⟩ : ∃ z, z = τ_ := ⟨_, rfl⟩
          refine go_goto C 66 rfl dX8_clause_32 ?_
          refine go_sub [1, 0] rfl ?_
          exact (gbX8_clause_66 C hr hR hnl hd hN) _ _ hw
-- CradleNames$Taste.clear()V
set_option maxRecDepth 20000 in
set_option maxHeartbeats 4000000 in
theorem spX9_clear {l : Launch} {G : GT} {d : Nat}  (hd : 1 ≤ d) {k0 : Nat} (hN : 75 ≤ G.2.2.2.2.2) (hk0 : k0 < 6)  {σ : St} {post : St → Prop} (hw : wpX9_clear k0  σ post) : Sp l G d yX9_clear cX9_clear 1 none [.ref (G.2.2.1 (30 + 2 * k0))] σ (fun v τ => v = none ∧ post τ) := by
  refine Sp.of (by decide) (Nat.le_of_ble_eq_true rfl) fun X C hr hR hnl => ?_
  show Go X G 0 [(0, .ref (G.2.2.1 (30 + 2 * k0)))] [] σ
  have hw : ∀ σ_1 : St, σ_1 = sI σ (30 + 2 * k0) 1 0 →
  ∀ σ_2 : St, σ_2 = sI σ_1 (30 + 2 * k0) 2 5 →
  ∀ σ_3 : St, σ_3 = sI σ_2 (30 + 2 * k0) 3 50 →
  post σ_3 := hw
  refine go_aload_n C 0 rfl rfl dX9_clear_0 ?_
  refine go_iconst (v := 0) C rfl dX9_clear_1 ?_
  refine go_puti C (shX9 G hk0) (ltX9 hN hk0) lpX9_15 (show 1 < 4 by decide) (pxX9_1 G _ _ _) dX9_clear_2 (go_nm fun σ_1 eσ_1 => ?_)
  replace hw := hw σ_1 eσ_1
  refine go_aload_n C 0 rfl rfl dX9_clear_5 ?_
  refine go_iconst (v := 5) C rfl dX9_clear_6 ?_
  refine go_puti C (shX9 G hk0) (ltX9 hN hk0) lpX9_19 (show 2 < 4 by decide) (pxX9_2 G _ _ _) dX9_clear_7 (go_nm fun σ_2 eσ_2 => ?_)
  replace hw := hw σ_2 eσ_2
  refine go_aload_n C 0 rfl rfl dX9_clear_10 ?_
  refine go_bipush (v := 50) C rfl dX9_clear_11 ?_
  refine go_puti C (shX9 G hk0) (ltX9 hN hk0) lpX9_22 (show 3 < 4 by decide) (pxX9_3 G _ _ _) dX9_clear_13 (go_nm fun σ_3 eσ_3 => ?_)
  replace hw := hw σ_3 eσ_3
  exact go_vret C hr ⟨rfl, hw⟩ dX9_clear_16
-- CradleNames$Reader.wordOf(II)I
set_option maxRecDepth 20000 in
set_option maxHeartbeats 4000000 in
theorem gbX8_wordOf_52 {X : XT} {G : GT} {l : Launch} {d : Nat}  {post : Int32 → St → Prop} (C : Cx X G cX8_wordOf RX8) (hr : Rt X G (some .int) (fun v τ => ∃ r : Int32, v = some (.int r) ∧ post r τ)) (hR : Rm X l d) (hnl : X.2.2.2.2.2.2.2.2.2.2.1 = 7)  (hd : 5 ≤ d) (hN : 75 ≤ G.2.2.2.2.2)  {K24 : Int32 → Int32 → Int32 → Int32 → Int32 → St → Prop} (hK24 : ∀ (v1 : Int32) (v2 : Int32) (v3 : Int32) (v4 : Int32) (v5 : Int32) (σ : St), K24 v1 v2 v3 v4 v5 σ → Go X G 24 [(0, .ref (G.2.2.1 42)), (1, .int v1), (2, .int v2), (3, .int v3), (4, .int v4), (5, .int v5)] [] σ)
    : ∀ (v1 : Int32) (v2 : Int32) (v3 : Int32) (v4 : Int32) (v5 : Int32) (s0 : Int32) (σ : St), wbX8_wordOf_52  K24 post v1 v2 v3 v4 v5 s0 σ → Go X G 52 [(0, .ref (G.2.2.1 42)), (1, .int v1), (2, .int v2), (3, .int v3), (4, .int v4), (5, .int v5)] [.int s0] σ := by
  intro v1 v2 v3 v4 v5 s0 σ hw
  have hw : wpJ0_charAt_5068e 2 ((v3 * 5) + v5) σ (fun r_1 σ_2 =>
  ((¬ r_1 = s0 →
    ∀ v4_3 : Int32, v4_3 = (v4 + 0) →
    ∀ v5_4 : Int32, v5_4 = v5 + 1 →
    K24 v1 v2 v3 v4_3 v5_4 σ_2) ∧
  (r_1 = s0 →
    ∀ v4_5 : Int32, v4_5 = (v4 + 1) →
    ∀ v5_6 : Int32, v5_6 = v5 + 1 →
    K24 v1 v2 v3 v4_5 v5_6 σ_2))) := hw
  refine go_istore (lv2 := [(6, .int s0), (0, .ref (G.2.2.1 42)), (1, .int v1), (2, .int v2), (3, .int v3), (4, .int v4), (5, .int v5)]) C (by rw [hnl]; decide) rfl dX8_wordOf_52 ?_
  refine go_iload C 5 rfl dX8_wordOf_54 ?_
  refine go_lds2 C dX8_wordOf_56 ?_
  refine go_iload_n C 4 rfl rfl dX8_wordOf_58 ?_
  refine go_iconst (v := 5) C rfl dX8_wordOf_59 ?_
  refine go_imul C dX8_wordOf_60 ?_
  refine go_iload C 6 rfl dX8_wordOf_61 ?_
  refine go_iadd C dX8_wordOf_63 ?_
  refine go_callT (as := [.int ((v3 * 5) + v5)]) C hR (show 2 < 4 by decide) cwX8_88 (Nat.le_trans (by decide) hd) (by decide) rfl rfl (Nat.le_of_ble_eq_true rfl) dX8_wordOf_64 (spJ0_charAt_5068e (Nat.le_refl _) (show 2 < 4 by decide) hw) (fun v_ τ_ hw => ?_)
  obtain ⟨r_1, rfl, hw⟩ := hw
  obtain ⟨σ_2, rfl⟩ : ∃ z, z = τ_ := ⟨_, rfl⟩
  refine go_iload C 0 rfl dX8_wordOf_67 ?_
  refine go_icmp_ne C 76 rfl dX8_wordOf_69 (fun hc => ?_) (fun hc => ?_)
  · replace hw := hw.1 hc
    refine go_iconst (v := 0) C rfl dX8_wordOf_76 ?_
    refine go_iadd C dX8_wordOf_77 ?_
    refine go_topi (fun v4_3 ev4_3 => ?_)
    replace hw := hw v4_3 ev4_3
    refine go_istore (lv2 := [(4, .int v4_3), (6, .int s0), (0, .ref (G.2.2.1 42)), (1, .int v1), (2, .int v2), (3, .int v3), (5, .int v5)]) C (by rw [hnl]; decide) rfl dX8_wordOf_78 ?_
    obtain ⟨v5_4, ev5_4⟩ : ∃ z : Int32, z = v5 + 1 := ⟨_, rfl⟩
    replace hw := hw v5_4 ev5_4
    refine go_iinc (v := v5_4) (lv2 := [(5, .int v5_4), (4, .int v4_3), (6, .int s0), (0, .ref (G.2.2.1 42)), (1, .int v1), (2, .int v2), (3, .int v3)]) C 6 rfl (by rw [ev5_4]; rfl) (by rw [hnl]; decide) rfl dX8_wordOf_80 ?_
    refine go_goto C 24 rfl dX8_wordOf_83 ?_
    refine go_sub [3, 4, 5, 6, 1, 0] rfl ?_
    exact hK24 _ _ _ _ _ _ hw
  · replace hw := hw.2 hc
    refine go_iconst (v := 1) C rfl dX8_wordOf_72 ?_
    refine go_goto C 77 rfl dX8_wordOf_73 ?_
    refine go_iadd C dX8_wordOf_77 ?_
    refine go_topi (fun v4_5 ev4_5 => ?_)
    replace hw := hw v4_5 ev4_5
    refine go_istore (lv2 := [(4, .int v4_5), (6, .int s0), (0, .ref (G.2.2.1 42)), (1, .int v1), (2, .int v2), (3, .int v3), (5, .int v5)]) C (by rw [hnl]; decide) rfl dX8_wordOf_78 ?_
    obtain ⟨v5_6, ev5_6⟩ : ∃ z : Int32, z = v5 + 1 := ⟨_, rfl⟩
    replace hw := hw v5_6 ev5_6
    refine go_iinc (v := v5_6) (lv2 := [(5, .int v5_6), (4, .int v4_5), (6, .int s0), (0, .ref (G.2.2.1 42)), (1, .int v1), (2, .int v2), (3, .int v3)]) C 6 rfl (by rw [ev5_6]; rfl) (by rw [hnl]; decide) rfl dX8_wordOf_80 ?_
    refine go_goto C 24 rfl dX8_wordOf_83 ?_
    refine go_sub [3, 4, 5, 6, 1, 0] rfl ?_
    exact hK24 _ _ _ _ _ _ hw
set_option maxRecDepth 20000 in
set_option maxHeartbeats 4000000 in
theorem gbX8_wordOf_24 {X : XT} {G : GT} {l : Launch} {d : Nat}  {post : Int32 → St → Prop} (C : Cx X G cX8_wordOf RX8) (hr : Rt X G (some .int) (fun v τ => ∃ r : Int32, v = some (.int r) ∧ post r τ)) (hR : Rm X l d) (hnl : X.2.2.2.2.2.2.2.2.2.2.1 = 7)  (hd : 5 ≤ d) (hN : 75 ≤ G.2.2.2.2.2)  {K12 : Int32 → Int32 → Int32 → St → Prop} (hK12 : ∀ (v1 : Int32) (v2 : Int32) (v3 : Int32) (σ : St), K12 v1 v2 v3 σ → Go X G 12 [(0, .ref (G.2.2.1 42)), (1, .int v1), (2, .int v2), (3, .int v3)] [] σ)
    : ∀ (n : Nat) (v1 : Int32) (v2 : Int32) (v3 : Int32) (v4 : Int32) (v5 : Int32) (σ : St), wbX8_wordOf_24  K12 post n v1 v2 v3 v4 v5 σ → Go X G 24 [(0, .ref (G.2.2.1 42)), (1, .int v1), (2, .int v2), (3, .int v3), (4, .int v4), (5, .int v5)] [] σ := by
  intro n
  induction n with
  | zero => intro v1 v2 v3 v4 v5 σ hw; exact hw.elim
  | succ n ih =>
    intro v1 v2 v3 v4 v5 σ hw
    have hw : ((5 ≤ v5 →
      ((¬ v4 = 5 →
        ∀ v3_1 : Int32, v3_1 = v3 + 1 →
        K12 v1 v2 v3_1 σ) ∧
      (v4 = 5 →
        post v3 σ))) ∧
    (¬ 5 ≤ v5 →
      ((v2 ≤ (v1 + v5) →
        wbX8_wordOf_52 (wbX8_wordOf_24 K12 post n) post v1 v2 v3 v4 v5 32 σ) ∧
      (¬ v2 ≤ (v1 + v5) →
        vp_in (v1 + v5) 300 ∧ (
        wbX8_wordOf_52 (wbX8_wordOf_24 K12 post n) post v1 v2 v3 v4 v5 (gI σ 43 (v1 + v5).toNatClampNeg) σ))))) := hw
    refine go_iload C 5 rfl dX8_wordOf_24 ?_
    refine go_iconst (v := 5) C rfl dX8_wordOf_26 ?_
    refine go_icmp_ge C 86 rfl dX8_wordOf_27 (fun hc => ?_) (fun hc => ?_)
    · replace hw := hw.1 hc
      refine go_iload C 4 rfl dX8_wordOf_86 ?_
      refine go_iconst (v := 5) C rfl dX8_wordOf_88 ?_
      refine go_icmp_ne C 94 rfl dX8_wordOf_89 (fun hc => ?_) (fun hc => ?_)
      · replace hw := hw.1 hc
        obtain ⟨v3_1, ev3_1⟩ : ∃ z : Int32, z = v3 + 1 := ⟨_, rfl⟩
        replace hw := hw v3_1 ev3_1
        refine go_iinc (v := v3_1) (lv2 := [(3, .int v3_1), (0, .ref (G.2.2.1 42)), (1, .int v1), (2, .int v2), (4, .int v4), (5, .int v5)]) C 3 rfl (by rw [ev3_1]; rfl) (by rw [hnl]; decide) rfl dX8_wordOf_94 ?_
        refine go_goto C 12 rfl dX8_wordOf_97 ?_
        refine go_sub [1, 2, 3, 0] rfl ?_
        exact hK12 _ _ _ _ hw
      · replace hw := hw.2 hc
        refine go_iload_n C 3 rfl rfl dX8_wordOf_92 ?_
        exact go_iret C hr ⟨_, rfl, hw⟩ dX8_wordOf_93
    · replace hw := hw.2 hc
      refine go_iload_n C 1 rfl rfl dX8_wordOf_30 ?_
      refine go_iload C 5 rfl dX8_wordOf_31 ?_
      refine go_iadd C dX8_wordOf_33 ?_
      refine go_iload_n C 2 rfl rfl dX8_wordOf_34 ?_
      refine go_icmp_ge C 50 rfl dX8_wordOf_35 (fun hc => ?_) (fun hc => ?_)
      · replace hw := hw.1 hc
        refine go_bipush (v := 32) C rfl dX8_wordOf_50 ?_
        exact (gbX8_wordOf_52 C hr hR hnl hd hN ih) _ _ _ _ _ _ _ hw
      · replace hw := hw.2 hc
        refine go_aload_n C 0 rfl rfl dX8_wordOf_38 ?_
        refine go_get (v := .ref (G.2.2.1 43)) C (shX8 G) (ltX8 hN) lkX8_11 rfl dX8_wordOf_39 ?_
        refine go_iload_n C 1 rfl rfl dX8_wordOf_42 ?_
        refine go_iload C 5 rfl dX8_wordOf_43 ?_
        refine go_iadd C dX8_wordOf_45 ?_
        refine go_iald C (saX8_bytes G) (laX8_bytes hN) hw.1 dX8_wordOf_46 ?_
        replace hw := hw.2
        refine go_goto C 52 rfl dX8_wordOf_47 ?_
        exact (gbX8_wordOf_52 C hr hR hnl hd hN ih) _ _ _ _ _ _ _ hw
set_option maxRecDepth 20000 in
set_option maxHeartbeats 4000000 in
theorem gbX8_wordOf_12 {X : XT} {G : GT} {l : Launch} {d : Nat}  {post : Int32 → St → Prop} (C : Cx X G cX8_wordOf RX8) (hr : Rt X G (some .int) (fun v τ => ∃ r : Int32, v = some (.int r) ∧ post r τ)) (hR : Rm X l d) (hnl : X.2.2.2.2.2.2.2.2.2.2.1 = 7)  (hd : 5 ≤ d) (hN : 75 ≤ G.2.2.2.2.2)   
    : ∀ (n : Nat) (v1 : Int32) (v2 : Int32) (v3 : Int32) (σ : St), wbX8_wordOf_12   post n v1 v2 v3 σ → Go X G 12 [(0, .ref (G.2.2.1 42)), (1, .int v1), (2, .int v2), (3, .int v3)] [] σ := by
  intro n
  induction n with
  | zero => intro v1 v2 v3 σ hw; exact hw.elim
  | succ n ih =>
    intro v1 v2 v3 σ hw
    have hw : ((22 ≤ v3 →
      post 38 σ) ∧
    (¬ 22 ≤ v3 →
      ∃ m_24, wbX8_wordOf_24 (wbX8_wordOf_12 post n) post m_24 v1 v2 v3 0 0 σ)) := hw
    refine go_iload_n C 3 rfl rfl dX8_wordOf_12 ?_
    refine go_bipush (v := 22) C rfl dX8_wordOf_13 ?_
    refine go_icmp_ge C 100 rfl dX8_wordOf_15 (fun hc => ?_) (fun hc => ?_)
    · replace hw := hw.1 hc
      refine go_bipush (v := 38) C rfl dX8_wordOf_100 ?_
      exact go_iret C hr ⟨_, rfl, hw⟩ dX8_wordOf_102
    · replace hw := hw.2 hc
      refine go_iconst (v := 0) C rfl dX8_wordOf_18 ?_
      refine go_istore (lv2 := [(4, .int 0), (0, .ref (G.2.2.1 42)), (1, .int v1), (2, .int v2), (3, .int v3)]) C (by rw [hnl]; decide) rfl dX8_wordOf_19 ?_
      refine go_iconst (v := 0) C rfl dX8_wordOf_21 ?_
      refine go_istore (lv2 := [(5, .int 0), (4, .int 0), (0, .ref (G.2.2.1 42)), (1, .int v1), (2, .int v2), (3, .int v3)]) C (by rw [hnl]; decide) rfl dX8_wordOf_22 ?_
      refine go_sub [2, 3, 4, 5, 1, 0] rfl ?_
      obtain ⟨n_0, hw⟩ := hw
      exact (gbX8_wordOf_24 C hr hR hnl hd hN ih) n_0 _ _ _ _ _ _ hw
set_option maxRecDepth 20000 in
set_option maxHeartbeats 4000000 in
theorem spX8_wordOf {l : Launch} {G : GT} {d : Nat}  (hd : 5 ≤ d)  (hN : 75 ≤ G.2.2.2.2.2)  {a1 : Int32} {a2 : Int32} {σ : St} {post : Int32 → St → Prop} (hw : wpX8_wordOf  a1 a2 σ post) : Sp l G d yX8_wordOf cX8_wordOf 7 (some .int) [.ref (G.2.2.1 42), .int a1, .int a2] σ (fun v τ => ∃ r : Int32, v = some (.int r) ∧ post r τ) := by
  refine Sp.of (by decide) (Nat.le_of_ble_eq_true rfl) fun X C hr hR hnl => ?_
  show Go X G 0 [(0, .ref (G.2.2.1 42)), (1, .int a1), (2, .int a2)] [] σ
  have hw : (((a2 - a1) ≤ 5 →
    ∃ m_12, wbX8_wordOf_12 post m_12 a1 a2 0 σ) ∧
  (¬ (a2 - a1) ≤ 5 →
    post 38 σ)) := hw
  refine go_iload_n C 2 rfl rfl dX8_wordOf_0 ?_
  refine go_iload_n C 1 rfl rfl dX8_wordOf_1 ?_
  refine go_isub C dX8_wordOf_2 ?_
  refine go_iconst (v := 5) C rfl dX8_wordOf_3 ?_
  refine go_icmp_le C 10 rfl dX8_wordOf_4 (fun hc => ?_) (fun hc => ?_)
  · replace hw := hw.1 hc
    refine go_iconst (v := 0) C rfl dX8_wordOf_10 ?_
    refine go_istore_n (lv2 := [(3, .int 0), (0, .ref (G.2.2.1 42)), (1, .int a1), (2, .int a2)]) C rfl (by rw [hnl]; decide) rfl dX8_wordOf_11 ?_
    refine go_sub [1, 2, 3, 0] rfl ?_
    obtain ⟨n_0, hw⟩ := hw
    exact (gbX8_wordOf_12 C hr hR hnl hd hN) n_0 _ _ _ _ hw
  · replace hw := hw.2 hc
    refine go_bipush (v := 38) C rfl dX8_wordOf_7 ?_
    exact go_iret C hr ⟨_, rfl, hw⟩ dX8_wordOf_9
-- CradleNames$Reader.isLetter(I)Z
set_option maxRecDepth 20000 in
set_option maxHeartbeats 4000000 in
theorem gbX8_isLetter_12 {X : XT} {G : GT} {l : Launch} {d : Nat}  {post : Int32 → St → Prop} (C : Cx X G cX8_isLetter RX8) (hr : Rt X G (some .boolean) (fun v τ => ∃ r : Int32, v = some (.int r) ∧ post r τ)) (hR : Rm X l d) (hnl : X.2.2.2.2.2.2.2.2.2.2.1 = 1)  (hd : 1 ≤ d) (hN : 75 ≤ G.2.2.2.2.2)   
    : ∀ (v0 : Int32) (σ : St), wbX8_isLetter_12   post v0 σ → Go X G 12 [(0, .int v0)] [] σ := by
  intro v0 σ hw
  have hw : ((v0 < 65 →
    post 0 σ) ∧
  (¬ v0 < 65 →
    ((90 < v0 →
      post 0 σ) ∧
    (¬ 90 < v0 →
      post 1 σ)))) := hw
  refine go_iload_n C 0 rfl rfl dX8_isLetter_12 ?_
  refine go_bipush (v := 65) C rfl dX8_isLetter_13 ?_
  refine go_icmp_lt C 28 rfl dX8_isLetter_15 (fun hc => ?_) (fun hc => ?_)
  · replace hw := hw.1 hc
    refine go_iconst (v := 0) C rfl dX8_isLetter_28 ?_
    exact go_zret C hr rfl ⟨_, rfl, hw⟩ dX8_isLetter_29
  · replace hw := hw.2 hc
    refine go_iload_n C 0 rfl rfl dX8_isLetter_18 ?_
    refine go_bipush (v := 90) C rfl dX8_isLetter_19 ?_
    refine go_icmp_gt C 28 rfl dX8_isLetter_21 (fun hc => ?_) (fun hc => ?_)
    · replace hw := hw.1 hc
      refine go_iconst (v := 0) C rfl dX8_isLetter_28 ?_
      exact go_zret C hr rfl ⟨_, rfl, hw⟩ dX8_isLetter_29
    · replace hw := hw.2 hc
      refine go_iconst (v := 1) C rfl dX8_isLetter_24 ?_
      refine go_goto C 29 rfl dX8_isLetter_25 ?_
      exact go_zret C hr rfl ⟨_, rfl, hw⟩ dX8_isLetter_29
set_option maxRecDepth 20000 in
set_option maxHeartbeats 4000000 in
theorem spX8_isLetter {l : Launch} {G : GT} {d : Nat}  (hd : 1 ≤ d)  (hN : 75 ≤ G.2.2.2.2.2)  {a1 : Int32} {σ : St} {post : Int32 → St → Prop} (hw : wpX8_isLetter  a1 σ post) : Sp l G d yX8_isLetter cX8_isLetter 1 (some .boolean) [.int a1] σ (fun v τ => ∃ r : Int32, v = some (.int r) ∧ post r τ) := by
  refine Sp.of (by decide) (Nat.le_of_ble_eq_true rfl) fun X C hr hR hnl => ?_
  show Go X G 0 [(0, .int a1)] [] σ
  have hw : ((a1 < 97 →
    wbX8_isLetter_12 post a1 σ) ∧
  (¬ a1 < 97 →
    ((a1 ≤ 122 →
      post 1 σ) ∧
    (¬ a1 ≤ 122 →
      wbX8_isLetter_12 post a1 σ)))) := hw
  refine go_iload_n C 0 rfl rfl dX8_isLetter_0 ?_
  refine go_bipush (v := 97) C rfl dX8_isLetter_1 ?_
  refine go_icmp_lt C 12 rfl dX8_isLetter_3 (fun hc => ?_) (fun hc => ?_)
  · replace hw := hw.1 hc
    exact (gbX8_isLetter_12 C hr hR hnl hd hN) _ _ hw
  · replace hw := hw.2 hc
    refine go_iload_n C 0 rfl rfl dX8_isLetter_6 ?_
    refine go_bipush (v := 122) C rfl dX8_isLetter_7 ?_
    refine go_icmp_le C 24 rfl dX8_isLetter_9 (fun hc => ?_) (fun hc => ?_)
    · replace hw := hw.1 hc
      refine go_iconst (v := 1) C rfl dX8_isLetter_24 ?_
      refine go_goto C 29 rfl dX8_isLetter_25 ?_
      exact go_zret C hr rfl ⟨_, rfl, hw⟩ dX8_isLetter_29
    · replace hw := hw.2 hc
      exact (gbX8_isLetter_12 C hr hR hnl hd hN) _ _ hw
-- CradleNames$Reader.isDigit(I)Z
set_option maxRecDepth 20000 in
set_option maxHeartbeats 4000000 in
theorem spX8_isDigit {l : Launch} {G : GT} {d : Nat}  (hd : 1 ≤ d)  (hN : 75 ≤ G.2.2.2.2.2)  {a1 : Int32} {σ : St} {post : Int32 → St → Prop} (hw : wpX8_isDigit  a1 σ post) : Sp l G d yX8_isDigit cX8_isDigit 1 (some .boolean) [.int a1] σ (fun v τ => ∃ r : Int32, v = some (.int r) ∧ post r τ) := by
  refine Sp.of (by decide) (Nat.le_of_ble_eq_true rfl) fun X C hr hR hnl => ?_
  show Go X G 0 [(0, .int a1)] [] σ
  have hw : ((a1 < 48 →
    post 0 σ) ∧
  (¬ a1 < 48 →
    ((57 < a1 →
      post 0 σ) ∧
    (¬ 57 < a1 →
      post 1 σ)))) := hw
  refine go_iload_n C 0 rfl rfl dX8_isDigit_0 ?_
  refine go_bipush (v := 48) C rfl dX8_isDigit_1 ?_
  refine go_icmp_lt C 16 rfl dX8_isDigit_3 (fun hc => ?_) (fun hc => ?_)
  · replace hw := hw.1 hc
    refine go_iconst (v := 0) C rfl dX8_isDigit_16 ?_
    exact go_zret C hr rfl ⟨_, rfl, hw⟩ dX8_isDigit_17
  · replace hw := hw.2 hc
    refine go_iload_n C 0 rfl rfl dX8_isDigit_6 ?_
    refine go_bipush (v := 57) C rfl dX8_isDigit_7 ?_
    refine go_icmp_gt C 16 rfl dX8_isDigit_9 (fun hc => ?_) (fun hc => ?_)
    · replace hw := hw.1 hc
      refine go_iconst (v := 0) C rfl dX8_isDigit_16 ?_
      exact go_zret C hr rfl ⟨_, rfl, hw⟩ dX8_isDigit_17
    · replace hw := hw.2 hc
      refine go_iconst (v := 1) C rfl dX8_isDigit_12 ?_
      refine go_goto C 17 rfl dX8_isDigit_13 ?_
      exact go_zret C hr rfl ⟨_, rfl, hw⟩ dX8_isDigit_17
-- CradleNames$Reader.cutOne(II)I
set_option maxRecDepth 20000 in
set_option maxHeartbeats 4000000 in
theorem gbX8_cutOne_215 {X : XT} {G : GT} {l : Launch} {d : Nat}  {post : Int32 → St → Prop} (C : Cx X G cX8_cutOne RX8) (hr : Rt X G (some .int) (fun v τ => ∃ r : Int32, v = some (.int r) ∧ post r τ)) (hR : Rm X l d) (hnl : X.2.2.2.2.2.2.2.2.2.2.1 = 6)  (hd : 6 ≤ d) (hN : 75 ≤ G.2.2.2.2.2)   
    : ∀ (v4 : Int32) (v5 : Int32) (s0 : Int32) (s1 : Int32) (s2 : Int32) (σ : St), wbX8_cutOne_215   post v4 v5 s0 s1 s2 σ → Go X G 215 [(4, .int v4), (5, .int v5)] [.int s0, .int s1, .int s2, .ref (G.2.2.1 44)] σ := by
  intro v4 v5 s0 s1 s2 σ hw
  have hw : vp_in s2 301 ∧ (
  ∀ σ_1 : St, σ_1 = sI σ 44 s2.toNatClampNeg (s1 + s0) →
  ((v5 = 0 →
    ∀ v4_2 : Int32, v4_2 = (v4 + 0) →
    post v4_2 σ_1) ∧
  (¬ v5 = 0 →
    ∀ v4_3 : Int32, v4_3 = (v4 + 1) →
    post v4_3 σ_1))) := hw
  refine go_iadd C dX8_cutOne_215 ?_
  refine go_iast C (saX8_kinds G) (laX8_kinds hN) hw.1 dX8_cutOne_216 (go_nm fun σ_1 eσ_1 => ?_)
  replace hw := hw.2 σ_1 eσ_1
  refine go_iload C 0 rfl dX8_cutOne_217 ?_
  refine go_iload C 1 rfl dX8_cutOne_219 ?_
  refine go_if_eq C 228 rfl dX8_cutOne_221 (fun hc => ?_) (fun hc => ?_)
  · replace hw := hw.1 hc
    refine go_iconst (v := 0) C rfl dX8_cutOne_228 ?_
    refine go_iadd C dX8_cutOne_229 ?_
    refine go_topi (fun v4_2 ev4_2 => ?_)
    replace hw := hw v4_2 ev4_2
    refine go_istore (lv2 := [(4, .int v4_2), (5, .int v5)]) C (by rw [hnl]; decide) rfl dX8_cutOne_230 ?_
    refine go_goto C 265 rfl dX8_cutOne_232 ?_
    refine go_iload C 0 rfl dX8_cutOne_265 ?_
    exact go_iret C hr ⟨_, rfl, hw⟩ dX8_cutOne_267
  · replace hw := hw.2 hc
    refine go_iconst (v := 1) C rfl dX8_cutOne_224 ?_
    refine go_goto C 229 rfl dX8_cutOne_225 ?_
    refine go_iadd C dX8_cutOne_229 ?_
    refine go_topi (fun v4_3 ev4_3 => ?_)
    replace hw := hw v4_3 ev4_3
    refine go_istore (lv2 := [(4, .int v4_3), (5, .int v5)]) C (by rw [hnl]; decide) rfl dX8_cutOne_230 ?_
    refine go_goto C 265 rfl dX8_cutOne_232 ?_
    refine go_iload C 0 rfl dX8_cutOne_265 ?_
    exact go_iret C hr ⟨_, rfl, hw⟩ dX8_cutOne_267
set_option maxRecDepth 20000 in
set_option maxHeartbeats 4000000 in
theorem gbX8_cutOne_205 {X : XT} {G : GT} {l : Launch} {d : Nat}  {post : Int32 → St → Prop} (C : Cx X G cX8_cutOne RX8) (hr : Rt X G (some .int) (fun v τ => ∃ r : Int32, v = some (.int r) ∧ post r τ)) (hR : Rm X l d) (hnl : X.2.2.2.2.2.2.2.2.2.2.1 = 6)  (hd : 6 ≤ d) (hN : 75 ≤ G.2.2.2.2.2)   
    : ∀ (v4 : Int32) (v5 : Int32) (s0 : Int32) (s1 : Int32) (σ : St), wbX8_cutOne_205   post v4 v5 s0 s1 σ → Go X G 205 [(4, .int v4), (5, .int v5)] [.int s0, .int s1, .ref (G.2.2.1 44)] σ := by
  intro v4 v5 s0 s1 σ hw
  have hw : ((v5 = 0 →
    wbX8_cutOne_215 post v4 v5 0 s0 s1 σ) ∧
  (¬ v5 = 0 →
    wbX8_cutOne_215 post v4 v5 1 s0 s1 σ)) := hw
  refine go_iload C 1 rfl dX8_cutOne_205 ?_
  refine go_if_eq C 214 rfl dX8_cutOne_207 (fun hc => ?_) (fun hc => ?_)
  · replace hw := hw.1 hc
    refine go_iconst (v := 0) C rfl dX8_cutOne_214 ?_
    exact (gbX8_cutOne_215 C hr hR hnl hd hN) _ _ _ _ _ _ hw
  · replace hw := hw.2 hc
    refine go_iconst (v := 1) C rfl dX8_cutOne_210 ?_
    refine go_goto C 215 rfl dX8_cutOne_211 ?_
    exact (gbX8_cutOne_215 C hr hR hnl hd hN) _ _ _ _ _ _ hw
set_option maxRecDepth 20000 in
set_option maxHeartbeats 4000000 in
theorem gbX8_cutOne_47 {X : XT} {G : GT} {l : Launch} {d : Nat}  {post : Int32 → St → Prop} (C : Cx X G cX8_cutOne RX8) (hr : Rt X G (some .int) (fun v τ => ∃ r : Int32, v = some (.int r) ∧ post r τ)) (hR : Rm X l d) (hnl : X.2.2.2.2.2.2.2.2.2.2.1 = 6)  (hd : 6 ≤ d) (hN : 75 ≤ G.2.2.2.2.2)   
    : ∀ (v1 : Int32) (v2 : Int32) (v4 : Int32) (σ : St), wbX8_cutOne_47   post v1 v2 v4 σ → Go X G 47 [(0, .ref (G.2.2.1 42)), (1, .int v1), (2, .int v2), (4, .int v4)] [] σ := by
  intro v1 v2 v4 σ hw
  have hw : wpX8_wordOf v2 v4 σ (fun r_1 σ_2 =>
  vp_in v1 301 ∧ (
  ∀ σ_3 : St, σ_3 = sI σ_2 44 v1.toNatClampNeg r_1 →
  post v4 σ_3)) := hw
  refine go_aload_n C 0 rfl rfl dX8_cutOne_47 ?_
  refine go_get (v := .ref (G.2.2.1 44)) C (shX8 G) (ltX8 hN) lkX8_22 rfl dX8_cutOne_48 ?_
  refine go_iload_n C 1 rfl rfl dX8_cutOne_51 ?_
  refine go_aload_n C 0 rfl rfl dX8_cutOne_52 ?_
  refine go_iload_n C 2 rfl rfl dX8_cutOne_53 ?_
  refine go_iload C 3 rfl dX8_cutOne_54 ?_
  refine go_callV (as := [.int v2, .int v4]) C hR (shX8 G) (ltX8 hN) cwX8_67 (Nat.le_trans (by decide) hd) (by decide) rfl rfl (Nat.le_of_ble_eq_true rfl) dX8_cutOne_56 (spX8_wordOf (Nat.le_refl _) hN hw) (fun v_ τ_ hw => ?_)
  obtain ⟨r_1, rfl, hw⟩ := hw
  obtain ⟨σ_2, rfl⟩ : ∃ z, z = τ_ := ⟨_, rfl⟩
  refine go_iast C (saX8_kinds G) (laX8_kinds hN) hw.1 dX8_cutOne_59 (go_nm fun σ_3 eσ_3 => ?_)
  replace hw := hw.2 σ_3 eσ_3
  refine go_goto C 265 rfl dX8_cutOne_60 ?_
  refine go_iload C 3 rfl dX8_cutOne_265 ?_
  exact go_iret C hr ⟨_, rfl, hw⟩ dX8_cutOne_267
set_option maxRecDepth 20000 in
set_option maxHeartbeats 4000000 in
theorem gbX8_cutOne_128 {X : XT} {G : GT} {l : Launch} {d : Nat}  {post : Int32 → St → Prop} (C : Cx X G cX8_cutOne RX8) (hr : Rt X G (some .int) (fun v τ => ∃ r : Int32, v = some (.int r) ∧ post r τ)) (hR : Rm X l d) (hnl : X.2.2.2.2.2.2.2.2.2.2.1 = 6)  (hd : 6 ≤ d) (hN : 75 ≤ G.2.2.2.2.2)   
    : ∀ (v1 : Int32) (v4 : Int32) (v5 : Int32) (σ : St), wbX8_cutOne_128   post v1 v4 v5 σ → Go X G 128 [(0, .ref (G.2.2.1 42)), (1, .int v1), (4, .int v4), (5, .int v5)] [] σ := by
  intro v1 v4 v5 σ hw
  have hw : vp_in v1 301 ∧ (
  ∀ σ_1 : St, σ_1 = sI σ 44 v1.toNatClampNeg 36 →
  vp_in v1 301 ∧ (
  ∀ σ_2 : St, σ_2 = sI σ_1 46 v1.toNatClampNeg v5 →
  post v4 σ_2)) := hw
  refine go_aload_n C 0 rfl rfl dX8_cutOne_128 ?_
  refine go_get (v := .ref (G.2.2.1 44)) C (shX8 G) (ltX8 hN) lkX8_22 rfl dX8_cutOne_129 ?_
  refine go_iload_n C 1 rfl rfl dX8_cutOne_132 ?_
  refine go_bipush (v := 36) C rfl dX8_cutOne_133 ?_
  refine go_iast C (saX8_kinds G) (laX8_kinds hN) hw.1 dX8_cutOne_135 (go_nm fun σ_1 eσ_1 => ?_)
  replace hw := hw.2 σ_1 eσ_1
  refine go_aload_n C 0 rfl rfl dX8_cutOne_136 ?_
  refine go_get (v := .ref (G.2.2.1 46)) C (shX8 G) (ltX8 hN) lkX8_28 rfl dX8_cutOne_137 ?_
  refine go_iload_n C 1 rfl rfl dX8_cutOne_140 ?_
  refine go_iload C 3 rfl dX8_cutOne_141 ?_
  refine go_iast C (saX8_numbers G) (laX8_numbers hN) hw.1 dX8_cutOne_143 (go_nm fun σ_2 eσ_2 => ?_)
  replace hw := hw.2 σ_2 eσ_2
  refine go_goto C 265 rfl dX8_cutOne_144 ?_
  refine go_iload C 2 rfl dX8_cutOne_265 ?_
  exact go_iret C hr ⟨_, rfl, hw⟩ dX8_cutOne_267
set_option maxRecDepth 20000 in
set_option maxHeartbeats 4000000 in
theorem gbX8_cutOne_185 {X : XT} {G : GT} {l : Launch} {d : Nat}  {post : Int32 → St → Prop} (C : Cx X G cX8_cutOne RX8) (hr : Rt X G (some .int) (fun v τ => ∃ r : Int32, v = some (.int r) ∧ post r τ)) (hR : Rm X l d) (hnl : X.2.2.2.2.2.2.2.2.2.2.1 = 6)  (hd : 6 ≤ d) (hN : 75 ≤ G.2.2.2.2.2)   
    : ∀ (v1 : Int32) (v3 : Int32) (v4 : Int32) (s0 : Int32) (σ : St), wbX8_cutOne_185   post v1 v3 v4 s0 σ → Go X G 185 [(0, .ref (G.2.2.1 42)), (1, .int v1), (3, .int v3), (4, .int v4)] [.int s0] σ := by
  intro v1 v3 v4 s0 σ hw
  have hw : ((¬ v3 = 60 →
    wbX8_cutOne_205 post v4 s0 24 v1 σ) ∧
  (v3 = 60 →
    wbX8_cutOne_205 post v4 s0 22 v1 σ)) := hw
  refine go_istore (lv2 := [(5, .int s0), (0, .ref (G.2.2.1 42)), (1, .int v1), (3, .int v3), (4, .int v4)]) C (by rw [hnl]; decide) rfl dX8_cutOne_185 ?_
  refine go_aload_n C 1 rfl rfl dX8_cutOne_187 ?_
  refine go_get (v := .ref (G.2.2.1 44)) C (shX8 G) (ltX8 hN) lkX8_22 rfl dX8_cutOne_188 ?_
  refine go_iload_n C 2 rfl rfl dX8_cutOne_191 ?_
  refine go_iload_n C 3 rfl rfl dX8_cutOne_192 ?_
  refine go_bipush (v := 60) C rfl dX8_cutOne_193 ?_
  refine go_icmp_ne C 203 rfl dX8_cutOne_195 (fun hc => ?_) (fun hc => ?_)
  · replace hw := hw.1 hc
    refine go_bipush (v := 24) C rfl dX8_cutOne_203 ?_
    refine go_sub [4, 0] rfl ?_
    exact (gbX8_cutOne_205 C hr hR hnl hd hN) _ _ _ _ _ hw
  · replace hw := hw.2 hc
    refine go_bipush (v := 22) C rfl dX8_cutOne_198 ?_
    refine go_goto C 205 rfl dX8_cutOne_200 ?_
    refine go_sub [4, 0] rfl ?_
    exact (gbX8_cutOne_205 C hr hR hnl hd hN) _ _ _ _ _ hw
set_option maxRecDepth 20000 in
set_option maxHeartbeats 4000000 in
theorem gbX8_cutOne_19 {X : XT} {G : GT} {l : Launch} {d : Nat}  {post : Int32 → St → Prop} (C : Cx X G cX8_cutOne RX8) (hr : Rt X G (some .int) (fun v τ => ∃ r : Int32, v = some (.int r) ∧ post r τ)) (hR : Rm X l d) (hnl : X.2.2.2.2.2.2.2.2.2.2.1 = 6)  (hd : 6 ≤ d) (hN : 75 ≤ G.2.2.2.2.2)   
    : ∀ (n : Nat) (v1 : Int32) (v2 : Int32) (v4 : Int32) (σ : St), wbX8_cutOne_19   post n v1 v2 v4 σ → Go X G 19 [(0, .ref (G.2.2.1 42)), (1, .int v1), (2, .int v2), (4, .int v4)] [] σ := by
  intro n
  induction n with
  | zero => intro v1 v2 v4 σ hw; exact hw.elim
  | succ n ih =>
    intro v1 v2 v4 σ hw
    have hw : (((gI σ 42 1) ≤ v4 →
      wbX8_cutOne_47 post v1 v2 v4 σ) ∧
    (¬ (gI σ 42 1) ≤ v4 →
      vp_in v4 300 ∧ (
      wpX8_isLetter (gI σ 43 v4.toNatClampNeg) σ (fun r_1 σ_2 =>
      ((r_1 = 0 →
        wbX8_cutOne_47 post v1 v2 v4 σ_2) ∧
      (¬ r_1 = 0 →
        ∀ v4_3 : Int32, v4_3 = v4 + 1 →
        wbX8_cutOne_19 post n v1 v2 v4_3 σ_2)))))) := hw
    refine go_iload C 3 rfl dX8_cutOne_19 ?_
    refine go_aload_n C 0 rfl rfl dX8_cutOne_21 ?_
    refine go_get (v := .int (gI σ 42 1)) C (shX8 G) (ltX8 hN) lkX8_35 rfl dX8_cutOne_22 ?_
    refine go_icmp_ge C 47 rfl dX8_cutOne_25 (fun hc => ?_) (fun hc => ?_)
    · replace hw := hw.1 hc
      exact (gbX8_cutOne_47 C hr hR hnl hd hN) _ _ _ _ hw
    · replace hw := hw.2 hc
      refine go_aload_n C 0 rfl rfl dX8_cutOne_28 ?_
      refine go_get (v := .ref (G.2.2.1 43)) C (shX8 G) (ltX8 hN) lkX8_11 rfl dX8_cutOne_29 ?_
      refine go_iload C 3 rfl dX8_cutOne_32 ?_
      refine go_iald C (saX8_bytes G) (laX8_bytes hN) hw.1 dX8_cutOne_34 ?_
      replace hw := hw.2
      refine go_callS (as := [.int (gI σ 43 v4.toNatClampNeg)]) C hR cwX8_63 (Nat.le_trans (by decide) hd) (by decide) rfl rfl (Nat.le_of_ble_eq_true rfl) dX8_cutOne_35 (spX8_isLetter (Nat.le_refl _) hN hw) (fun v_ τ_ hw => ?_)
      obtain ⟨r_1, rfl, hw⟩ := hw
      obtain ⟨σ_2, rfl⟩ : ∃ z, z = τ_ := ⟨_, rfl⟩
      refine go_if_eq C 47 rfl dX8_cutOne_38 (fun hc => ?_) (fun hc => ?_)
      · replace hw := hw.1 hc
        exact (gbX8_cutOne_47 C hr hR hnl hd hN) _ _ _ _ hw
      · replace hw := hw.2 hc
        obtain ⟨v4_3, ev4_3⟩ : ∃ z : Int32, z = v4 + 1 := ⟨_, rfl⟩
        replace hw := hw v4_3 ev4_3
        refine go_iinc (v := v4_3) (lv2 := [(4, .int v4_3), (0, .ref (G.2.2.1 42)), (1, .int v1), (2, .int v2)]) C 3 rfl (by rw [ev4_3]; rfl) (by rw [hnl]; decide) rfl dX8_cutOne_41 ?_
        refine go_goto C 19 rfl dX8_cutOne_44 ?_
        refine go_sub [1, 2, 3, 0] rfl ?_
        exact ih _ _ _ _ hw
set_option maxRecDepth 20000 in
set_option maxHeartbeats 4000000 in
theorem gbX8_cutOne_76 {X : XT} {G : GT} {l : Launch} {d : Nat}  {post : Int32 → St → Prop} (C : Cx X G cX8_cutOne RX8) (hr : Rt X G (some .int) (fun v τ => ∃ r : Int32, v = some (.int r) ∧ post r τ)) (hR : Rm X l d) (hnl : X.2.2.2.2.2.2.2.2.2.2.1 = 6)  (hd : 6 ≤ d) (hN : 75 ≤ G.2.2.2.2.2)   
    : ∀ (n : Nat) (v1 : Int32) (v4 : Int32) (v5 : Int32) (σ : St), wbX8_cutOne_76   post n v1 v4 v5 σ → Go X G 76 [(0, .ref (G.2.2.1 42)), (1, .int v1), (4, .int v4), (5, .int v5)] [] σ := by
  intro n
  induction n with
  | zero => intro v1 v4 v5 σ hw; exact hw.elim
  | succ n ih =>
    intro v1 v4 v5 σ hw
    have hw : (((gI σ 42 1) ≤ v4 →
      wbX8_cutOne_128 post v1 v4 v5 σ) ∧
    (¬ (gI σ 42 1) ≤ v4 →
      vp_in v4 300 ∧ (
      wpX8_isDigit (gI σ 43 v4.toNatClampNeg) σ (fun r_1 σ_2 =>
      ((r_1 = 0 →
        wbX8_cutOne_128 post v1 v4 v5 σ_2) ∧
      (¬ r_1 = 0 →
        vp_in v4 300 ∧ (
        ∀ v5_3 : Int32, v5_3 = (if 10000 < (((v5 * 10) + (gI σ_2 43 v4.toNatClampNeg)) - 48) then 10000 else (((v5 * 10) + (gI σ_2 43 v4.toNatClampNeg)) - 48)) →
        ∀ v4_4 : Int32, v4_4 = v4 + 1 →
        wbX8_cutOne_76 post n v1 v4_4 v5_3 σ_2))))))) := hw
    refine go_iload C 2 rfl dX8_cutOne_76 ?_
    refine go_aload_n C 0 rfl rfl dX8_cutOne_78 ?_
    refine go_get (v := .int (gI σ 42 1)) C (shX8 G) (ltX8 hN) lkX8_35 rfl dX8_cutOne_79 ?_
    refine go_icmp_ge C 128 rfl dX8_cutOne_82 (fun hc => ?_) (fun hc => ?_)
    · replace hw := hw.1 hc
      exact (gbX8_cutOne_128 C hr hR hnl hd hN) _ _ _ _ hw
    · replace hw := hw.2 hc
      refine go_aload_n C 0 rfl rfl dX8_cutOne_85 ?_
      refine go_get (v := .ref (G.2.2.1 43)) C (shX8 G) (ltX8 hN) lkX8_11 rfl dX8_cutOne_86 ?_
      refine go_iload C 2 rfl dX8_cutOne_89 ?_
      refine go_iald C (saX8_bytes G) (laX8_bytes hN) hw.1 dX8_cutOne_91 ?_
      replace hw := hw.2
      refine go_callS (as := [.int (gI σ 43 v4.toNatClampNeg)]) C hR cwX8_70 (Nat.le_trans (by decide) hd) (by decide) rfl rfl (Nat.le_of_ble_eq_true rfl) dX8_cutOne_92 (spX8_isDigit (Nat.le_refl _) hN hw) (fun v_ τ_ hw => ?_)
      obtain ⟨r_1, rfl, hw⟩ := hw
      obtain ⟨σ_2, rfl⟩ : ∃ z, z = τ_ := ⟨_, rfl⟩
      refine go_if_eq C 128 rfl dX8_cutOne_95 (fun hc => ?_) (fun hc => ?_)
      · replace hw := hw.1 hc
        exact (gbX8_cutOne_128 C hr hR hnl hd hN) _ _ _ _ hw
      · replace hw := hw.2 hc
        refine go_iload C 3 rfl dX8_cutOne_98 ?_
        refine go_bipush (v := 10) C rfl dX8_cutOne_100 ?_
        refine go_imul C dX8_cutOne_102 ?_
        refine go_aload_n C 0 rfl rfl dX8_cutOne_103 ?_
        refine go_get (v := .ref (G.2.2.1 43)) C (shX8 G) (ltX8 hN) lkX8_11 rfl dX8_cutOne_104 ?_
        refine go_iload C 2 rfl dX8_cutOne_107 ?_
        refine go_iald C (saX8_bytes G) (laX8_bytes hN) hw.1 dX8_cutOne_109 ?_
        replace hw := hw.2
        refine go_iadd C dX8_cutOne_110 ?_
        refine go_bipush (v := 48) C rfl dX8_cutOne_111 ?_
        refine go_isub C dX8_cutOne_113 ?_
        refine go_sipush (v := 10000) C rfl dX8_cutOne_114 ?_
        refine go_mmin (d := 0) C (rm_le hR (Nat.le_trans (by decide) hd)) mlX8_73 (Nat.le_of_ble_eq_true rfl) dX8_cutOne_117 ?_
        refine go_topi (fun v5_3 ev5_3 => ?_)
        replace hw := hw v5_3 ev5_3
        refine go_istore (lv2 := [(5, .int v5_3), (0, .ref (G.2.2.1 42)), (1, .int v1), (4, .int v4)]) C (by rw [hnl]; decide) rfl dX8_cutOne_120 ?_
        obtain ⟨v4_4, ev4_4⟩ : ∃ z : Int32, z = v4 + 1 := ⟨_, rfl⟩
        replace hw := hw v4_4 ev4_4
        refine go_iinc (v := v4_4) (lv2 := [(4, .int v4_4), (5, .int v5_3), (0, .ref (G.2.2.1 42)), (1, .int v1)]) C 3 rfl (by rw [ev4_4]; rfl) (by rw [hnl]; decide) rfl dX8_cutOne_122 ?_
        refine go_goto C 76 rfl dX8_cutOne_125 ?_
        refine go_sub [2, 3, 0, 1] rfl ?_
        exact ih _ _ _ _ hw
set_option maxRecDepth 20000 in
set_option maxHeartbeats 4000000 in
theorem gbX8_cutOne_159 {X : XT} {G : GT} {l : Launch} {d : Nat}  {post : Int32 → St → Prop} (C : Cx X G cX8_cutOne RX8) (hr : Rt X G (some .int) (fun v τ => ∃ r : Int32, v = some (.int r) ∧ post r τ)) (hR : Rm X l d) (hnl : X.2.2.2.2.2.2.2.2.2.2.1 = 6)  (hd : 6 ≤ d) (hN : 75 ≤ G.2.2.2.2.2)   
    : ∀ (v1 : Int32) (v3 : Int32) (v4 : Int32) (σ : St), wbX8_cutOne_159   post v1 v3 v4 σ → Go X G 159 [(0, .ref (G.2.2.1 42)), (1, .int v1), (3, .int v3), (4, .int v4)] [] σ := by
  intro v1 v3 v4 σ hw
  have hw : (((gI σ 42 1) ≤ v4 →
    wbX8_cutOne_185 post v1 v3 v4 0 σ) ∧
  (¬ (gI σ 42 1) ≤ v4 →
    vp_in v4 300 ∧ (
    ((¬ (gI σ 43 v4.toNatClampNeg) = 61 →
      wbX8_cutOne_185 post v1 v3 v4 0 σ) ∧
    ((gI σ 43 v4.toNatClampNeg) = 61 →
      wbX8_cutOne_185 post v1 v3 v4 1 σ))))) := hw
  refine go_iload C 3 rfl dX8_cutOne_159 ?_
  refine go_aload_n C 0 rfl rfl dX8_cutOne_161 ?_
  refine go_get (v := .int (gI σ 42 1)) C (shX8 G) (ltX8 hN) lkX8_35 rfl dX8_cutOne_162 ?_
  refine go_icmp_ge C 184 rfl dX8_cutOne_165 (fun hc => ?_) (fun hc => ?_)
  · replace hw := hw.1 hc
    refine go_iconst (v := 0) C rfl dX8_cutOne_184 ?_
    exact (gbX8_cutOne_185 C hr hR hnl hd hN) _ _ _ _ _ hw
  · replace hw := hw.2 hc
    refine go_aload_n C 0 rfl rfl dX8_cutOne_168 ?_
    refine go_get (v := .ref (G.2.2.1 43)) C (shX8 G) (ltX8 hN) lkX8_11 rfl dX8_cutOne_169 ?_
    refine go_iload C 3 rfl dX8_cutOne_172 ?_
    refine go_iald C (saX8_bytes G) (laX8_bytes hN) hw.1 dX8_cutOne_174 ?_
    replace hw := hw.2
    refine go_bipush (v := 61) C rfl dX8_cutOne_175 ?_
    refine go_icmp_ne C 184 rfl dX8_cutOne_177 (fun hc => ?_) (fun hc => ?_)
    · replace hw := hw.1 hc
      refine go_iconst (v := 0) C rfl dX8_cutOne_184 ?_
      exact (gbX8_cutOne_185 C hr hR hnl hd hN) _ _ _ _ _ hw
    · replace hw := hw.2 hc
      refine go_iconst (v := 1) C rfl dX8_cutOne_180 ?_
      refine go_goto C 185 rfl dX8_cutOne_181 ?_
      exact (gbX8_cutOne_185 C hr hR hnl hd hN) _ _ _ _ _ hw
set_option maxRecDepth 20000 in
set_option maxHeartbeats 4000000 in
theorem spX8_cutOne {l : Launch} {G : GT} {d : Nat}  (hd : 6 ≤ d)  (hN : 75 ≤ G.2.2.2.2.2)  {a1 : Int32} {a2 : Int32} {σ : St} {post : Int32 → St → Prop} (hw : wpX8_cutOne  a1 a2 σ post) : Sp l G d yX8_cutOne cX8_cutOne 6 (some .int) [.ref (G.2.2.1 42), .int a1, .int a2] σ (fun v τ => ∃ r : Int32, v = some (.int r) ∧ post r τ) := by
  refine Sp.of (by decide) (Nat.le_of_ble_eq_true rfl) fun X C hr hR hnl => ?_
  show Go X G 0 [(0, .ref (G.2.2.1 42)), (1, .int a1), (2, .int a2)] [] σ
  have hw : vp_in a2 300 ∧ (
  ∀ v3_1 : Int32, v3_1 = (gI σ 43 a2.toNatClampNeg) →
  ∀ v4_2 : Int32, v4_2 = (a2 + 1) →
  wpX8_isLetter v3_1 σ (fun r_3 σ_4 =>
  ((r_3 = 0 →
    wpX8_isDigit v3_1 σ_4 (fun r_5 σ_6 =>
    ((r_5 = 0 →
      ((v3_1 = 60 →
        wbX8_cutOne_159 post a1 v3_1 v4_2 σ_6) ∧
      (¬ v3_1 = 60 →
        ((¬ v3_1 = 62 →
          wpJ0_indexOf_0f7a4 3 ((v3_1.toUInt32 % 65536).toInt32) σ_6 (fun r_7 σ_8 =>
          ((0 ≤ r_7 →
            vp_in a1 301 ∧ (
            ∀ σ_9 : St, σ_9 = sI σ_8 44 a1.toNatClampNeg (26 + r_7) →
            post v4_2 σ_9)) ∧
          (¬ 0 ≤ r_7 →
            vp_in a1 301 ∧ (
            ∀ σ_10 : St, σ_10 = sI σ_8 44 a1.toNatClampNeg 38 →
            post v4_2 σ_10))))) ∧
        (v3_1 = 62 →
          wbX8_cutOne_159 post a1 v3_1 v4_2 σ_6))))) ∧
    (¬ r_5 = 0 →
      ∀ v5_11 : Int32, v5_11 = (v3_1 - 48) →
      ∃ m_76, wbX8_cutOne_76 post m_76 a1 v4_2 v5_11 σ_6)))) ∧
  (¬ r_3 = 0 →
    ∃ m_19, wbX8_cutOne_19 post m_19 a1 a2 v4_2 σ_4)))) := hw
  refine go_aload_n C 0 rfl rfl dX8_cutOne_0 ?_
  refine go_get (v := .ref (G.2.2.1 43)) C (shX8 G) (ltX8 hN) lkX8_11 rfl dX8_cutOne_1 ?_
  refine go_iload_n C 2 rfl rfl dX8_cutOne_4 ?_
  refine go_iald C (saX8_bytes G) (laX8_bytes hN) hw.1 dX8_cutOne_5 ?_
  replace hw := hw.2
  refine go_topi (fun v3_1 ev3_1 => ?_)
  replace hw := hw v3_1 ev3_1
  refine go_istore_n (lv2 := [(3, .int v3_1), (0, .ref (G.2.2.1 42)), (1, .int a1), (2, .int a2)]) C rfl (by rw [hnl]; decide) rfl dX8_cutOne_6 ?_
  refine go_iload_n C 3 rfl rfl dX8_cutOne_7 ?_
  refine go_iconst (v := 1) C rfl dX8_cutOne_8 ?_
  refine go_iadd C dX8_cutOne_9 ?_
  refine go_topi (fun v4_2 ev4_2 => ?_)
  replace hw := hw v4_2 ev4_2
  refine go_istore (lv2 := [(4, .int v4_2), (3, .int v3_1), (0, .ref (G.2.2.1 42)), (1, .int a1), (2, .int a2)]) C (by rw [hnl]; decide) rfl dX8_cutOne_10 ?_
  refine go_iload_n C 1 rfl rfl dX8_cutOne_12 ?_
  refine go_callS (as := [.int v3_1]) C hR cwX8_63 (Nat.le_trans (by decide) hd) (by decide) rfl rfl (Nat.le_of_ble_eq_true rfl) dX8_cutOne_13 (spX8_isLetter (Nat.le_refl _) hN hw) (fun v_ τ_ hw => ?_)
  obtain ⟨r_3, rfl, hw⟩ := hw
  obtain ⟨σ_4, rfl⟩ : ∃ z, z = τ_ := ⟨_, rfl⟩
  refine go_if_eq C 63 rfl dX8_cutOne_16 (fun hc => ?_) (fun hc => ?_)
  · replace hw := hw.1 hc
    refine go_iload_n C 1 rfl rfl dX8_cutOne_63 ?_
    refine go_callS (as := [.int v3_1]) C hR cwX8_70 (Nat.le_trans (by decide) hd) (by decide) rfl rfl (Nat.le_of_ble_eq_true rfl) dX8_cutOne_64 (spX8_isDigit (Nat.le_refl _) hN hw) (fun v_ τ_ hw => ?_)
    obtain ⟨r_5, rfl, hw⟩ := hw
    obtain ⟨σ_6, rfl⟩ : ∃ z, z = τ_ := ⟨_, rfl⟩
    refine go_if_eq C 147 rfl dX8_cutOne_67 (fun hc => ?_) (fun hc => ?_)
    · replace hw := hw.1 hc
      refine go_iload_n C 1 rfl rfl dX8_cutOne_147 ?_
      refine go_bipush (v := 60) C rfl dX8_cutOne_148 ?_
      refine go_icmp_eq C 159 rfl dX8_cutOne_150 (fun hc => ?_) (fun hc => ?_)
      · replace hw := hw.1 hc
        refine go_sub [2, 3, 1, 0] rfl ?_
        exact (gbX8_cutOne_159 C hr hR hnl hd hN) _ _ _ _ hw
      · replace hw := hw.2 hc
        refine go_iload_n C 1 rfl rfl dX8_cutOne_153 ?_
        refine go_bipush (v := 62) C rfl dX8_cutOne_154 ?_
        refine go_icmp_ne C 235 rfl dX8_cutOne_156 (fun hc => ?_) (fun hc => ?_)
        · replace hw := hw.1 hc
          refine go_lds3 C dX8_cutOne_235 ?_
          refine go_iload_n C 1 rfl rfl dX8_cutOne_237 ?_
          refine go_i2c C dX8_cutOne_238 ?_
          refine go_callT (as := [.int (v3_1.toUInt32 % 65536).toInt32]) C hR (show 3 < 4 by decide) cwX8_80 (Nat.le_trans (by decide) hd) (by decide) rfl rfl (Nat.le_of_ble_eq_true rfl) dX8_cutOne_239 (spJ0_indexOf_0f7a4 (Nat.le_refl _) (show 3 < 4 by decide) hw) (fun v_ τ_ hw => ?_)
          obtain ⟨r_7, rfl, hw⟩ := hw
          obtain ⟨σ_8, rfl⟩ : ∃ z, z = τ_ := ⟨_, rfl⟩
          refine go_istore (lv2 := [(5, .int r_7), (4, .int v4_2), (3, .int v3_1), (0, .ref (G.2.2.1 42)), (1, .int a1), (2, .int a2)]) C (by rw [hnl]; decide) rfl dX8_cutOne_242 ?_
          refine go_aload_n C 3 rfl rfl dX8_cutOne_244 ?_
          refine go_get (v := .ref (G.2.2.1 44)) C (shX8 G) (ltX8 hN) lkX8_22 rfl dX8_cutOne_245 ?_
          refine go_iload_n C 4 rfl rfl dX8_cutOne_248 ?_
          refine go_iload C 0 rfl dX8_cutOne_249 ?_
          refine go_if_ge C 259 rfl dX8_cutOne_251 (fun hc => ?_) (fun hc => ?_)
          · replace hw := hw.1 hc
            refine go_bipush (v := 26) C rfl dX8_cutOne_259 ?_
            refine go_iload C 0 rfl dX8_cutOne_261 ?_
            refine go_iadd C dX8_cutOne_263 ?_
            refine go_iast C (saX8_kinds G) (laX8_kinds hN) hw.1 dX8_cutOne_264 (go_nm fun σ_9 eσ_9 => ?_)
            replace hw := hw.2 σ_9 eσ_9
            refine go_iload C 1 rfl dX8_cutOne_265 ?_
            exact go_iret C hr ⟨_, rfl, hw⟩ dX8_cutOne_267
          · replace hw := hw.2 hc
            refine go_bipush (v := 38) C rfl dX8_cutOne_254 ?_
            refine go_goto C 264 rfl dX8_cutOne_256 ?_
            refine go_iast C (saX8_kinds G) (laX8_kinds hN) hw.1 dX8_cutOne_264 (go_nm fun σ_10 eσ_10 => ?_)
            replace hw := hw.2 σ_10 eσ_10
            refine go_iload C 1 rfl dX8_cutOne_265 ?_
            exact go_iret C hr ⟨_, rfl, hw⟩ dX8_cutOne_267
        · replace hw := hw.2 hc
          refine go_sub [2, 3, 1, 0] rfl ?_
          exact (gbX8_cutOne_159 C hr hR hnl hd hN) _ _ _ _ hw
    · replace hw := hw.2 hc
      refine go_iload_n C 1 rfl rfl dX8_cutOne_70 ?_
      refine go_bipush (v := 48) C rfl dX8_cutOne_71 ?_
      refine go_isub C dX8_cutOne_73 ?_
      refine go_topi (fun v5_11 ev5_11 => ?_)
      replace hw := hw v5_11 ev5_11
      refine go_istore (lv2 := [(5, .int v5_11), (4, .int v4_2), (3, .int v3_1), (0, .ref (G.2.2.1 42)), (1, .int a1), (2, .int a2)]) C (by rw [hnl]; decide) rfl dX8_cutOne_74 ?_
      refine go_sub [3, 4, 1, 0] rfl ?_
      obtain ⟨n_0, hw⟩ := hw
      exact (gbX8_cutOne_76 C hr hR hnl hd hN) n_0 _ _ _ _ hw
  · replace hw := hw.2 hc
    refine go_sub [2, 3, 4, 0] rfl ?_
    obtain ⟨n_0, hw⟩ := hw
    exact (gbX8_cutOne_19 C hr hR hnl hd hN) n_0 _ _ _ _ hw
-- CradleNames$Reader.cut()V
set_option maxRecDepth 20000 in
set_option maxHeartbeats 4000000 in
theorem gbX8_cut_72 {X : XT} {G : GT} {l : Launch} {d : Nat}  {post : St → Prop} (C : Cx X G cX8_cut RX8) (hr : Rt X G none (fun v τ => v = none ∧ post τ)) (hR : Rm X l d) (hnl : X.2.2.2.2.2.2.2.2.2.2.1 = 4)  (hd : 7 ≤ d) (hN : 75 ≤ G.2.2.2.2.2)   
    : ∀ (v1 : Int32) (σ : St), wbX8_cut_72   post v1 σ → Go X G 72 [(0, .ref (G.2.2.1 42)), (1, .int v1)] [] σ := by
  intro v1 σ hw
  have hw : vp_in v1 301 ∧ (
  ∀ σ_1 : St, σ_1 = sI σ 44 v1.toNatClampNeg 37 →
  vp_in v1 301 ∧ (
  ∀ σ_2 : St, σ_2 = sI σ_1 45 v1.toNatClampNeg (gI σ_1 42 1) →
  post σ_2)) := hw
  refine go_aload_n C 0 rfl rfl dX8_cut_72 ?_
  refine go_get (v := .ref (G.2.2.1 44)) C (shX8 G) (ltX8 hN) lkX8_22 rfl dX8_cut_73 ?_
  refine go_iload_n C 1 rfl rfl dX8_cut_76 ?_
  refine go_bipush (v := 37) C rfl dX8_cut_77 ?_
  refine go_iast C (saX8_kinds G) (laX8_kinds hN) hw.1 dX8_cut_79 (go_nm fun σ_1 eσ_1 => ?_)
  replace hw := hw.2 σ_1 eσ_1
  refine go_aload_n C 0 rfl rfl dX8_cut_80 ?_
  refine go_get (v := .ref (G.2.2.1 45)) C (shX8 G) (ltX8 hN) lkX8_25 rfl dX8_cut_81 ?_
  refine go_iload_n C 1 rfl rfl dX8_cut_84 ?_
  refine go_aload_n C 0 rfl rfl dX8_cut_85 ?_
  refine go_get (v := .int (gI σ_1 42 1)) C (shX8 G) (ltX8 hN) lkX8_35 rfl dX8_cut_86 ?_
  refine go_iast C (saX8_starts G) (laX8_starts hN) hw.1 dX8_cut_89 (go_nm fun σ_2 eσ_2 => ?_)
  replace hw := hw.2 σ_2 eσ_2
  exact go_vret C hr ⟨rfl, hw⟩ dX8_cut_90
set_option maxRecDepth 20000 in
set_option maxHeartbeats 4000000 in
theorem gbX8_cut_6 {X : XT} {G : GT} {l : Launch} {d : Nat}  {post : St → Prop} (C : Cx X G cX8_cut RX8) (hr : Rt X G none (fun v τ => v = none ∧ post τ)) (hR : Rm X l d) (hnl : X.2.2.2.2.2.2.2.2.2.2.1 = 4)  (hd : 7 ≤ d) (hN : 75 ≤ G.2.2.2.2.2)   
    : ∀ (n : Nat) (v1 : Int32) (v2 : Int32) (v3 : Int32) (σ : St), wbX8_cut_6   post n v1 v2 v3 σ → Go X G 6 [(0, .ref (G.2.2.1 42)), (1, .int v1), (2, .int v2), (3, .int v3)] [] σ := by
  intro n
  induction n with
  | zero => intro v1 v2 v3 σ hw; exact hw.elim
  | succ n ih =>
    intro v1 v2 v3 σ hw
    have hw : ((300 ≤ v3 →
      wbX8_cut_72 post v1 σ) ∧
    (¬ 300 ≤ v3 →
      (((gI σ 42 1) ≤ v2 →
        wbX8_cut_72 post v1 σ) ∧
      (¬ (gI σ 42 1) ≤ v2 →
        vp_in v2 300 ∧ (
        (((gI σ 43 v2.toNatClampNeg) = 32 →
          ∀ v2_1 : Int32, v2_1 = v2 + 1 →
          ∀ v3_2 : Int32, v3_2 = v3 + 1 →
          wbX8_cut_6 post n v1 v2_1 v3_2 σ) ∧
        (¬ (gI σ 43 v2.toNatClampNeg) = 32 →
          vp_in v2 300 ∧ (
          ((¬ (gI σ 43 v2.toNatClampNeg) = 10 →
            vp_in v1 301 ∧ (
            ∀ σ_3 : St, σ_3 = sI σ 45 v1.toNatClampNeg v2 →
            wpX8_cutOne v1 v2 σ_3 (fun r_4 σ_5 =>
            ∀ v1_6 : Int32, v1_6 = v1 + 1 →
            ∀ v3_7 : Int32, v3_7 = v3 + 1 →
            wbX8_cut_6 post n v1_6 r_4 v3_7 σ_5))) ∧
          ((gI σ 43 v2.toNatClampNeg) = 10 →
            ∀ v2_8 : Int32, v2_8 = v2 + 1 →
            ∀ v3_9 : Int32, v3_9 = v3 + 1 →
            wbX8_cut_6 post n v1 v2_8 v3_9 σ)))))))))) := hw
    refine go_iload_n C 3 rfl rfl dX8_cut_6 ?_
    refine go_sipush (v := 300) C rfl dX8_cut_7 ?_
    refine go_icmp_ge C 72 rfl dX8_cut_10 (fun hc => ?_) (fun hc => ?_)
    · replace hw := hw.1 hc
      refine go_sub [0, 1] rfl ?_
      exact (gbX8_cut_72 C hr hR hnl hd hN) _ _ hw
    · replace hw := hw.2 hc
      refine go_iload_n C 2 rfl rfl dX8_cut_13 ?_
      refine go_aload_n C 0 rfl rfl dX8_cut_14 ?_
      refine go_get (v := .int (gI σ 42 1)) C (shX8 G) (ltX8 hN) lkX8_35 rfl dX8_cut_15 ?_
      refine go_icmp_ge C 72 rfl dX8_cut_18 (fun hc => ?_) (fun hc => ?_)
      · replace hw := hw.1 hc
        refine go_sub [0, 1] rfl ?_
        exact (gbX8_cut_72 C hr hR hnl hd hN) _ _ hw
      · replace hw := hw.2 hc
        refine go_aload_n C 0 rfl rfl dX8_cut_21 ?_
        refine go_get (v := .ref (G.2.2.1 43)) C (shX8 G) (ltX8 hN) lkX8_11 rfl dX8_cut_22 ?_
        refine go_iload_n C 2 rfl rfl dX8_cut_25 ?_
        refine go_iald C (saX8_bytes G) (laX8_bytes hN) hw.1 dX8_cut_26 ?_
        replace hw := hw.2
        refine go_bipush (v := 32) C rfl dX8_cut_27 ?_
        refine go_icmp_eq C 43 rfl dX8_cut_29 (fun hc => ?_) (fun hc => ?_)
        · replace hw := hw.1 hc
          obtain ⟨v2_1, ev2_1⟩ : ∃ z : Int32, z = v2 + 1 := ⟨_, rfl⟩
          replace hw := hw v2_1 ev2_1
          refine go_iinc (v := v2_1) (lv2 := [(2, .int v2_1), (0, .ref (G.2.2.1 42)), (1, .int v1), (3, .int v3)]) C 2 rfl (by rw [ev2_1]; rfl) (by rw [hnl]; decide) rfl dX8_cut_43 ?_
          refine go_goto C 66 rfl dX8_cut_46 ?_
          obtain ⟨v3_2, ev3_2⟩ : ∃ z : Int32, z = v3 + 1 := ⟨_, rfl⟩
          replace hw := hw v3_2 ev3_2
          refine go_iinc (v := v3_2) (lv2 := [(3, .int v3_2), (2, .int v2_1), (0, .ref (G.2.2.1 42)), (1, .int v1)]) C 3 rfl (by rw [ev3_2]; rfl) (by rw [hnl]; decide) rfl dX8_cut_66 ?_
          refine go_goto C 6 rfl dX8_cut_69 ?_
          refine go_sub [2, 3, 1, 0] rfl ?_
          exact ih _ _ _ _ hw
        · replace hw := hw.2 hc
          refine go_aload_n C 0 rfl rfl dX8_cut_32 ?_
          refine go_get (v := .ref (G.2.2.1 43)) C (shX8 G) (ltX8 hN) lkX8_11 rfl dX8_cut_33 ?_
          refine go_iload_n C 2 rfl rfl dX8_cut_36 ?_
          refine go_iald C (saX8_bytes G) (laX8_bytes hN) hw.1 dX8_cut_37 ?_
          replace hw := hw.2
          refine go_bipush (v := 10) C rfl dX8_cut_38 ?_
          refine go_icmp_ne C 49 rfl dX8_cut_40 (fun hc => ?_) (fun hc => ?_)
          · replace hw := hw.1 hc
            refine go_aload_n C 0 rfl rfl dX8_cut_49 ?_
            refine go_get (v := .ref (G.2.2.1 45)) C (shX8 G) (ltX8 hN) lkX8_25 rfl dX8_cut_50 ?_
            refine go_iload_n C 1 rfl rfl dX8_cut_53 ?_
            refine go_iload_n C 2 rfl rfl dX8_cut_54 ?_
            refine go_iast C (saX8_starts G) (laX8_starts hN) hw.1 dX8_cut_55 (go_nm fun σ_3 eσ_3 => ?_)
            replace hw := hw.2 σ_3 eσ_3
            refine go_aload_n C 0 rfl rfl dX8_cut_56 ?_
            refine go_iload_n C 1 rfl rfl dX8_cut_57 ?_
            refine go_iload_n C 2 rfl rfl dX8_cut_58 ?_
            refine go_callV (as := [.int v1, .int v2]) C hR (shX8 G) (ltX8 hN) cwX8_59 (Nat.le_trans (by decide) hd) (by decide) rfl rfl (Nat.le_of_ble_eq_true rfl) dX8_cut_59 (spX8_cutOne (Nat.le_refl _) hN hw) (fun v_ τ_ hw => ?_)
            obtain ⟨r_4, rfl, hw⟩ := hw
            obtain ⟨σ_5, rfl⟩ : ∃ z, z = τ_ := ⟨_, rfl⟩
            refine go_istore_n (lv2 := [(2, .int r_4), (0, .ref (G.2.2.1 42)), (1, .int v1), (3, .int v3)]) C rfl (by rw [hnl]; decide) rfl dX8_cut_62 ?_
            obtain ⟨v1_6, ev1_6⟩ : ∃ z : Int32, z = v1 + 1 := ⟨_, rfl⟩
            replace hw := hw v1_6 ev1_6
            refine go_iinc (v := v1_6) (lv2 := [(1, .int v1_6), (2, .int r_4), (0, .ref (G.2.2.1 42)), (3, .int v3)]) C 2 rfl (by rw [ev1_6]; rfl) (by rw [hnl]; decide) rfl dX8_cut_63 ?_
            obtain ⟨v3_7, ev3_7⟩ : ∃ z : Int32, z = v3 + 1 := ⟨_, rfl⟩
            replace hw := hw v3_7 ev3_7
            refine go_iinc (v := v3_7) (lv2 := [(3, .int v3_7), (1, .int v1_6), (2, .int r_4), (0, .ref (G.2.2.1 42))]) C 3 rfl (by rw [ev3_7]; rfl) (by rw [hnl]; decide) rfl dX8_cut_66 ?_
            refine go_goto C 6 rfl dX8_cut_69 ?_
            refine go_sub [3, 1, 2, 0] rfl ?_
            exact ih _ _ _ _ hw
          · replace hw := hw.2 hc
            obtain ⟨v2_8, ev2_8⟩ : ∃ z : Int32, z = v2 + 1 := ⟨_, rfl⟩
            replace hw := hw v2_8 ev2_8
            refine go_iinc (v := v2_8) (lv2 := [(2, .int v2_8), (0, .ref (G.2.2.1 42)), (1, .int v1), (3, .int v3)]) C 2 rfl (by rw [ev2_8]; rfl) (by rw [hnl]; decide) rfl dX8_cut_43 ?_
            refine go_goto C 66 rfl dX8_cut_46 ?_
            obtain ⟨v3_9, ev3_9⟩ : ∃ z : Int32, z = v3 + 1 := ⟨_, rfl⟩
            replace hw := hw v3_9 ev3_9
            refine go_iinc (v := v3_9) (lv2 := [(3, .int v3_9), (2, .int v2_8), (0, .ref (G.2.2.1 42)), (1, .int v1)]) C 3 rfl (by rw [ev3_9]; rfl) (by rw [hnl]; decide) rfl dX8_cut_66 ?_
            refine go_goto C 6 rfl dX8_cut_69 ?_
            refine go_sub [2, 3, 1, 0] rfl ?_
            exact ih _ _ _ _ hw
set_option maxRecDepth 20000 in
set_option maxHeartbeats 4000000 in
theorem spX8_cut {l : Launch} {G : GT} {d : Nat}  (hd : 7 ≤ d)  (hN : 75 ≤ G.2.2.2.2.2)   {σ : St} {post : St → Prop} (hw : wpX8_cut   σ post) : Sp l G d yX8_cut cX8_cut 4 none [.ref (G.2.2.1 42)] σ (fun v τ => v = none ∧ post τ) := by
  refine Sp.of (by decide) (Nat.le_of_ble_eq_true rfl) fun X C hr hR hnl => ?_
  show Go X G 0 [(0, .ref (G.2.2.1 42))] [] σ
  have hw : ∃ m_6, wbX8_cut_6 post m_6 0 0 0 σ := hw
  refine go_iconst (v := 0) C rfl dX8_cut_0 ?_
  refine go_istore_n (lv2 := [(1, .int 0), (0, .ref (G.2.2.1 42))]) C rfl (by rw [hnl]; decide) rfl dX8_cut_1 ?_
  refine go_iconst (v := 0) C rfl dX8_cut_2 ?_
  refine go_istore_n (lv2 := [(2, .int 0), (1, .int 0), (0, .ref (G.2.2.1 42))]) C rfl (by rw [hnl]; decide) rfl dX8_cut_3 ?_
  refine go_iconst (v := 0) C rfl dX8_cut_4 ?_
  refine go_istore_n (lv2 := [(3, .int 0), (2, .int 0), (1, .int 0), (0, .ref (G.2.2.1 42))]) C rfl (by rw [hnl]; decide) rfl dX8_cut_5 ?_
  refine go_sub [3, 2, 1, 0] rfl ?_
  obtain ⟨n_0, hw⟩ := hw
  exact (gbX8_cut_6 C hr hR hnl hd hN) n_0 _ _ _ _ hw
-- CradleNames$Reader.read(LCradleNames$Taste;)Z
set_option maxRecDepth 20000 in
set_option maxHeartbeats 4000000 in
theorem gbX8_read_83 {X : XT} {G : GT} {l : Launch} {d : Nat} {k1 : Nat} {post : Int32 → St → Prop} (C : Cx X G cX8_read RX8) (hr : Rt X G (some .boolean) (fun v τ => ∃ r : Int32, v = some (.int r) ∧ post r τ)) (hR : Rm X l d) (hnl : X.2.2.2.2.2.2.2.2.2.2.1 = 3)  (hd : 60 ≤ d) (hN : 75 ≤ G.2.2.2.2.2) (hk1 : k1 < 6)  
    : ∀ (σ : St), wbX8_read_83 k1  post σ → Go X G 83 [(0, .ref (G.2.2.1 42))] [] σ := by
  intro σ hw
  have hw : ∀ σ_1 : St, σ_1 = sI σ 42 1 0 →
  ((¬ (gI σ_1 42 2) = 0 →
    post 0 σ_1) ∧
  ((gI σ_1 42 2) = 0 →
    post 1 σ_1)) := hw
  refine go_aload_n C 0 rfl rfl dX8_read_83 ?_
  refine go_iconst (v := 0) C rfl dX8_read_84 ?_
  refine go_puti C (shX8 G) (ltX8 hN) lpX8_35 (show 1 < 11 by decide) (pxX8_1 G _ _) dX8_read_85 (go_nm fun σ_1 eσ_1 => ?_)
  replace hw := hw σ_1 eσ_1
  refine go_aload_n C 0 rfl rfl dX8_read_88 ?_
  refine go_get (v := .int (gI σ_1 42 2)) C (shX8 G) (ltX8 hN) lkX8_15 rfl dX8_read_89 ?_
  refine go_if_ne C 99 rfl dX8_read_92 (fun hc => ?_) (fun hc => ?_)
  · replace hw := hw.1 hc
    refine go_iconst (v := 0) C rfl dX8_read_99 ?_
    exact go_zret C hr rfl ⟨_, rfl, hw⟩ dX8_read_100
  · replace hw := hw.2 hc
    refine go_iconst (v := 1) C rfl dX8_read_95 ?_
    refine go_goto C 100 rfl dX8_read_96 ?_
    exact go_zret C hr rfl ⟨_, rfl, hw⟩ dX8_read_100
set_option maxRecDepth 20000 in
set_option maxHeartbeats 4000000 in
theorem gbX8_read_48 {X : XT} {G : GT} {l : Launch} {d : Nat} {k1 : Nat} {post : Int32 → St → Prop} (C : Cx X G cX8_read RX8) (hr : Rt X G (some .boolean) (fun v τ => ∃ r : Int32, v = some (.int r) ∧ post r τ)) (hR : Rm X l d) (hnl : X.2.2.2.2.2.2.2.2.2.2.1 = 3)  (hd : 60 ≤ d) (hN : 75 ≤ G.2.2.2.2.2) (hk1 : k1 < 6)  
    : ∀ (n : Nat) (v2 : Int32) (σ : St), wbX8_read_48 k1  post n v2 σ → Go X G 48 [(0, .ref (G.2.2.1 42)), (2, .int v2)] [] σ := by
  intro n
  induction n with
  | zero => intro v2 σ hw; exact hw.elim
  | succ n ih =>
    intro v2 σ hw
    have hw : ((12 < v2 →
      wbX8_read_83 k1 post σ) ∧
    (¬ 12 < v2 →
      (((gI σ 42 8) = 37 →
        wbX8_read_83 k1 post σ) ∧
      (¬ (gI σ 42 8) = 37 →
        (((gI σ 42 8) = 39 →
          wbX8_read_83 k1 post σ) ∧
        (¬ (gI σ 42 8) = 39 →
          wpX8_clause v2 σ (fun σ_2 =>
          ∀ v2_3 : Int32, v2_3 = v2 + 1 →
          wbX8_read_48 k1 post n v2_3 σ_2))))))) := hw
    refine go_iload_n C 1 rfl rfl dX8_read_48 ?_
    refine go_bipush (v := 12) C rfl dX8_read_49 ?_
    refine go_icmp_gt C 83 rfl dX8_read_51 (fun hc => ?_) (fun hc => ?_)
    · replace hw := hw.1 hc
      refine go_sub [0] rfl ?_
      exact (gbX8_read_83 C hr hR hnl hd hN hk1) _ hw
    · replace hw := hw.2 hc
      refine go_aload_n C 0 rfl rfl dX8_read_54 ?_
      refine go_get (v := .int (gI σ 42 8)) C (shX8 G) (ltX8 hN) lkX8_52 rfl dX8_read_55 ?_
      refine go_bipush (v := 37) C rfl dX8_read_58 ?_
      refine go_icmp_eq C 83 rfl dX8_read_60 (fun hc => ?_) (fun hc => ?_)
      · replace hw := hw.1 hc
        refine go_sub [0] rfl ?_
        exact (gbX8_read_83 C hr hR hnl hd hN hk1) _ hw
      · replace hw := hw.2 hc
        refine go_aload_n C 0 rfl rfl dX8_read_63 ?_
        refine go_get (v := .int (gI σ 42 8)) C (shX8 G) (ltX8 hN) lkX8_52 rfl dX8_read_64 ?_
        refine go_bipush (v := 39) C rfl dX8_read_67 ?_
        refine go_icmp_eq C 83 rfl dX8_read_69 (fun hc => ?_) (fun hc => ?_)
        · replace hw := hw.1 hc
          refine go_sub [0] rfl ?_
          exact (gbX8_read_83 C hr hR hnl hd hN hk1) _ hw
        · replace hw := hw.2 hc
          refine go_aload_n C 0 rfl rfl dX8_read_72 ?_
          refine go_iload_n C 1 rfl rfl dX8_read_73 ?_
          refine go_callV (as := [.int v2]) C hR (shX8 G) (ltX8 hN) cwX8_55 (Nat.le_trans (by decide) hd) (by decide) rfl rfl (Nat.le_of_ble_eq_true rfl) dX8_read_74 (spX8_clause (Nat.le_refl _) hN hw) (fun v_ τ_ hw => ?_)
          obtain ⟨rfl, hw⟩ := hw
          obtain ⟨σ_2, rfl⟩ : ∃ z, z = τ_ := ⟨_, rfl⟩
          obtain ⟨v2_3, ev2_3⟩ : ∃ z : Int32, z = v2 + 1 := ⟨_, rfl⟩
          replace hw := hw v2_3 ev2_3
          refine go_iinc (v := v2_3) (lv2 := [(2, .int v2_3), (0, .ref (G.2.2.1 42))]) C 1 rfl (by rw [ev2_3]; rfl) (by rw [hnl]; decide) rfl dX8_read_77 ?_
          refine go_goto C 48 rfl dX8_read_80 ?_
          refine go_sub [1, 0] rfl ?_
          exact ih _ _ hw
set_option maxRecDepth 20000 in
set_option maxHeartbeats 4000000 in
theorem spX8_read {l : Launch} {G : GT} {d : Nat}  (hd : 60 ≤ d) {k1 : Nat} (hN : 75 ≤ G.2.2.2.2.2) (hk1 : k1 < 6)  {σ : St} {post : Int32 → St → Prop} (hw : wpX8_read k1  σ post) : Sp l G d yX8_read cX8_read 3 (some .boolean) [.ref (G.2.2.1 42), .ref (G.2.2.1 (30 + 2 * k1))] σ (fun v τ => ∃ r : Int32, v = some (.int r) ∧ post r τ) := by
  refine Sp.of (by decide) (Nat.le_of_ble_eq_true rfl) fun X C hr hR hnl => ?_
  show Go X G 0 [(0, .ref (G.2.2.1 42)), (1, .ref (G.2.2.1 (30 + 2 * k1)))] [] σ
  have hw : ∀ σ_1 : St, σ_1 = sR σ 42 9 (some (30 + 2 * k1)) →
  ∃ k_2, gR σ_1 42 9 = some (30 + 2 * k_2) ∧ k_2 < 6 ∧ (
  wpX9_clear k_2 σ_1 (fun σ_4 =>
  ∀ σ_5 : St, σ_5 = sI σ_4 42 2 0 →
  ∀ σ_6 : St, σ_6 = sI σ_5 42 3 (-1) →
  ∀ σ_7 : St, σ_7 = sI σ_6 42 10 0 →
  wpX8_cut  σ_7 (fun σ_9 =>
  ∀ σ_10 : St, σ_10 = sI σ_9 42 7 0 →
  vp_in 0 301 ∧ (
  ∀ σ_11 : St, σ_11 = sI σ_10 42 8 (gI σ_10 44 (0 : Int32).toNatClampNeg) →
  ∃ m_48, wbX8_read_48 k1 post m_48 0 σ_11)))) := hw
  refine go_aload_n C 0 rfl rfl dX8_read_0 ?_
  refine go_aload_n C 1 rfl rfl dX8_read_1 ?_
  refine go_putr C (shX8 G) (ltX8 hN) lpX8_31 (show 9 < 11 by decide) (pxX8_9 G _ _) dX8_read_2 (go_nm fun σ_1 eσ_1 => ?_)
  replace hw := hw σ_1 eσ_1
  refine go_aload_n C 0 rfl rfl dX8_read_5 ?_
  obtain ⟨k_2, gk_2, hk_2, hw⟩ := hw
  refine go_get (v := .ref (G.2.2.1 (30 + 2 * k_2))) C (shX8 G) (ltX8 hN) lkX8_31 (by show some (va_rf ((gR σ_1 42 9).map G.2.2.1)) = _; rw [gk_2]; rfl) dX8_read_6 ?_
  refine go_callV (as := []) C hR (shX9 G hk_2) (ltX9 hN hk_2) cwX8_38 (Nat.le_trans (by decide) hd) (by decide) rfl rfl (Nat.le_of_ble_eq_true rfl) dX8_read_9 (spX9_clear (Nat.le_refl _) hN hk_2 hw) (fun v_ τ_ hw => ?_)
  obtain ⟨rfl, hw⟩ := hw
  obtain ⟨σ_4, rfl⟩ : ∃ z, z = τ_ := ⟨_, rfl⟩
  refine go_aload_n C 0 rfl rfl dX8_read_12 ?_
  refine go_iconst (v := 0) C rfl dX8_read_13 ?_
  refine go_puti C (shX8 G) (ltX8 hN) lpX8_15 (show 2 < 11 by decide) (pxX8_2 G _ _) dX8_read_14 (go_nm fun σ_5 eσ_5 => ?_)
  replace hw := hw σ_5 eσ_5
  refine go_aload_n C 0 rfl rfl dX8_read_17 ?_
  refine go_iconst (v := (-1)) C rfl dX8_read_18 ?_
  refine go_puti C (shX8 G) (ltX8 hN) lpX8_19 (show 3 < 11 by decide) (pxX8_3 G _ _) dX8_read_19 (go_nm fun σ_6 eσ_6 => ?_)
  replace hw := hw σ_6 eσ_6
  refine go_aload_n C 0 rfl rfl dX8_read_22 ?_
  refine go_iconst (v := 0) C rfl dX8_read_23 ?_
  refine go_puti C (shX8 G) (ltX8 hN) lpX8_43 (show 10 < 11 by decide) (pxX8_10 G _ _) dX8_read_24 (go_nm fun σ_7 eσ_7 => ?_)
  replace hw := hw σ_7 eσ_7
  refine go_aload_n C 0 rfl rfl dX8_read_27 ?_
  refine go_callV (as := []) C hR (shX8 G) (ltX8 hN) cwX8_46 (Nat.le_trans (by decide) hd) (by decide) rfl rfl (Nat.le_of_ble_eq_true rfl) dX8_read_28 (spX8_cut (Nat.le_refl _) hN hw) (fun v_ τ_ hw => ?_)
  obtain ⟨rfl, hw⟩ := hw
  obtain ⟨σ_9, rfl⟩ : ∃ z, z = τ_ := ⟨_, rfl⟩
  refine go_aload_n C 0 rfl rfl dX8_read_31 ?_
  refine go_iconst (v := 0) C rfl dX8_read_32 ?_
  refine go_puti C (shX8 G) (ltX8 hN) lpX8_49 (show 7 < 11 by decide) (pxX8_7 G _ _) dX8_read_33 (go_nm fun σ_10 eσ_10 => ?_)
  replace hw := hw σ_10 eσ_10
  refine go_aload_n C 0 rfl rfl dX8_read_36 ?_
  refine go_aload_n C 0 rfl rfl dX8_read_37 ?_
  refine go_get (v := .ref (G.2.2.1 44)) C (shX8 G) (ltX8 hN) lkX8_22 rfl dX8_read_38 ?_
  refine go_iconst (v := 0) C rfl dX8_read_41 ?_
  refine go_iald C (saX8_kinds G) (laX8_kinds hN) hw.1 dX8_read_42 ?_
  replace hw := hw.2
  refine go_puti C (shX8 G) (ltX8 hN) lpX8_52 (show 8 < 11 by decide) (pxX8_8 G _ _) dX8_read_43 (go_nm fun σ_11 eσ_11 => ?_)
  replace hw := hw σ_11 eσ_11
  refine go_iconst (v := 0) C rfl dX8_read_46 ?_
  refine go_istore_n (lv2 := [(2, .int 0), (0, .ref (G.2.2.1 42)), (1, .ref (G.2.2.1 (30 + 2 * k1)))]) C rfl (by rw [hnl]; decide) rfl dX8_read_47 ?_
  refine go_sub [1, 0] rfl ?_
  obtain ⟨n_0, hw⟩ := hw
  exact (gbX8_read_48 C hr hR hnl hd hN hk1) n_0 _ _ hw
-- CradleNames$Trails.in(II)I
set_option maxRecDepth 20000 in
set_option maxHeartbeats 4000000 in
theorem spX10_in {l : Launch} {G : GT} {d : Nat}  (hd : 2 ≤ d)  (hN : 75 ≤ G.2.2.2.2.2)  {a1 : Int32} {a2 : Int32} {σ : St} {post : Int32 → St → Prop} (hw : wpX10_in  a1 a2 σ post) : Sp l G d yX10_in cX10_in 3 (some .int) [.ref (G.2.2.1 52), .int a1, .int a2] σ (fun v τ => ∃ r : Int32, v = some (.int r) ∧ post r τ) := by
  refine Sp.of (by decide) (Nat.le_of_ble_eq_true rfl) fun X C hr hR hnl => ?_
  show Go X G 0 [(0, .ref (G.2.2.1 52)), (1, .int a1), (2, .int a2)] [] σ
  have hw : wpX0_between 0 6 a1 a2 a2 σ (fun r_1 σ_2 =>
  post r_1 σ_2) := hw
  refine go_aload_n C 0 rfl rfl dX10_in_0 ?_
  refine go_get (v := .ref (G.2.2.1 (21 + 4 * 0))) C (shX10 G) (ltX10 hN) lkX10_41 rfl dX10_in_1 ?_
  refine go_bipush (v := 6) C rfl dX10_in_4 ?_
  refine go_iload_n C 1 rfl rfl dX10_in_6 ?_
  refine go_iload_n C 2 rfl rfl dX10_in_7 ?_
  refine go_iload_n C 2 rfl rfl dX10_in_8 ?_
  refine go_callV (as := [.int 6, .int a1, .int a2, .int a2]) C hR (shX0 G (show 0 < 2 by decide)) (ltX0 hN (show 0 < 2 by decide)) cwX10_45 (Nat.le_trans (by decide) hd) (by decide) rfl rfl (Nat.le_of_ble_eq_true rfl) dX10_in_9 (spX0_between (Nat.le_refl _) hN (show 0 < 2 by decide) hw) (fun v_ τ_ hw => ?_)
  obtain ⟨r_1, rfl, hw⟩ := hw
  obtain ⟨σ_2, rfl⟩ : ∃ z, z = τ_ := ⟨_, rfl⟩
  exact go_iret C hr ⟨_, rfl, hw⟩ dX10_in_12
-- CradleNames$Trails.livingAt(II)I
set_option maxRecDepth 20000 in
set_option maxHeartbeats 4000000 in
theorem spX10_livingAt {l : Launch} {G : GT} {d : Nat}  (hd : 2 ≤ d)  (hN : 75 ≤ G.2.2.2.2.2)  {a1 : Int32} {a2 : Int32} {σ : St} {post : Int32 → St → Prop} (hw : wpX10_livingAt  a1 a2 σ post) : Sp l G d yX10_livingAt cX10_livingAt 3 (some .int) [.ref (G.2.2.1 52), .int a1, .int a2] σ (fun v τ => ∃ r : Int32, v = some (.int r) ∧ post r τ) := by
  refine Sp.of (by decide) (Nat.le_of_ble_eq_true rfl) fun X C hr hR hnl => ?_
  show Go X G 0 [(0, .ref (G.2.2.1 52)), (1, .int a1), (2, .int a2)] [] σ
  have hw : wpX0_between 0 6 a1 ((a2 - (gI σ 9 1)) + 1) a2 σ (fun r_1 σ_2 =>
  post r_1 σ_2) := hw
  refine go_aload_n C 0 rfl rfl dX10_livingAt_0 ?_
  refine go_get (v := .ref (G.2.2.1 (21 + 4 * 0))) C (shX10 G) (ltX10 hN) lkX10_41 rfl dX10_livingAt_1 ?_
  refine go_bipush (v := 6) C rfl dX10_livingAt_4 ?_
  refine go_iload_n C 1 rfl rfl dX10_livingAt_6 ?_
  refine go_iload_n C 2 rfl rfl dX10_livingAt_7 ?_
  refine go_aload_n C 0 rfl rfl dX10_livingAt_8 ?_
  refine go_get (v := .ref (G.2.2.1 9)) C (shX10 G) (ltX10 hN) lkX10_37 rfl dX10_livingAt_9 ?_
  refine go_get (v := .int (gI σ 9 1)) C (shX4 G) (ltX4 hN) lkX10_51 rfl dX10_livingAt_12 ?_
  refine go_isub C dX10_livingAt_15 ?_
  refine go_iconst (v := 1) C rfl dX10_livingAt_16 ?_
  refine go_iadd C dX10_livingAt_17 ?_
  refine go_iload_n C 2 rfl rfl dX10_livingAt_18 ?_
  refine go_callV (as := [.int 6, .int a1, .int ((a2 - (gI σ 9 1)) + 1), .int a2]) C hR (shX0 G (show 0 < 2 by decide)) (ltX0 hN (show 0 < 2 by decide)) cwX10_45 (Nat.le_trans (by decide) hd) (by decide) rfl rfl (Nat.le_of_ble_eq_true rfl) dX10_livingAt_19 (spX0_between (Nat.le_refl _) hN (show 0 < 2 by decide) hw) (fun v_ τ_ hw => ?_)
  obtain ⟨r_1, rfl, hw⟩ := hw
  obtain ⟨σ_2, rfl⟩ : ∃ z, z = τ_ := ⟨_, rfl⟩
  exact go_iret C hr ⟨_, rfl, hw⟩ dX10_livingAt_22
-- CradleNames$Trails.peak(I)I
set_option maxRecDepth 20000 in
set_option maxHeartbeats 4000000 in
theorem gbX10_peak_7 {X : XT} {G : GT} {l : Launch} {d : Nat}  {post : Int32 → St → Prop} (C : Cx X G cX10_peak RX10) (hr : Rt X G (some .int) (fun v τ => ∃ r : Int32, v = some (.int r) ∧ post r τ)) (hR : Rm X l d) (hnl : X.2.2.2.2.2.2.2.2.2.2.1 = 6)  (hd : 3 ≤ d) (hN : 75 ≤ G.2.2.2.2.2)   
    : ∀ (n : Nat) (v1 : Int32) (v2 : Int32) (v3 : Int32) (v4 : Int32) (σ : St), wbX10_peak_7   post n v1 v2 v3 v4 σ → Go X G 7 [(0, .ref (G.2.2.1 52)), (1, .int v1), (2, .int v2), (3, .int v3), (4, .int v4)] [] σ := by
  intro n
  induction n with
  | zero => intro v1 v2 v3 v4 σ hw; exact hw.elim
  | succ n ih =>
    intro v1 v2 v3 v4 σ hw
    have hw : (((gI σ 9 0) ≤ v4 →
      post v2 σ) ∧
    (¬ (gI σ 9 0) ≤ v4 →
      wpX10_in v1 v4 σ (fun r_1 σ_2 =>
      ((r_1 ≤ v3 →
        ∀ v4_3 : Int32, v4_3 = v4 + 1 →
        wbX10_peak_7 post n v1 v2 v3 v4_3 σ_2) ∧
      (¬ r_1 ≤ v3 →
        ∀ v4_4 : Int32, v4_4 = v4 + 1 →
        wbX10_peak_7 post n v1 v4 r_1 v4_4 σ_2))))) := hw
    refine go_iload C 4 rfl dX10_peak_7 ?_
    refine go_aload_n C 0 rfl rfl dX10_peak_9 ?_
    refine go_get (v := .ref (G.2.2.1 9)) C (shX10 G) (ltX10 hN) lkX10_37 rfl dX10_peak_10 ?_
    refine go_get (v := .int (gI σ 9 0)) C (shX4 G) (ltX4 hN) lkX10_57 rfl dX10_peak_13 ?_
    refine go_icmp_ge C 46 rfl dX10_peak_16 (fun hc => ?_) (fun hc => ?_)
    · replace hw := hw.1 hc
      refine go_iload_n C 2 rfl rfl dX10_peak_46 ?_
      exact go_iret C hr ⟨_, rfl, hw⟩ dX10_peak_47
    · replace hw := hw.2 hc
      refine go_aload_n C 0 rfl rfl dX10_peak_19 ?_
      refine go_iload_n C 1 rfl rfl dX10_peak_20 ?_
      refine go_iload C 4 rfl dX10_peak_21 ?_
      refine go_callV (as := [.int v1, .int v4]) C hR (shX10 G) (ltX10 hN) cwX10_60 (Nat.le_trans (by decide) hd) (by decide) rfl rfl (Nat.le_of_ble_eq_true rfl) dX10_peak_23 (spX10_in (Nat.le_refl _) hN hw) (fun v_ τ_ hw => ?_)
      obtain ⟨r_1, rfl, hw⟩ := hw
      obtain ⟨σ_2, rfl⟩ : ∃ z, z = τ_ := ⟨_, rfl⟩
      refine go_istore (lv2 := [(5, .int r_1), (0, .ref (G.2.2.1 52)), (1, .int v1), (2, .int v2), (3, .int v3), (4, .int v4)]) C (by rw [hnl]; decide) rfl dX10_peak_26 ?_
      refine go_iload C 0 rfl dX10_peak_28 ?_
      refine go_iload_n C 4 rfl rfl dX10_peak_30 ?_
      refine go_icmp_le C 40 rfl dX10_peak_31 (fun hc => ?_) (fun hc => ?_)
      · replace hw := hw.1 hc
        obtain ⟨v4_3, ev4_3⟩ : ∃ z : Int32, z = v4 + 1 := ⟨_, rfl⟩
        replace hw := hw v4_3 ev4_3
        refine go_iinc (v := v4_3) (lv2 := [(4, .int v4_3), (5, .int r_1), (0, .ref (G.2.2.1 52)), (1, .int v1), (2, .int v2), (3, .int v3)]) C 5 rfl (by rw [ev4_3]; rfl) (by rw [hnl]; decide) rfl dX10_peak_40 ?_
        refine go_goto C 7 rfl dX10_peak_43 ?_
        refine go_sub [2, 3, 4, 5, 0] rfl ?_
        exact ih _ _ _ _ _ hw
      · replace hw := hw.2 hc
        refine go_iload C 0 rfl dX10_peak_34 ?_
        refine go_istore_n (lv2 := [(3, .int r_1), (5, .int r_1), (0, .ref (G.2.2.1 52)), (1, .int v1), (2, .int v2), (4, .int v4)]) C rfl (by rw [hnl]; decide) rfl dX10_peak_36 ?_
        refine go_iload C 5 rfl dX10_peak_37 ?_
        refine go_istore_n (lv2 := [(2, .int v4), (3, .int r_1), (5, .int r_1), (0, .ref (G.2.2.1 52)), (1, .int v1), (4, .int v4)]) C rfl (by rw [hnl]; decide) rfl dX10_peak_39 ?_
        obtain ⟨v4_4, ev4_4⟩ : ∃ z : Int32, z = v4 + 1 := ⟨_, rfl⟩
        replace hw := hw v4_4 ev4_4
        refine go_iinc (v := v4_4) (lv2 := [(4, .int v4_4), (2, .int v4), (3, .int r_1), (5, .int r_1), (0, .ref (G.2.2.1 52)), (1, .int v1)]) C 5 rfl (by rw [ev4_4]; rfl) (by rw [hnl]; decide) rfl dX10_peak_40 ?_
        refine go_goto C 7 rfl dX10_peak_43 ?_
        refine go_sub [4, 5, 1, 2, 0] rfl ?_
        exact ih _ _ _ _ _ hw
set_option maxRecDepth 20000 in
set_option maxHeartbeats 4000000 in
theorem spX10_peak {l : Launch} {G : GT} {d : Nat}  (hd : 3 ≤ d)  (hN : 75 ≤ G.2.2.2.2.2)  {a1 : Int32} {σ : St} {post : Int32 → St → Prop} (hw : wpX10_peak  a1 σ post) : Sp l G d yX10_peak cX10_peak 6 (some .int) [.ref (G.2.2.1 52), .int a1] σ (fun v τ => ∃ r : Int32, v = some (.int r) ∧ post r τ) := by
  refine Sp.of (by decide) (Nat.le_of_ble_eq_true rfl) fun X C hr hR hnl => ?_
  show Go X G 0 [(0, .ref (G.2.2.1 52)), (1, .int a1)] [] σ
  have hw : ∃ m_7, wbX10_peak_7 post m_7 a1 (-1) 0 0 σ := hw
  refine go_iconst (v := (-1)) C rfl dX10_peak_0 ?_
  refine go_istore_n (lv2 := [(2, .int (-1)), (0, .ref (G.2.2.1 52)), (1, .int a1)]) C rfl (by rw [hnl]; decide) rfl dX10_peak_1 ?_
  refine go_iconst (v := 0) C rfl dX10_peak_2 ?_
  refine go_istore_n (lv2 := [(3, .int 0), (2, .int (-1)), (0, .ref (G.2.2.1 52)), (1, .int a1)]) C rfl (by rw [hnl]; decide) rfl dX10_peak_3 ?_
  refine go_iconst (v := 0) C rfl dX10_peak_4 ?_
  refine go_istore (lv2 := [(4, .int 0), (3, .int 0), (2, .int (-1)), (0, .ref (G.2.2.1 52)), (1, .int a1)]) C (by rw [hnl]; decide) rfl dX10_peak_5 ?_
  refine go_sub [3, 4, 2, 1, 0] rfl ?_
  obtain ⟨n_0, hw⟩ := hw
  exact (gbX10_peak_7 C hr hR hnl hd hN) n_0 _ _ _ _ _ hw
-- CradleNames$Trails.slope(III)I
set_option maxRecDepth 20000 in
set_option maxHeartbeats 4000000 in
theorem gbX10_slope_11 {X : XT} {G : GT} {l : Launch} {d : Nat}  {post : Int32 → St → Prop} (C : Cx X G cX10_slope RX10) (hr : Rt X G (some .int) (fun v τ => ∃ r : Int32, v = some (.int r) ∧ post r τ)) (hR : Rm X l d) (hnl : X.2.2.2.2.2.2.2.2.2.2.1 = 7)  (hd : 3 ≤ d) (hN : 75 ≤ G.2.2.2.2.2)   
    : ∀ (n : Nat) (v1 : Int32) (v2 : Int32) (v3 : Int32) (v4 : Int32) (v5 : Int32) (σ : St), wbX10_slope_11   post n v1 v2 v3 v4 v5 σ → Go X G 11 [(0, .ref (G.2.2.1 52)), (1, .int v1), (2, .int v2), (3, .int v3), (4, .int v4), (5, .int v5)] [] σ := by
  intro n
  induction n with
  | zero => intro v1 v2 v3 v4 v5 σ hw; exact hw.elim
  | succ n ih =>
    intro v1 v2 v3 v4 v5 σ hw
    have hw : ((61 ≤ v5 →
      post 61 σ) ∧
    (¬ 61 ≤ v5 →
      ∀ v6_1 : Int32, v6_1 = (v2 + ((v5 + 1) * v3)) →
      wpX4_wentBy v6_1 σ (fun r_2 σ_3 =>
      ((r_2 = 0 →
        post v5 σ_3) ∧
      (¬ r_2 = 0 →
        wpX10_in v1 v6_1 σ_3 (fun r_4 σ_5 =>
        ((v4 ≤ (2 * r_4) →
          ∀ v5_6 : Int32, v5_6 = v5 + 1 →
          wbX10_slope_11 post n v1 v2 v3 v4 v5_6 σ_5) ∧
        (¬ v4 ≤ (2 * r_4) →
          post v5 σ_5)))))))) := hw
    refine go_iload C 5 rfl dX10_slope_11 ?_
    refine go_bipush (v := 61) C rfl dX10_slope_13 ?_
    refine go_icmp_ge C 63 rfl dX10_slope_15 (fun hc => ?_) (fun hc => ?_)
    · replace hw := hw.1 hc
      refine go_bipush (v := 61) C rfl dX10_slope_63 ?_
      exact go_iret C hr ⟨_, rfl, hw⟩ dX10_slope_65
    · replace hw := hw.2 hc
      refine go_iload_n C 2 rfl rfl dX10_slope_18 ?_
      refine go_iload C 5 rfl dX10_slope_19 ?_
      refine go_iconst (v := 1) C rfl dX10_slope_21 ?_
      refine go_iadd C dX10_slope_22 ?_
      refine go_iload_n C 3 rfl rfl dX10_slope_23 ?_
      refine go_imul C dX10_slope_24 ?_
      refine go_iadd C dX10_slope_25 ?_
      refine go_topi (fun v6_1 ev6_1 => ?_)
      replace hw := hw v6_1 ev6_1
      refine go_istore (lv2 := [(6, .int v6_1), (0, .ref (G.2.2.1 52)), (1, .int v1), (2, .int v2), (3, .int v3), (4, .int v4), (5, .int v5)]) C (by rw [hnl]; decide) rfl dX10_slope_26 ?_
      refine go_aload_n C 1 rfl rfl dX10_slope_28 ?_
      refine go_get (v := .ref (G.2.2.1 9)) C (shX10 G) (ltX10 hN) lkX10_37 rfl dX10_slope_29 ?_
      refine go_iload C 0 rfl dX10_slope_32 ?_
      refine go_callV (as := [.int v6_1]) C hR (shX4 G) (ltX4 hN) cwX10_64 (Nat.le_trans (by decide) hd) (by decide) rfl rfl (Nat.le_of_ble_eq_true rfl) dX10_slope_34 (spX4_wentBy (Nat.le_refl _) hN hw) (fun v_ τ_ hw => ?_)
      obtain ⟨r_2, rfl, hw⟩ := hw
      obtain ⟨σ_3, rfl⟩ : ∃ z, z = τ_ := ⟨_, rfl⟩
      refine go_if_eq C 54 rfl dX10_slope_37 (fun hc => ?_) (fun hc => ?_)
      · replace hw := hw.1 hc
        refine go_iload C 6 rfl dX10_slope_54 ?_
        exact go_iret C hr ⟨_, rfl, hw⟩ dX10_slope_56
      · replace hw := hw.2 hc
        refine go_iconst (v := 2) C rfl dX10_slope_40 ?_
        refine go_aload_n C 1 rfl rfl dX10_slope_41 ?_
        refine go_iload_n C 2 rfl rfl dX10_slope_42 ?_
        refine go_iload C 0 rfl dX10_slope_43 ?_
        refine go_callV (as := [.int v1, .int v6_1]) C hR (shX10 G) (ltX10 hN) cwX10_60 (Nat.le_trans (by decide) hd) (by decide) rfl rfl (Nat.le_of_ble_eq_true rfl) dX10_slope_45 (spX10_in (Nat.le_refl _) hN hw) (fun v_ τ_ hw => ?_)
        obtain ⟨r_4, rfl, hw⟩ := hw
        obtain ⟨σ_5, rfl⟩ : ∃ z, z = τ_ := ⟨_, rfl⟩
        refine go_imul C dX10_slope_48 ?_
        refine go_iload C 5 rfl dX10_slope_49 ?_
        refine go_icmp_ge C 57 rfl dX10_slope_51 (fun hc => ?_) (fun hc => ?_)
        · replace hw := hw.1 hc
          obtain ⟨v5_6, ev5_6⟩ : ∃ z : Int32, z = v5 + 1 := ⟨_, rfl⟩
          replace hw := hw v5_6 ev5_6
          refine go_iinc (v := v5_6) (lv2 := [(5, .int v5_6), (6, .int v6_1), (0, .ref (G.2.2.1 52)), (1, .int v1), (2, .int v2), (3, .int v3), (4, .int v4)]) C 6 rfl (by rw [ev5_6]; rfl) (by rw [hnl]; decide) rfl dX10_slope_57 ?_
          refine go_goto C 11 rfl dX10_slope_60 ?_
          refine go_sub [2, 3, 4, 5, 6, 0] rfl ?_
          exact ih _ _ _ _ _ _ hw
        · replace hw := hw.2 hc
          refine go_iload C 6 rfl dX10_slope_54 ?_
          exact go_iret C hr ⟨_, rfl, hw⟩ dX10_slope_56
set_option maxRecDepth 20000 in
set_option maxHeartbeats 4000000 in
theorem spX10_slope {l : Launch} {G : GT} {d : Nat}  (hd : 3 ≤ d)  (hN : 75 ≤ G.2.2.2.2.2)  {a1 : Int32} {a2 : Int32} {a3 : Int32} {σ : St} {post : Int32 → St → Prop} (hw : wpX10_slope  a1 a2 a3 σ post) : Sp l G d yX10_slope cX10_slope 7 (some .int) [.ref (G.2.2.1 52), .int a1, .int a2, .int a3] σ (fun v τ => ∃ r : Int32, v = some (.int r) ∧ post r τ) := by
  refine Sp.of (by decide) (Nat.le_of_ble_eq_true rfl) fun X C hr hR hnl => ?_
  show Go X G 0 [(0, .ref (G.2.2.1 52)), (1, .int a1), (2, .int a2), (3, .int a3)] [] σ
  have hw : wpX10_in a1 a2 σ (fun r_1 σ_2 =>
  ∃ m_11, wbX10_slope_11 post m_11 a1 a2 a3 r_1 0 σ_2) := hw
  refine go_aload_n C 0 rfl rfl dX10_slope_0 ?_
  refine go_iload_n C 1 rfl rfl dX10_slope_1 ?_
  refine go_iload_n C 2 rfl rfl dX10_slope_2 ?_
  refine go_callV (as := [.int a1, .int a2]) C hR (shX10 G) (ltX10 hN) cwX10_60 (Nat.le_trans (by decide) hd) (by decide) rfl rfl (Nat.le_of_ble_eq_true rfl) dX10_slope_3 (spX10_in (Nat.le_refl _) hN hw) (fun v_ τ_ hw => ?_)
  obtain ⟨r_1, rfl, hw⟩ := hw
  obtain ⟨σ_2, rfl⟩ : ∃ z, z = τ_ := ⟨_, rfl⟩
  refine go_istore (lv2 := [(4, .int r_1), (0, .ref (G.2.2.1 52)), (1, .int a1), (2, .int a2), (3, .int a3)]) C (by rw [hnl]; decide) rfl dX10_slope_6 ?_
  refine go_iconst (v := 0) C rfl dX10_slope_8 ?_
  refine go_istore (lv2 := [(5, .int 0), (4, .int r_1), (0, .ref (G.2.2.1 52)), (1, .int a1), (2, .int a2), (3, .int a3)]) C (by rw [hnl]; decide) rfl dX10_slope_9 ?_
  refine go_sub [2, 3, 4, 5, 1, 0] rfl ?_
  obtain ⟨n_0, hw⟩ := hw
  exact (gbX10_slope_11 C hr hR hnl hd hN) n_0 _ _ _ _ _ _ hw
-- java/lang/Integer.compare(II)I
set_option maxRecDepth 20000 in
set_option maxHeartbeats 4000000 in
theorem spJ6_compare_7cf53 {l : Launch} {G : GT} {d : Nat}  (hd : 1 ≤ d)   {a1 : Int32} {a2 : Int32} {σ : St} {post : Int32 → St → Prop} (hw : wpJ6_compare_7cf53  a1 a2 σ post) : Sp l G d yJ6_compare_7cf53 cJ6_compare_7cf53 2 (some .int) [.int a1, .int a2] σ (fun v τ => ∃ r : Int32, v = some (.int r) ∧ post r τ) := by
  refine Sp.of (by decide) (Nat.le_of_ble_eq_true rfl) fun X C hr hR hnl => ?_
  show Go X G 0 [(0, .int a1), (1, .int a2)] [] σ
  have hw : ((a2 ≤ a1 →
    ((¬ a1 = a2 →
      post 1 σ) ∧
    (a1 = a2 →
      post 0 σ))) ∧
  (¬ a2 ≤ a1 →
    post (-1) σ)) := hw
  refine go_iload_n C 0 rfl rfl dJ6_compare_7cf53_0 ?_
  refine go_iload_n C 1 rfl rfl dJ6_compare_7cf53_1 ?_
  refine go_icmp_ge C 9 rfl dJ6_compare_7cf53_2 (fun hc => ?_) (fun hc => ?_)
  · replace hw := hw.1 hc
    refine go_iload_n C 0 rfl rfl dJ6_compare_7cf53_9 ?_
    refine go_iload_n C 1 rfl rfl dJ6_compare_7cf53_10 ?_
    refine go_icmp_ne C 18 rfl dJ6_compare_7cf53_11 (fun hc => ?_) (fun hc => ?_)
    · replace hw := hw.1 hc
      refine go_iconst (v := 1) C rfl dJ6_compare_7cf53_18 ?_
      exact go_iret C hr ⟨_, rfl, hw⟩ dJ6_compare_7cf53_19
    · replace hw := hw.2 hc
      refine go_iconst (v := 0) C rfl dJ6_compare_7cf53_14 ?_
      refine go_goto C 19 rfl dJ6_compare_7cf53_15 ?_
      exact go_iret C hr ⟨_, rfl, hw⟩ dJ6_compare_7cf53_19
  · replace hw := hw.2 hc
    refine go_iconst (v := (-1)) C rfl dJ6_compare_7cf53_5 ?_
    refine go_goto C 19 rfl dJ6_compare_7cf53_6 ?_
    exact go_iret C hr ⟨_, rfl, hw⟩ dJ6_compare_7cf53_19
-- CradleNames$Trails.pairs(Z)I
set_option maxRecDepth 20000 in
set_option maxHeartbeats 4000000 in
theorem gbX10_pairs_146 {X : XT} {G : GT} {l : Launch} {d : Nat}  {post : Int32 → St → Prop} (C : Cx X G cX10_pairs RX10) (hr : Rt X G (some .int) (fun v τ => ∃ r : Int32, v = some (.int r) ∧ post r τ)) (hR : Rm X l d) (hnl : X.2.2.2.2.2.2.2.2.2.2.1 = 8)  (hd : 4 ≤ d) (hN : 75 ≤ G.2.2.2.2.2)  {K73 : Int32 → Int32 → Int32 → Int32 → Int32 → St → Prop} (hK73 : ∀ (v1 : Int32) (v2 : Int32) (v3 : Int32) (v4 : Int32) (v5 : Int32) (σ : St), K73 v1 v2 v3 v4 v5 σ → Go X G 73 [(0, .ref (G.2.2.1 52)), (1, .int v1), (2, .int v2), (3, .int v3), (4, .int v4), (5, .int v5)] [] σ)
    : ∀ (v1 : Int32) (v2 : Int32) (v3 : Int32) (v4 : Int32) (v5 : Int32) (s0 : Int32) (s1 : Int32) (σ : St), wbX10_pairs_146  K73 post v1 v2 v3 v4 v5 s0 s1 σ → Go X G 146 [(0, .ref (G.2.2.1 52)), (1, .int v1), (2, .int v2), (3, .int v3), (4, .int v4), (5, .int v5)] [.int s0, .int s1] σ := by
  intro v1 v2 v3 v4 v5 s0 s1 σ hw
  have hw : ((¬ s1 = s0 →
    ∀ v5_1 : Int32, v5_1 = v5 + 1 →
    K73 v1 v2 v3 v4 v5_1 σ) ∧
  (s1 = s0 →
    ∀ v2_2 : Int32, v2_2 = v2 + 1 →
    ∀ v5_3 : Int32, v5_3 = v5 + 1 →
    K73 v1 v2_2 v3 v4 v5_3 σ)) := hw
  refine go_icmp_ne C 152 rfl dX10_pairs_146 (fun hc => ?_) (fun hc => ?_)
  · replace hw := hw.1 hc
    obtain ⟨v5_1, ev5_1⟩ : ∃ z : Int32, z = v5 + 1 := ⟨_, rfl⟩
    replace hw := hw v5_1 ev5_1
    refine go_iinc (v := v5_1) (lv2 := [(5, .int v5_1), (0, .ref (G.2.2.1 52)), (1, .int v1), (2, .int v2), (3, .int v3), (4, .int v4)]) C 5 rfl (by rw [ev5_1]; rfl) (by rw [hnl]; decide) rfl dX10_pairs_152 ?_
    refine go_goto C 73 rfl dX10_pairs_155 ?_
    refine go_sub [1, 2, 3, 4, 5, 0] rfl ?_
    exact hK73 _ _ _ _ _ _ hw
  · replace hw := hw.2 hc
    obtain ⟨v2_2, ev2_2⟩ : ∃ z : Int32, z = v2 + 1 := ⟨_, rfl⟩
    replace hw := hw v2_2 ev2_2
    refine go_iinc (v := v2_2) (lv2 := [(2, .int v2_2), (0, .ref (G.2.2.1 52)), (1, .int v1), (3, .int v3), (4, .int v4), (5, .int v5)]) C 2 rfl (by rw [ev2_2]; rfl) (by rw [hnl]; decide) rfl dX10_pairs_149 ?_
    obtain ⟨v5_3, ev5_3⟩ : ∃ z : Int32, z = v5 + 1 := ⟨_, rfl⟩
    replace hw := hw v5_3 ev5_3
    refine go_iinc (v := v5_3) (lv2 := [(5, .int v5_3), (2, .int v2_2), (0, .ref (G.2.2.1 52)), (1, .int v1), (3, .int v3), (4, .int v4)]) C 5 rfl (by rw [ev5_3]; rfl) (by rw [hnl]; decide) rfl dX10_pairs_152 ?_
    refine go_goto C 73 rfl dX10_pairs_155 ?_
    refine go_sub [2, 3, 1, 4, 5, 0] rfl ?_
    exact hK73 _ _ _ _ _ _ hw
set_option maxRecDepth 20000 in
set_option maxHeartbeats 4000000 in
theorem gbX10_pairs_73 {X : XT} {G : GT} {l : Launch} {d : Nat}  {post : Int32 → St → Prop} (C : Cx X G cX10_pairs RX10) (hr : Rt X G (some .int) (fun v τ => ∃ r : Int32, v = some (.int r) ∧ post r τ)) (hR : Rm X l d) (hnl : X.2.2.2.2.2.2.2.2.2.2.1 = 8)  (hd : 4 ≤ d) (hN : 75 ≤ G.2.2.2.2.2)  {K4 : Int32 → Int32 → Int32 → St → Prop} (hK4 : ∀ (v1 : Int32) (v2 : Int32) (v3 : Int32) (σ : St), K4 v1 v2 v3 σ → Go X G 4 [(0, .ref (G.2.2.1 52)), (1, .int v1), (2, .int v2), (3, .int v3)] [] σ)
    : ∀ (n : Nat) (v1 : Int32) (v2 : Int32) (v3 : Int32) (v4 : Int32) (v5 : Int32) (σ : St), wbX10_pairs_73  K4 post n v1 v2 v3 v4 v5 σ → Go X G 73 [(0, .ref (G.2.2.1 52)), (1, .int v1), (2, .int v2), (3, .int v3), (4, .int v4), (5, .int v5)] [] σ := by
  intro n
  induction n with
  | zero => intro v1 v2 v3 v4 v5 σ hw; exact hw.elim
  | succ n ih =>
    intro v1 v2 v3 v4 v5 σ hw
    have hw : ((v3 ≤ v5 →
      ∀ v3_1 : Int32, v3_1 = v3 + 1 →
      K4 v1 v2 v3_1 σ) ∧
    (¬ v3 ≤ v5 →
      ((v4 = (-1) →
        ∀ v3_2 : Int32, v3_2 = v3 + 1 →
        K4 v1 v2 v3_2 σ) ∧
      (¬ v4 = (-1) →
        vp_in v3 16 ∧ (
        vp_in v5 16 ∧ (
        wpJ6_compare_7cf53 (gI σ 53 v3.toNatClampNeg) (gI σ 53 v5.toNatClampNeg) σ (fun r_3 σ_4 =>
        vp_in v3 16 ∧ (
        vp_in v5 16 ∧ (
        wpJ6_compare_7cf53 (gI σ_4 54 v3.toNatClampNeg) (gI σ_4 54 v5.toNatClampNeg) σ_4 (fun r_5 σ_6 =>
        vp_in v5 16 ∧ (
        (((gI σ_6 53 v5.toNatClampNeg) = (-1) →
          ∀ v5_7 : Int32, v5_7 = v5 + 1 →
          wbX10_pairs_73 K4 post n v1 v2 v3 v4 v5_7 σ_6) ∧
        (¬ (gI σ_6 53 v5.toNatClampNeg) = (-1) →
          ((v1 = 0 →
            wbX10_pairs_146 (wbX10_pairs_73 K4 post n) post v1 v2 v3 v4 v5 (-1) (r_3 * r_5) σ_6) ∧
          (¬ v1 = 0 →
            wbX10_pairs_146 (wbX10_pairs_73 K4 post n) post v1 v2 v3 v4 v5 1 (r_3 * r_5) σ_6))))))))))))))) := hw
    refine go_iload C 5 rfl dX10_pairs_73 ?_
    refine go_iload_n C 3 rfl rfl dX10_pairs_75 ?_
    refine go_icmp_ge C 158 rfl dX10_pairs_76 (fun hc => ?_) (fun hc => ?_)
    · replace hw := hw.1 hc
      obtain ⟨v3_1, ev3_1⟩ : ∃ z : Int32, z = v3 + 1 := ⟨_, rfl⟩
      replace hw := hw v3_1 ev3_1
      refine go_iinc (v := v3_1) (lv2 := [(3, .int v3_1), (0, .ref (G.2.2.1 52)), (1, .int v1), (2, .int v2), (4, .int v4), (5, .int v5)]) C 3 rfl (by rw [ev3_1]; rfl) (by rw [hnl]; decide) rfl dX10_pairs_158 ?_
      refine go_goto C 4 rfl dX10_pairs_161 ?_
      refine go_sub [1, 2, 3, 0] rfl ?_
      exact hK4 _ _ _ _ hw
    · replace hw := hw.2 hc
      refine go_iload C 4 rfl dX10_pairs_79 ?_
      refine go_iconst (v := (-1)) C rfl dX10_pairs_81 ?_
      refine go_icmp_eq C 158 rfl dX10_pairs_82 (fun hc => ?_) (fun hc => ?_)
      · replace hw := hw.1 hc
        obtain ⟨v3_2, ev3_2⟩ : ∃ z : Int32, z = v3 + 1 := ⟨_, rfl⟩
        replace hw := hw v3_2 ev3_2
        refine go_iinc (v := v3_2) (lv2 := [(3, .int v3_2), (0, .ref (G.2.2.1 52)), (1, .int v1), (2, .int v2), (4, .int v4), (5, .int v5)]) C 3 rfl (by rw [ev3_2]; rfl) (by rw [hnl]; decide) rfl dX10_pairs_158 ?_
        refine go_goto C 4 rfl dX10_pairs_161 ?_
        refine go_sub [1, 2, 3, 0] rfl ?_
        exact hK4 _ _ _ _ hw
      · replace hw := hw.2 hc
        refine go_aload_n C 0 rfl rfl dX10_pairs_85 ?_
        refine go_get (v := .ref (G.2.2.1 53)) C (shX10 G) (ltX10 hN) lkX10_9 rfl dX10_pairs_86 ?_
        refine go_iload_n C 3 rfl rfl dX10_pairs_89 ?_
        refine go_iald C (saX10_rises G) (laX10_rises hN) hw.1 dX10_pairs_90 ?_
        replace hw := hw.2
        refine go_aload_n C 0 rfl rfl dX10_pairs_91 ?_
        refine go_get (v := .ref (G.2.2.1 53)) C (shX10 G) (ltX10 hN) lkX10_9 rfl dX10_pairs_92 ?_
        refine go_iload C 5 rfl dX10_pairs_95 ?_
        refine go_iald C (saX10_rises G) (laX10_rises hN) hw.1 dX10_pairs_97 ?_
        replace hw := hw.2
        refine go_callS (as := [.int (gI σ 53 v3.toNatClampNeg), .int (gI σ 53 v5.toNatClampNeg)]) C hR cwX10_81 (Nat.le_trans (by decide) hd) (by decide) rfl rfl (Nat.le_of_ble_eq_true rfl) dX10_pairs_98 (spJ6_compare_7cf53 (Nat.le_refl _) hw) (fun v_ τ_ hw => ?_)
        obtain ⟨r_3, rfl, hw⟩ := hw
        obtain ⟨σ_4, rfl⟩ : ∃ z, z = τ_ := ⟨_, rfl⟩
        refine go_istore (lv2 := [(6, .int r_3), (0, .ref (G.2.2.1 52)), (1, .int v1), (2, .int v2), (3, .int v3), (4, .int v4), (5, .int v5)]) C (by rw [hnl]; decide) rfl dX10_pairs_101 ?_
        refine go_aload_n C 1 rfl rfl dX10_pairs_103 ?_
        refine go_get (v := .ref (G.2.2.1 54)) C (shX10 G) (ltX10 hN) lkX10_15 rfl dX10_pairs_104 ?_
        refine go_iload_n C 4 rfl rfl dX10_pairs_107 ?_
        refine go_iald C (saX10_falls G) (laX10_falls hN) hw.1 dX10_pairs_108 ?_
        replace hw := hw.2
        refine go_aload_n C 1 rfl rfl dX10_pairs_109 ?_
        refine go_get (v := .ref (G.2.2.1 54)) C (shX10 G) (ltX10 hN) lkX10_15 rfl dX10_pairs_110 ?_
        refine go_iload C 6 rfl dX10_pairs_113 ?_
        refine go_iald C (saX10_falls G) (laX10_falls hN) hw.1 dX10_pairs_115 ?_
        replace hw := hw.2
        refine go_callS (as := [.int (gI σ_4 54 v3.toNatClampNeg), .int (gI σ_4 54 v5.toNatClampNeg)]) C hR cwX10_81 (Nat.le_trans (by decide) hd) (by decide) rfl rfl (Nat.le_of_ble_eq_true rfl) dX10_pairs_116 (spJ6_compare_7cf53 (Nat.le_refl _) hw) (fun v_ τ_ hw => ?_)
        obtain ⟨r_5, rfl, hw⟩ := hw
        obtain ⟨σ_6, rfl⟩ : ∃ z, z = τ_ := ⟨_, rfl⟩
        refine go_istore (lv2 := [(7, .int r_5), (6, .int r_3), (0, .ref (G.2.2.1 52)), (1, .int v1), (2, .int v2), (3, .int v3), (4, .int v4), (5, .int v5)]) C (by rw [hnl]; decide) rfl dX10_pairs_119 ?_
        refine go_aload_n C 2 rfl rfl dX10_pairs_121 ?_
        refine go_get (v := .ref (G.2.2.1 53)) C (shX10 G) (ltX10 hN) lkX10_9 rfl dX10_pairs_122 ?_
        refine go_iload C 7 rfl dX10_pairs_125 ?_
        refine go_iald C (saX10_rises G) (laX10_rises hN) hw.1 dX10_pairs_127 ?_
        replace hw := hw.2
        refine go_iconst (v := (-1)) C rfl dX10_pairs_128 ?_
        refine go_icmp_eq C 152 rfl dX10_pairs_129 (fun hc => ?_) (fun hc => ?_)
        · replace hw := hw.1 hc
          obtain ⟨v5_7, ev5_7⟩ : ∃ z : Int32, z = v5 + 1 := ⟨_, rfl⟩
          replace hw := hw v5_7 ev5_7
          refine go_iinc (v := v5_7) (lv2 := [(5, .int v5_7), (7, .int r_5), (6, .int r_3), (0, .ref (G.2.2.1 52)), (1, .int v1), (2, .int v2), (3, .int v3), (4, .int v4)]) C 7 rfl (by rw [ev5_7]; rfl) (by rw [hnl]; decide) rfl dX10_pairs_152 ?_
          refine go_goto C 73 rfl dX10_pairs_155 ?_
          refine go_sub [3, 4, 5, 6, 7, 0] rfl ?_
          exact ih _ _ _ _ _ _ hw
        · replace hw := hw.2 hc
          refine go_iload C 1 rfl dX10_pairs_132 ?_
          refine go_iload C 0 rfl dX10_pairs_134 ?_
          refine go_imul C dX10_pairs_136 ?_
          refine go_iload_n C 3 rfl rfl dX10_pairs_137 ?_
          refine go_if_eq C 145 rfl dX10_pairs_138 (fun hc => ?_) (fun hc => ?_)
          · replace hw := hw.1 hc
            refine go_iconst (v := (-1)) C rfl dX10_pairs_145 ?_
            refine go_sub [2, 3, 4, 5, 6, 7] rfl ?_
            exact (gbX10_pairs_146 C hr hR hnl hd hN ih) _ _ _ _ _ _ _ _ hw
          · replace hw := hw.2 hc
            refine go_iconst (v := 1) C rfl dX10_pairs_141 ?_
            refine go_goto C 146 rfl dX10_pairs_142 ?_
            refine go_sub [2, 3, 4, 5, 6, 7] rfl ?_
            exact (gbX10_pairs_146 C hr hR hnl hd hN ih) _ _ _ _ _ _ _ _ hw
set_option maxRecDepth 20000 in
set_option maxHeartbeats 4000000 in
theorem gbX10_pairs_45 {X : XT} {G : GT} {l : Launch} {d : Nat}  {post : Int32 → St → Prop} (C : Cx X G cX10_pairs RX10) (hr : Rt X G (some .int) (fun v τ => ∃ r : Int32, v = some (.int r) ∧ post r τ)) (hR : Rm X l d) (hnl : X.2.2.2.2.2.2.2.2.2.2.1 = 8)  (hd : 4 ≤ d) (hN : 75 ≤ G.2.2.2.2.2)  {K4 : Int32 → Int32 → Int32 → St → Prop} (hK4 : ∀ (v1 : Int32) (v2 : Int32) (v3 : Int32) (σ : St), K4 v1 v2 v3 σ → Go X G 4 [(0, .ref (G.2.2.1 52)), (1, .int v1), (2, .int v2), (3, .int v3)] [] σ)
    : ∀ (v1 : Int32) (v2 : Int32) (v3 : Int32) (v4 : Int32) (s0 : Int32) (s1 : Int32) (σ : St), wbX10_pairs_45  K4 post v1 v2 v3 v4 s0 s1 σ → Go X G 45 [(0, .ref (G.2.2.1 52)), (1, .int v1), (2, .int v2), (3, .int v3), (4, .int v4)] [.int s0, .int s1, .ref (G.2.2.1 53)] σ := by
  intro v1 v2 v3 v4 s0 s1 σ hw
  have hw : vp_in s1 16 ∧ (
  ∀ σ_1 : St, σ_1 = sI σ 53 s1.toNatClampNeg s0 →
  ((¬ v4 = (-1) →
    wpX10_slope v3 v4 1 σ_1 (fun r_2 σ_3 =>
    vp_in v3 16 ∧ (
    ∀ σ_4 : St, σ_4 = sI σ_3 54 v3.toNatClampNeg r_2 →
    ∃ m_73, wbX10_pairs_73 K4 post m_73 v1 v2 v3 v4 0 σ_4))) ∧
  (v4 = (-1) →
    vp_in v3 16 ∧ (
    ∀ σ_5 : St, σ_5 = sI σ_1 54 v3.toNatClampNeg (-1) →
    ∃ m_73, wbX10_pairs_73 K4 post m_73 v1 v2 v3 v4 0 σ_5)))) := hw
  refine go_iast C (saX10_rises G) (laX10_rises hN) hw.1 dX10_pairs_45 (go_nm fun σ_1 eσ_1 => ?_)
  replace hw := hw.2 σ_1 eσ_1
  refine go_aload_n C 0 rfl rfl dX10_pairs_46 ?_
  refine go_get (v := .ref (G.2.2.1 54)) C (shX10 G) (ltX10 hN) lkX10_15 rfl dX10_pairs_47 ?_
  refine go_iload_n C 3 rfl rfl dX10_pairs_50 ?_
  refine go_iload C 4 rfl dX10_pairs_51 ?_
  refine go_iconst (v := (-1)) C rfl dX10_pairs_53 ?_
  refine go_icmp_ne C 61 rfl dX10_pairs_54 (fun hc => ?_) (fun hc => ?_)
  · replace hw := hw.1 hc
    refine go_aload_n C 0 rfl rfl dX10_pairs_61 ?_
    refine go_iload_n C 3 rfl rfl dX10_pairs_62 ?_
    refine go_iload C 4 rfl dX10_pairs_63 ?_
    refine go_iconst (v := 1) C rfl dX10_pairs_65 ?_
    refine go_callV (as := [.int v3, .int v4, .int 1]) C hR (shX10 G) (ltX10 hN) cwX10_77 (Nat.le_trans (by decide) hd) (by decide) rfl rfl (Nat.le_of_ble_eq_true rfl) dX10_pairs_66 (spX10_slope (Nat.le_refl _) hN hw) (fun v_ τ_ hw => ?_)
    obtain ⟨r_2, rfl, hw⟩ := hw
    obtain ⟨σ_3, rfl⟩ : ∃ z, z = τ_ := ⟨_, rfl⟩
    refine go_iast C (saX10_falls G) (laX10_falls hN) hw.1 dX10_pairs_69 (go_nm fun σ_4 eσ_4 => ?_)
    replace hw := hw.2 σ_4 eσ_4
    refine go_iconst (v := 0) C rfl dX10_pairs_70 ?_
    refine go_istore (lv2 := [(5, .int 0), (0, .ref (G.2.2.1 52)), (1, .int v1), (2, .int v2), (3, .int v3), (4, .int v4)]) C (by rw [hnl]; decide) rfl dX10_pairs_71 ?_
    refine go_sub [1, 2, 3, 4, 5, 0] rfl ?_
    obtain ⟨n_0, hw⟩ := hw
    exact (gbX10_pairs_73 C hr hR hnl hd hN hK4) n_0 _ _ _ _ _ _ hw
  · replace hw := hw.2 hc
    refine go_iconst (v := (-1)) C rfl dX10_pairs_57 ?_
    refine go_goto C 69 rfl dX10_pairs_58 ?_
    refine go_iast C (saX10_falls G) (laX10_falls hN) hw.1 dX10_pairs_69 (go_nm fun σ_5 eσ_5 => ?_)
    replace hw := hw.2 σ_5 eσ_5
    refine go_iconst (v := 0) C rfl dX10_pairs_70 ?_
    refine go_istore (lv2 := [(5, .int 0), (0, .ref (G.2.2.1 52)), (1, .int v1), (2, .int v2), (3, .int v3), (4, .int v4)]) C (by rw [hnl]; decide) rfl dX10_pairs_71 ?_
    refine go_sub [1, 2, 3, 4, 5, 0] rfl ?_
    obtain ⟨n_0, hw⟩ := hw
    exact (gbX10_pairs_73 C hr hR hnl hd hN hK4) n_0 _ _ _ _ _ _ hw
set_option maxRecDepth 20000 in
set_option maxHeartbeats 4000000 in
theorem gbX10_pairs_4 {X : XT} {G : GT} {l : Launch} {d : Nat}  {post : Int32 → St → Prop} (C : Cx X G cX10_pairs RX10) (hr : Rt X G (some .int) (fun v τ => ∃ r : Int32, v = some (.int r) ∧ post r τ)) (hR : Rm X l d) (hnl : X.2.2.2.2.2.2.2.2.2.2.1 = 8)  (hd : 4 ≤ d) (hN : 75 ≤ G.2.2.2.2.2)   
    : ∀ (n : Nat) (v1 : Int32) (v2 : Int32) (v3 : Int32) (σ : St), wbX10_pairs_4   post n v1 v2 v3 σ → Go X G 4 [(0, .ref (G.2.2.1 52)), (1, .int v1), (2, .int v2), (3, .int v3)] [] σ := by
  intro n
  induction n with
  | zero => intro v1 v2 v3 σ hw; exact hw.elim
  | succ n ih =>
    intro v1 v2 v3 σ hw
    have hw : (((gI σ 1 0) ≤ v3 →
      post v2 σ) ∧
    (¬ (gI σ 1 0) ≤ v3 →
      wpX10_peak v3 σ (fun r_1 σ_2 =>
      ((¬ r_1 = (-1) →
        wpX10_slope v3 r_1 (-1) σ_2 (fun r_3 σ_4 =>
        wbX10_pairs_45 (wbX10_pairs_4 post n) post v1 v2 v3 r_1 r_3 v3 σ_4)) ∧
      (r_1 = (-1) →
        wbX10_pairs_45 (wbX10_pairs_4 post n) post v1 v2 v3 r_1 (-1) v3 σ_2))))) := hw
    refine go_iload_n C 3 rfl rfl dX10_pairs_4 ?_
    refine go_aload_n C 0 rfl rfl dX10_pairs_5 ?_
    refine go_get (v := .ref (G.2.2.1 1)) C (shX10 G) (ltX10 hN) lkX10_33 rfl dX10_pairs_6 ?_
    refine go_get (v := .int (gI σ 1 0)) C (shX5 G) (ltX5 hN) lkX10_68 rfl dX10_pairs_9 ?_
    refine go_icmp_ge C 164 rfl dX10_pairs_12 (fun hc => ?_) (fun hc => ?_)
    · replace hw := hw.1 hc
      refine go_iload_n C 2 rfl rfl dX10_pairs_164 ?_
      exact go_iret C hr ⟨_, rfl, hw⟩ dX10_pairs_165
    · replace hw := hw.2 hc
      refine go_aload_n C 0 rfl rfl dX10_pairs_15 ?_
      refine go_iload_n C 3 rfl rfl dX10_pairs_16 ?_
      refine go_callV (as := [.int v3]) C hR (shX10 G) (ltX10 hN) cwX10_73 (Nat.le_trans (by decide) hd) (by decide) rfl rfl (Nat.le_of_ble_eq_true rfl) dX10_pairs_17 (spX10_peak (Nat.le_refl _) hN hw) (fun v_ τ_ hw => ?_)
      obtain ⟨r_1, rfl, hw⟩ := hw
      obtain ⟨σ_2, rfl⟩ : ∃ z, z = τ_ := ⟨_, rfl⟩
      refine go_istore (lv2 := [(4, .int r_1), (0, .ref (G.2.2.1 52)), (1, .int v1), (2, .int v2), (3, .int v3)]) C (by rw [hnl]; decide) rfl dX10_pairs_20 ?_
      refine go_aload_n C 1 rfl rfl dX10_pairs_22 ?_
      refine go_get (v := .ref (G.2.2.1 53)) C (shX10 G) (ltX10 hN) lkX10_9 rfl dX10_pairs_23 ?_
      refine go_iload_n C 4 rfl rfl dX10_pairs_26 ?_
      refine go_iload C 0 rfl dX10_pairs_27 ?_
      refine go_iconst (v := (-1)) C rfl dX10_pairs_29 ?_
      refine go_icmp_ne C 37 rfl dX10_pairs_30 (fun hc => ?_) (fun hc => ?_)
      · replace hw := hw.1 hc
        refine go_aload_n C 1 rfl rfl dX10_pairs_37 ?_
        refine go_iload_n C 4 rfl rfl dX10_pairs_38 ?_
        refine go_iload C 0 rfl dX10_pairs_39 ?_
        refine go_iconst (v := (-1)) C rfl dX10_pairs_41 ?_
        refine go_callV (as := [.int v3, .int r_1, .int (-1)]) C hR (shX10 G) (ltX10 hN) cwX10_77 (Nat.le_trans (by decide) hd) (by decide) rfl rfl (Nat.le_of_ble_eq_true rfl) dX10_pairs_42 (spX10_slope (Nat.le_refl _) hN hw) (fun v_ τ_ hw => ?_)
        obtain ⟨r_3, rfl, hw⟩ := hw
        obtain ⟨σ_4, rfl⟩ : ∃ z, z = τ_ := ⟨_, rfl⟩
        refine go_sub [1, 2, 3, 4, 0] rfl ?_
        exact (gbX10_pairs_45 C hr hR hnl hd hN ih) _ _ _ _ _ _ _ hw
      · replace hw := hw.2 hc
        refine go_iconst (v := (-1)) C rfl dX10_pairs_33 ?_
        refine go_goto C 45 rfl dX10_pairs_34 ?_
        refine go_sub [1, 2, 3, 4, 0] rfl ?_
        exact (gbX10_pairs_45 C hr hR hnl hd hN ih) _ _ _ _ _ _ _ hw
set_option maxRecDepth 20000 in
set_option maxHeartbeats 4000000 in
theorem spX10_pairs {l : Launch} {G : GT} {d : Nat}  (hd : 4 ≤ d)  (hN : 75 ≤ G.2.2.2.2.2)  {a1 : Int32} {σ : St} {post : Int32 → St → Prop} (hw : wpX10_pairs  a1 σ post) : Sp l G d yX10_pairs cX10_pairs 8 (some .int) [.ref (G.2.2.1 52), .int a1] σ (fun v τ => ∃ r : Int32, v = some (.int r) ∧ post r τ) := by
  refine Sp.of (by decide) (Nat.le_of_ble_eq_true rfl) fun X C hr hR hnl => ?_
  show Go X G 0 [(0, .ref (G.2.2.1 52)), (1, .int a1)] [] σ
  have hw : ∃ m_4, wbX10_pairs_4 post m_4 a1 0 0 σ := hw
  refine go_iconst (v := 0) C rfl dX10_pairs_0 ?_
  refine go_istore_n (lv2 := [(2, .int 0), (0, .ref (G.2.2.1 52)), (1, .int a1)]) C rfl (by rw [hnl]; decide) rfl dX10_pairs_1 ?_
  refine go_iconst (v := 0) C rfl dX10_pairs_2 ?_
  refine go_istore_n (lv2 := [(3, .int 0), (2, .int 0), (0, .ref (G.2.2.1 52)), (1, .int a1)]) C rfl (by rw [hnl]; decide) rfl dX10_pairs_3 ?_
  refine go_sub [2, 3, 1, 0] rfl ?_
  obtain ⟨n_0, hw⟩ := hw
  exact (gbX10_pairs_4 C hr hR hnl hd hN) n_0 _ _ _ _ hw
