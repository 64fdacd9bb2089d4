-- CradleNames$Reader.either()V
def wbX8_either_77  (K4 : Int32 → Int32 → St → Prop) (post : St → Prop) (v1 : Int32) (v2 : Int32) (σ : St) : Prop :=
  ((v1 = 0 →
    ∀ v2_1 : Int32, v2_1 = v2 + 1 →
    K4 1 v2_1 σ) ∧
  (¬ v1 = 0 →
    ∃ k_2, gR σ 42 9 = some (30 + 2 * k_2) ∧ k_2 < 6 ∧ (
    wpX9_put k_2 17 σ (fun σ_4 =>
    ∀ v2_5 : Int32, v2_5 = v2 + 1 →
    K4 1 v2_5 σ_4))))
def wbX8_either_38  (K4 : Int32 → Int32 → St → Prop) (post : St → Prop) : Nat → Int32 → Int32 → Int32 → St → Prop
  | 0, _, _, _, _ => False
  | n + 1, v1, v2, v3, σ =>
    ((300 ≤ v3 →
      wbX8_either_77 K4 post v1 v2 σ) ∧
    (¬ 300 ≤ v3 →
      ((¬ (gI σ 42 8) = 18 →
        wbX8_either_77 K4 post v1 v2 σ) ∧
      ((gI σ 42 8) = 18 →
        wpX8_advance  σ (fun σ_2 =>
        wpX8_ask  σ_2 (fun σ_4 =>
        ∃ k_5, gR σ_4 42 9 = some (30 + 2 * k_5) ∧ k_5 < 6 ∧ (
        wpX9_put k_5 18 σ_4 (fun σ_7 =>
        ∀ v3_8 : Int32, v3_8 = v3 + 1 →
        wbX8_either_38 K4 post n v1 v2 v3_8 σ_7))))))))
def wbX8_either_32  (K4 : Int32 → Int32 → St → Prop) (post : St → Prop) (v1 : Int32) (v2 : Int32) (σ : St) : Prop :=
  wpX8_ask  σ (fun σ_2 =>
  ∃ n, wbX8_either_38 K4 post n v1 v2 0 σ_2)
def wbX8_either_24  (K4 : Int32 → Int32 → St → Prop) (post : St → Prop) (v1 : Int32) (v2 : Int32) (σ : St) : Prop :=
  ((v1 = 0 →
    wbX8_either_32 K4 post v1 v2 σ) ∧
  (¬ v1 = 0 →
    wpX8_advance  σ (fun σ_2 =>
    wbX8_either_32 K4 post v1 v2 σ_2)))
def wbX8_either_4   (post : St → Prop) : Nat → Int32 → Int32 → St → Prop
  | 0, _, _, _ => False
  | n + 1, v1, v2, σ =>
    ((300 ≤ v2 →
      post σ) ∧
    (¬ 300 ≤ v2 →
      ((v2 = 0 →
        wbX8_either_24 (wbX8_either_4 post n) post v1 v2 σ) ∧
      (¬ v2 = 0 →
        ((¬ (gI σ 42 8) = 17 →
          post σ) ∧
        ((gI σ 42 8) = 17 →
          wbX8_either_24 (wbX8_either_4 post n) post v1 v2 σ))))))
def wpX8_either   (σ : St) (post : St → Prop) : Prop :=
  ∃ n, wbX8_either_4 post n 0 0 σ
set_option maxRecDepth 20000 in
set_option maxHeartbeats 4000000 in
theorem gbX8_either_77 {X : XT} {G : GT} {l : Launch} {d : Nat}  {post : St → Prop} (C : Cx X G cX8_either RX8) (hr : Rt X G none (fun v τ => v = none ∧ post τ)) (hR : Rm X l d) (hnl : X.2.2.2.2.2.2.2.2.2.2.1 = 4)  (hd : 58 ≤ d)  {K4 : Int32 → Int32 → St → Prop} (hK4 : ∀ (v1 : Int32) (v2 : Int32) (σ : St), K4 v1 v2 σ → Go X G 4 [(0, .ref (G.2.2.1 42)), (1, .int v1), (2, .int v2)] [] σ)
    : ∀ (v1 : Int32) (v2 : Int32) (σ : St), wbX8_either_77  K4 post v1 v2 σ → Go X G 77 [(0, .ref (G.2.2.1 42)), (1, .int v1), (2, .int v2)] [] σ := by
  intro v1 v2 σ hw
  have hw : ((v1 = 0 →
    ∀ v2_1 : Int32, v2_1 = v2 + 1 →
    K4 1 v2_1 σ) ∧
  (¬ v1 = 0 →
    ∃ k_2, gR σ 42 9 = some (30 + 2 * k_2) ∧ k_2 < 6 ∧ (
    wpX9_put k_2 17 σ (fun σ_4 =>
    ∀ v2_5 : Int32, v2_5 = v2 + 1 →
    K4 1 v2_5 σ_4)))) := hw
  refine go_iload_n C 1 rfl rfl dX8_either_77 ?_
  refine go_if_eq C 90 rfl dX8_either_78 (fun hc => ?_) (fun hc => ?_)
  · replace hw := hw.1 hc
    refine go_iconst (v := 1) C rfl dX8_either_90 ?_
    refine go_istore_n (lv2 := [(1, .int 1), (0, .ref (G.2.2.1 42)), (2, .int v2)]) C rfl (by rw [hnl]; decide) rfl dX8_either_91 ?_
    obtain ⟨v2_1, ev2_1⟩ : ∃ z : Int32, z = v2 + 1 := ⟨_, rfl⟩
    replace hw := hw v2_1 ev2_1
    refine go_iinc (v := v2_1) (lv2 := [(2, .int v2_1), (1, .int 1), (0, .ref (G.2.2.1 42))]) C 2 rfl (by rw [ev2_1]; rfl) (by rw [hnl]; decide) rfl dX8_either_92 ?_
    refine go_goto C 4 rfl dX8_either_95 ?_
    refine go_sub [2, 1, 0] rfl ?_
    exact hK4 _ _ _ hw
  · replace hw := hw.2 hc
    refine go_aload_n C 0 rfl rfl dX8_either_81 ?_
    obtain ⟨k_2, gk_2, hk_2, hw⟩ := hw
    refine go_get (v := .ref (G.2.2.1 (30 + 2 * k_2))) C (shX8 G) ltX8 lkX8_34 (by show some (va_rf ((gR σ 42 9).map G.2.2.1)) = _; rw [gk_2]; rfl) dX8_either_82 ?_
    refine go_bipush (v := 17) C rfl dX8_either_85 ?_
    refine go_callV (as := [.int 17]) C hR (shX9 G hk_2) (ltX9 hk_2) cwX8_101 (Nat.le_trans (by decide) hd) (by decide) rfl rfl (by decide) dX8_either_87 (spX9_put (Nat.le_refl _) hk_2 hw) (fun v_ τ_ hw => ?_)
    obtain ⟨rfl, hw⟩ := hw
    obtain ⟨σ_4, rfl⟩ : ∃ z, z = τ_ := ⟨_, rfl⟩
    refine go_iconst (v := 1) C rfl dX8_either_90 ?_
    refine go_istore_n (lv2 := [(1, .int 1), (0, .ref (G.2.2.1 42)), (2, .int v2)]) C rfl (by rw [hnl]; decide) rfl dX8_either_91 ?_
    obtain ⟨v2_5, ev2_5⟩ : ∃ z : Int32, z = v2 + 1 := ⟨_, rfl⟩
    replace hw := hw v2_5 ev2_5
    refine go_iinc (v := v2_5) (lv2 := [(2, .int v2_5), (1, .int 1), (0, .ref (G.2.2.1 42))]) C 2 rfl (by rw [ev2_5]; rfl) (by rw [hnl]; decide) rfl dX8_either_92 ?_
    refine go_goto C 4 rfl dX8_either_95 ?_
    refine go_sub [2, 1, 0] rfl ?_
    exact hK4 _ _ _ hw
set_option maxRecDepth 20000 in
set_option maxHeartbeats 4000000 in
theorem gbX8_either_38 {X : XT} {G : GT} {l : Launch} {d : Nat}  {post : St → Prop} (C : Cx X G cX8_either RX8) (hr : Rt X G none (fun v τ => v = none ∧ post τ)) (hR : Rm X l d) (hnl : X.2.2.2.2.2.2.2.2.2.2.1 = 4)  (hd : 58 ≤ d)  {K4 : Int32 → Int32 → St → Prop} (hK4 : ∀ (v1 : Int32) (v2 : Int32) (σ : St), K4 v1 v2 σ → Go X G 4 [(0, .ref (G.2.2.1 42)), (1, .int v1), (2, .int v2)] [] σ)
    : ∀ (n : Nat) (v1 : Int32) (v2 : Int32) (v3 : Int32) (σ : St), wbX8_either_38  K4 post n v1 v2 v3 σ → Go X G 38 [(0, .ref (G.2.2.1 42)), (1, .int v1), (2, .int v2), (3, .int v3)] [] σ := by
  intro n
  induction n with
  | zero => intro v1 v2 v3 σ hw; exact hw.elim
  | succ n ih =>
    intro v1 v2 v3 σ hw
    have hw : ((300 ≤ v3 →
      wbX8_either_77 K4 post v1 v2 σ) ∧
    (¬ 300 ≤ v3 →
      ((¬ (gI σ 42 8) = 18 →
        wbX8_either_77 K4 post v1 v2 σ) ∧
      ((gI σ 42 8) = 18 →
        wpX8_advance  σ (fun σ_2 =>
        wpX8_ask  σ_2 (fun σ_4 =>
        ∃ k_5, gR σ_4 42 9 = some (30 + 2 * k_5) ∧ k_5 < 6 ∧ (
        wpX9_put k_5 18 σ_4 (fun σ_7 =>
        ∀ v3_8 : Int32, v3_8 = v3 + 1 →
        wbX8_either_38 K4 post n v1 v2 v3_8 σ_7)))))))) := hw
    refine go_iload_n C 3 rfl rfl dX8_either_38 ?_
    refine go_sipush (v := 300) C rfl dX8_either_39 ?_
    refine go_icmp_ge C 77 rfl dX8_either_42 (fun hc => ?_) (fun hc => ?_)
    · replace hw := hw.1 hc
      refine go_sub [0, 1, 2] rfl ?_
      exact (gbX8_either_77 C hr hR hnl hd hK4) _ _ _ hw
    · replace hw := hw.2 hc
      refine go_aload_n C 0 rfl rfl dX8_either_45 ?_
      refine go_get (v := .int (gI σ 42 8)) C (shX8 G) ltX8 lkX8_52 rfl dX8_either_46 ?_
      refine go_bipush (v := 18) C rfl dX8_either_49 ?_
      refine go_icmp_ne C 77 rfl dX8_either_51 (fun hc => ?_) (fun hc => ?_)
      · replace hw := hw.1 hc
        refine go_sub [0, 1, 2] rfl ?_
        exact (gbX8_either_77 C hr hR hnl hd hK4) _ _ _ hw
      · replace hw := hw.2 hc
        refine go_aload_n C 0 rfl rfl dX8_either_54 ?_
        refine go_callV (as := []) C hR (shX8 G) ltX8 cwX8_92 (Nat.le_trans (by decide) hd) (by decide) rfl rfl (by decide) dX8_either_55 (spX8_advance (Nat.le_refl _) hw) (fun v_ τ_ hw => ?_)
        obtain ⟨rfl, hw⟩ := hw
        obtain ⟨σ_2, rfl⟩ : ∃ z, z = τ_ := ⟨_, rfl⟩
        refine go_aload_n C 0 rfl rfl dX8_either_58 ?_
        refine go_callV (as := []) C hR (shX8 G) ltX8 cwX8_119 (Nat.le_trans (by decide) hd) (by decide) rfl rfl (by decide) dX8_either_59 (spX8_ask (Nat.le_refl _) hw) (fun v_ τ_ hw => ?_)
        obtain ⟨rfl, hw⟩ := hw
        obtain ⟨σ_4, rfl⟩ : ∃ z, z = τ_ := ⟨_, rfl⟩
        refine go_aload_n C 0 rfl rfl dX8_either_62 ?_
        obtain ⟨k_5, gk_5, hk_5, hw⟩ := hw
        refine go_get (v := .ref (G.2.2.1 (30 + 2 * k_5))) C (shX8 G) ltX8 lkX8_34 (by show some (va_rf ((gR σ_4 42 9).map G.2.2.1)) = _; rw [gk_5]; rfl) dX8_either_63 ?_
        refine go_bipush (v := 18) C rfl dX8_either_66 ?_
        refine go_callV (as := [.int 18]) C hR (shX9 G hk_5) (ltX9 hk_5) cwX8_101 (Nat.le_trans (by decide) hd) (by decide) rfl rfl (by decide) dX8_either_68 (spX9_put (Nat.le_refl _) hk_5 hw) (fun v_ τ_ hw => ?_)
        obtain ⟨rfl, hw⟩ := hw
        obtain ⟨σ_7, rfl⟩ : ∃ z, z = τ_ := ⟨_, rfl⟩
        obtain ⟨v3_8, ev3_8⟩ : ∃ z : Int32, z = v3 + 1 := ⟨_, rfl⟩
        replace hw := hw v3_8 ev3_8
        refine go_iinc (v := v3_8) (lv2 := [(3, .int v3_8), (0, .ref (G.2.2.1 42)), (1, .int v1), (2, .int v2)]) C 3 rfl (by rw [ev3_8]; rfl) (by rw [hnl]; decide) rfl dX8_either_71 ?_
        refine go_goto C 38 rfl dX8_either_74 ?_
        refine go_sub [1, 2, 3, 0] rfl ?_
        exact ih _ _ _ _ hw
set_option maxRecDepth 20000 in
set_option maxHeartbeats 4000000 in
theorem gbX8_either_32 {X : XT} {G : GT} {l : Launch} {d : Nat}  {post : St → Prop} (C : Cx X G cX8_either RX8) (hr : Rt X G none (fun v τ => v = none ∧ post τ)) (hR : Rm X l d) (hnl : X.2.2.2.2.2.2.2.2.2.2.1 = 4)  (hd : 58 ≤ d)  {K4 : Int32 → Int32 → St → Prop} (hK4 : ∀ (v1 : Int32) (v2 : Int32) (σ : St), K4 v1 v2 σ → Go X G 4 [(0, .ref (G.2.2.1 42)), (1, .int v1), (2, .int v2)] [] σ)
    : ∀ (v1 : Int32) (v2 : Int32) (σ : St), wbX8_either_32  K4 post v1 v2 σ → Go X G 32 [(0, .ref (G.2.2.1 42)), (1, .int v1), (2, .int v2)] [] σ := by
  intro v1 v2 σ hw
  have hw : wpX8_ask  σ (fun σ_2 =>
  ∃ n, wbX8_either_38 K4 post n v1 v2 0 σ_2) := hw
  refine go_aload_n C 0 rfl rfl dX8_either_32 ?_
  refine go_callV (as := []) C hR (shX8 G) ltX8 cwX8_119 (Nat.le_trans (by decide) hd) (by decide) rfl rfl (by decide) dX8_either_33 (spX8_ask (Nat.le_refl _) hw) (fun v_ τ_ hw => ?_)
  obtain ⟨rfl, hw⟩ := hw
  obtain ⟨σ_2, rfl⟩ : ∃ z, z = τ_ := ⟨_, rfl⟩
  refine go_iconst (v := 0) C rfl dX8_either_36 ?_
  refine go_istore_n (lv2 := [(3, .int 0), (0, .ref (G.2.2.1 42)), (1, .int v1), (2, .int v2)]) C rfl (by rw [hnl]; decide) rfl dX8_either_37 ?_
  refine go_sub [1, 2, 3, 0] rfl ?_
  obtain ⟨n_0, hw⟩ := hw
  exact (gbX8_either_38 C hr hR hnl hd hK4) n_0 _ _ _ _ hw
set_option maxRecDepth 20000 in
set_option maxHeartbeats 4000000 in
theorem gbX8_either_24 {X : XT} {G : GT} {l : Launch} {d : Nat}  {post : St → Prop} (C : Cx X G cX8_either RX8) (hr : Rt X G none (fun v τ => v = none ∧ post τ)) (hR : Rm X l d) (hnl : X.2.2.2.2.2.2.2.2.2.2.1 = 4)  (hd : 58 ≤ d)  {K4 : Int32 → Int32 → St → Prop} (hK4 : ∀ (v1 : Int32) (v2 : Int32) (σ : St), K4 v1 v2 σ → Go X G 4 [(0, .ref (G.2.2.1 42)), (1, .int v1), (2, .int v2)] [] σ)
    : ∀ (v1 : Int32) (v2 : Int32) (σ : St), wbX8_either_24  K4 post v1 v2 σ → Go X G 24 [(0, .ref (G.2.2.1 42)), (1, .int v1), (2, .int v2)] [] σ := by
  intro v1 v2 σ hw
  have hw : ((v1 = 0 →
    wbX8_either_32 K4 post v1 v2 σ) ∧
  (¬ v1 = 0 →
    wpX8_advance  σ (fun σ_2 =>
    wbX8_either_32 K4 post v1 v2 σ_2))) := hw
  refine go_iload_n C 1 rfl rfl dX8_either_24 ?_
  refine go_if_eq C 32 rfl dX8_either_25 (fun hc => ?_) (fun hc => ?_)
  · replace hw := hw.1 hc
    exact (gbX8_either_32 C hr hR hnl hd hK4) _ _ _ hw
  · replace hw := hw.2 hc
    refine go_aload_n C 0 rfl rfl dX8_either_28 ?_
    refine go_callV (as := []) C hR (shX8 G) ltX8 cwX8_92 (Nat.le_trans (by decide) hd) (by decide) rfl rfl (by decide) dX8_either_29 (spX8_advance (Nat.le_refl _) hw) (fun v_ τ_ hw => ?_)
    obtain ⟨rfl, hw⟩ := hw
    obtain ⟨σ_2, rfl⟩ : ∃ z, z = τ_ := ⟨_, rfl⟩
    exact (gbX8_either_32 C hr hR hnl hd hK4) _ _ _ hw
set_option maxRecDepth 20000 in
set_option maxHeartbeats 4000000 in
theorem gbX8_either_4 {X : XT} {G : GT} {l : Launch} {d : Nat}  {post : St → Prop} (C : Cx X G cX8_either RX8) (hr : Rt X G none (fun v τ => v = none ∧ post τ)) (hR : Rm X l d) (hnl : X.2.2.2.2.2.2.2.2.2.2.1 = 4)  (hd : 58 ≤ d)   
    : ∀ (n : Nat) (v1 : Int32) (v2 : Int32) (σ : St), wbX8_either_4   post n v1 v2 σ → Go X G 4 [(0, .ref (G.2.2.1 42)), (1, .int v1), (2, .int v2)] [] σ := by
  intro n
  induction n with
  | zero => intro v1 v2 σ hw; exact hw.elim
  | succ n ih =>
    intro v1 v2 σ hw
    have hw : ((300 ≤ v2 →
      post σ) ∧
    (¬ 300 ≤ v2 →
      ((v2 = 0 →
        wbX8_either_24 (wbX8_either_4 post n) post v1 v2 σ) ∧
      (¬ v2 = 0 →
        ((¬ (gI σ 42 8) = 17 →
          post σ) ∧
        ((gI σ 42 8) = 17 →
          wbX8_either_24 (wbX8_either_4 post n) post v1 v2 σ)))))) := hw
    refine go_iload_n C 2 rfl rfl dX8_either_4 ?_
    refine go_sipush (v := 300) C rfl dX8_either_5 ?_
    refine go_icmp_ge C 98 rfl dX8_either_8 (fun hc => ?_) (fun hc => ?_)
    · replace hw := hw.1 hc
      exact go_vret C hr hw dX8_either_98
    · replace hw := hw.2 hc
      refine go_iload_n C 2 rfl rfl dX8_either_11 ?_
      refine go_if_eq C 24 rfl dX8_either_12 (fun hc => ?_) (fun hc => ?_)
      · replace hw := hw.1 hc
        exact (gbX8_either_24 C hr hR hnl hd ih) _ _ _ hw
      · replace hw := hw.2 hc
        refine go_aload_n C 0 rfl rfl dX8_either_15 ?_
        refine go_get (v := .int (gI σ 42 8)) C (shX8 G) ltX8 lkX8_52 rfl dX8_either_16 ?_
        refine go_bipush (v := 17) C rfl dX8_either_19 ?_
        refine go_icmp_ne C 98 rfl dX8_either_21 (fun hc => ?_) (fun hc => ?_)
        · replace hw := hw.1 hc
          exact go_vret C hr hw dX8_either_98
        · replace hw := hw.2 hc
          exact (gbX8_either_24 C hr hR hnl hd ih) _ _ _ hw
set_option maxRecDepth 20000 in
set_option maxHeartbeats 4000000 in
theorem spX8_either {l : Launch} {G : GT} {d : Nat}  (hd : 58 ≤ d)    {σ : St} {post : St → Prop} (hw : wpX8_either   σ post) : Sp l G d yX8_either cX8_either 4 none [.ref (G.2.2.1 42)] σ (fun v τ => v = none ∧ post τ) := by
  refine Sp.of (by decide) (by decide) fun X C hr hR hnl => ?_
  show Go X G 0 [(0, .ref (G.2.2.1 42))] [] σ
  have hw : ∃ n, wbX8_either_4 post n 0 0 σ := hw
  refine go_iconst (v := 0) C rfl dX8_either_0 ?_
  refine go_istore_n (lv2 := [(1, .int 0), (0, .ref (G.2.2.1 42))]) C rfl (by rw [hnl]; decide) rfl dX8_either_1 ?_
  refine go_iconst (v := 0) C rfl dX8_either_2 ?_
  refine go_istore_n (lv2 := [(2, .int 0), (1, .int 0), (0, .ref (G.2.2.1 42))]) C rfl (by rw [hnl]; decide) rfl dX8_either_3 ?_
  refine go_sub [2, 1, 0] rfl ?_
  obtain ⟨n_0, hw⟩ := hw
  exact (gbX8_either_4 C hr hR hnl hd) n_0 _ _ _ hw
-- CradleNames$Reader.clause(I)V
def wbX8_clause_151   (post : St → Prop)  (σ : St) : Prop :=
  wpX8_expect 35 σ (fun σ_2 =>
  post σ_2)
def wbX8_clause_93   (post : St → Prop) (v2 : Int32) (s0 : Int32) (s1 : Int32) (σ : St) : Prop :=
  ∀ σ_1 : St, σ_1 = sI σ 42 10 (s1 ||| s0) →
  wpX8_advance  σ_1 (fun σ_3 =>
  ((¬ v2 = 14 →
    ((¬ v2 = 15 →
      wpX8_window v2 σ_3 (fun σ_5 =>
      wbX8_clause_151 post σ_5)) ∧
    (v2 = 15 →
      wpX8_either  σ_3 (fun σ_7 =>
      ∃ k_8, gR σ_7 42 9 = some (30 + 2 * k_8) ∧ k_8 < 6 ∧ (
      wpX9_put k_8 15 σ_7 (fun σ_10 =>
      wbX8_clause_151 post σ_10)))))) ∧
  (v2 = 14 →
    wpX8_sum (wrX8_around 12) 0 σ_3 (fun σ_12 =>
    ∃ k_13, gR σ_12 42 9 = some (30 + 2 * k_13) ∧ k_13 < 6 ∧ (
    wpX9_put k_13 14 σ_12 (fun σ_15 =>
    wbX8_clause_151 post σ_15))))))
def wbX8_clause_35  (K66 : Int32 → St → Prop) (post : St → Prop) (v1 : Int32) (v2 : Int32) (σ : St) : Prop :=
  ((¬ (((gI σ 42 10) >>> (v2 &&& 31)) &&& 1) = 1 →
    ((v1 < 12 →
      K66 v2 σ) ∧
    (¬ v1 < 12 →
      wpX8_fail 5 σ (fun σ_2 =>
      K66 v2 σ_2)))) ∧
  ((((gI σ 42 10) >>> (v2 &&& 31)) &&& 1) = 1 →
    wpX8_fail 4 σ (fun σ_4 =>
    K66 v2 σ_4)))
def wbX8_clause_66   (post : St → Prop) (v2 : Int32) (σ : St) : Prop :=
  ((v2 = 15 →
    wbX8_clause_93 post v2 0 (gI σ 42 10) σ) ∧
  (¬ v2 = 15 →
    ((¬ (gI σ 42 8) = 39 →
      wbX8_clause_93 post v2 (1 <<< (v2 &&& 31)) (gI σ 42 10) σ) ∧
    ((gI σ 42 8) = 39 →
      wbX8_clause_93 post v2 0 (gI σ 42 10) σ))))
def wpX8_clause  (a1 : Int32) (σ : St) (post : St → Prop) : Prop :=
  ∀ v2_1 : Int32, v2_1 = (gI σ 42 8) →
  ((v2_1 = 14 →
    wbX8_clause_35 (wbX8_clause_66 post) post a1 v2_1 σ) ∧
  (¬ v2_1 = 14 →
    ((v2_1 = 15 →
      wbX8_clause_35 (wbX8_clause_66 post) post a1 v2_1 σ) ∧
    (¬ v2_1 = 15 →
      ((v2_1 = 0 →
        wbX8_clause_35 (wbX8_clause_66 post) post a1 v2_1 σ) ∧
      (¬ v2_1 = 0 →
        ((v2_1 = 16 →
          wbX8_clause_35 (wbX8_clause_66 post) post a1 v2_1 σ) ∧
        (¬ v2_1 = 16 →
          wpX8_fail 1 σ (fun σ_3 =>
          wbX8_clause_66 post v2_1 σ_3)))))))))
set_option maxRecDepth 20000 in
set_option maxHeartbeats 4000000 in
theorem gbX8_clause_151 {X : XT} {G : GT} {l : Launch} {d : Nat}  {post : St → Prop} (C : Cx X G cX8_clause RX8) (hr : Rt X G none (fun v τ => v = none ∧ post τ)) (hR : Rm X l d) (hnl : X.2.2.2.2.2.2.2.2.2.2.1 = 3)  (hd : 59 ≤ d)   
    : ∀ (σ : St), wbX8_clause_151   post σ → Go X G 151 [(0, .ref (G.2.2.1 42))] [] σ := by
  intro σ hw
  have hw : wpX8_expect 35 σ (fun σ_2 =>
  post σ_2) := hw
  refine go_aload_n C 0 rfl rfl dX8_clause_151 ?_
  refine go_bipush (v := 35) C rfl dX8_clause_152 ?_
  refine go_callV (as := [.int 35]) C hR (shX8 G) ltX8 cwX8_110 (Nat.le_trans (by decide) hd) (by decide) rfl rfl (by decide) dX8_clause_154 (spX8_expect (Nat.le_refl _) hw) (fun v_ τ_ hw => ?_)
  obtain ⟨rfl, hw⟩ := hw
  obtain ⟨σ_2, rfl⟩ : ∃ z, z = τ_ := ⟨_, rfl⟩
  exact go_vret C hr hw dX8_clause_157
set_option maxRecDepth 20000 in
set_option maxHeartbeats 4000000 in
theorem gbX8_clause_93 {X : XT} {G : GT} {l : Launch} {d : Nat}  {post : St → Prop} (C : Cx X G cX8_clause RX8) (hr : Rt X G none (fun v τ => v = none ∧ post τ)) (hR : Rm X l d) (hnl : X.2.2.2.2.2.2.2.2.2.2.1 = 3)  (hd : 59 ≤ d)   
    : ∀ (v2 : Int32) (s0 : Int32) (s1 : Int32) (σ : St), wbX8_clause_93   post v2 s0 s1 σ → Go X G 93 [(0, .ref (G.2.2.1 42)), (2, .int v2)] [.int s0, .int s1, .ref (G.2.2.1 42)] σ := by
  intro v2 s0 s1 σ hw
  have hw : ∀ σ_1 : St, σ_1 = sI σ 42 10 (s1 ||| s0) →
  wpX8_advance  σ_1 (fun σ_3 =>
  ((¬ v2 = 14 →
    ((¬ v2 = 15 →
      wpX8_window v2 σ_3 (fun σ_5 =>
      wbX8_clause_151 post σ_5)) ∧
    (v2 = 15 →
      wpX8_either  σ_3 (fun σ_7 =>
      ∃ k_8, gR σ_7 42 9 = some (30 + 2 * k_8) ∧ k_8 < 6 ∧ (
      wpX9_put k_8 15 σ_7 (fun σ_10 =>
      wbX8_clause_151 post σ_10)))))) ∧
  (v2 = 14 →
    wpX8_sum (wrX8_around 12) 0 σ_3 (fun σ_12 =>
    ∃ k_13, gR σ_12 42 9 = some (30 + 2 * k_13) ∧ k_13 < 6 ∧ (
    wpX9_put k_13 14 σ_12 (fun σ_15 =>
    wbX8_clause_151 post σ_15)))))) := hw
  refine go_ior C dX8_clause_93 ?_
  refine go_puti C (shX8 G) ltX8 lpX8_43 (show 10 < 11 by decide) (pxX8_10 G _ _) dX8_clause_94 (go_nm fun σ_1 eσ_1 => ?_)
  replace hw := hw σ_1 eσ_1
  refine go_aload_n C 0 rfl rfl dX8_clause_97 ?_
  refine go_callV (as := []) C hR (shX8 G) ltX8 cwX8_92 (Nat.le_trans (by decide) hd) (by decide) rfl rfl (by decide) dX8_clause_98 (spX8_advance (Nat.le_refl _) hw) (fun v_ τ_ hw => ?_)
  obtain ⟨rfl, hw⟩ := hw
  obtain ⟨σ_3, rfl⟩ : ∃ z, z = τ_ := ⟨_, rfl⟩
  refine go_iload_n C 1 rfl rfl dX8_clause_101 ?_
  refine go_bipush (v := 14) C rfl dX8_clause_102 ?_
  refine go_icmp_ne C 124 rfl dX8_clause_104 (fun hc => ?_) (fun hc => ?_)
  · replace hw := hw.1 hc
    refine go_iload_n C 1 rfl rfl dX8_clause_124 ?_
    refine go_bipush (v := 15) C rfl dX8_clause_125 ?_
    refine go_icmp_ne C 146 rfl dX8_clause_127 (fun hc => ?_) (fun hc => ?_)
    · replace hw := hw.1 hc
      refine go_aload_n C 0 rfl rfl dX8_clause_146 ?_
      refine go_iload_n C 1 rfl rfl dX8_clause_147 ?_
      refine go_callV (as := [.int v2]) C hR (shX8 G) ltX8 cwX8_107 (Nat.le_trans (by decide) hd) (by decide) rfl rfl (by decide) dX8_clause_148 (spX8_window (Nat.le_refl _) hw) (fun v_ τ_ hw => ?_)
      obtain ⟨rfl, hw⟩ := hw
      obtain ⟨σ_5, rfl⟩ : ∃ z, z = τ_ := ⟨_, rfl⟩
      refine go_sub [0] rfl ?_
      exact (gbX8_clause_151 C hr hR hnl hd) _ hw
    · replace hw := hw.2 hc
      refine go_aload_n C 0 rfl rfl dX8_clause_130 ?_
      refine go_callV (as := []) C hR (shX8 G) ltX8 cwX8_104 (Nat.le_trans (by decide) hd) (by decide) rfl rfl (by decide) dX8_clause_131 (spX8_either (Nat.le_refl _) hw) (fun v_ τ_ hw => ?_)
      obtain ⟨rfl, hw⟩ := hw
      obtain ⟨σ_7, rfl⟩ : ∃ z, z = τ_ := ⟨_, rfl⟩
      refine go_aload_n C 0 rfl rfl dX8_clause_134 ?_
      obtain ⟨k_8, gk_8, hk_8, hw⟩ := hw
      refine go_get (v := .ref (G.2.2.1 (30 + 2 * k_8))) C (shX8 G) ltX8 lkX8_34 (by show some (va_rf ((gR σ_7 42 9).map G.2.2.1)) = _; rw [gk_8]; rfl) dX8_clause_135 ?_
      refine go_bipush (v := 15) C rfl dX8_clause_138 ?_
      refine go_callV (as := [.int 15]) C hR (shX9 G hk_8) (ltX9 hk_8) cwX8_101 (Nat.le_trans (by decide) hd) (by decide) rfl rfl (by decide) dX8_clause_140 (spX9_put (Nat.le_refl _) hk_8 hw) (fun v_ τ_ hw => ?_)
      obtain ⟨rfl, hw⟩ := hw
      obtain ⟨σ_10, rfl⟩ : ∃ z, z = τ_ := ⟨_, rfl⟩
      refine go_goto C 151 rfl dX8_clause_143 ?_
      refine go_sub [0] rfl ?_
      exact (gbX8_clause_151 C hr hR hnl hd) _ hw
  · replace hw := hw.2 hc
    refine go_aload_n C 0 rfl rfl dX8_clause_107 ?_
    refine go_iconst (v := 0) C rfl dX8_clause_108 ?_
    refine go_callV (as := [.int 0]) C hR (shX8 G) ltX8 cwX8_98 (Nat.le_trans (by decide) hd) (by decide) rfl rfl (by decide) dX8_clause_109 (spX8_sum (dF := 53) (by decide) (srX8_around 12) (Nat.le_refl _) hw) (fun v_ τ_ hw => ?_)
    obtain ⟨rfl, hw⟩ := hw
    obtain ⟨σ_12, rfl⟩ : ∃ z, z = τ_ := ⟨_, rfl⟩
    refine go_aload_n C 0 rfl rfl dX8_clause_112 ?_
    obtain ⟨k_13, gk_13, hk_13, hw⟩ := hw
    refine go_get (v := .ref (G.2.2.1 (30 + 2 * k_13))) C (shX8 G) ltX8 lkX8_34 (by show some (va_rf ((gR σ_12 42 9).map G.2.2.1)) = _; rw [gk_13]; rfl) dX8_clause_113 ?_
    refine go_bipush (v := 14) C rfl dX8_clause_116 ?_
    refine go_callV (as := [.int 14]) C hR (shX9 G hk_13) (ltX9 hk_13) cwX8_101 (Nat.le_trans (by decide) hd) (by decide) rfl rfl (by decide) dX8_clause_118 (spX9_put (Nat.le_refl _) hk_13 hw) (fun v_ τ_ hw => ?_)
    obtain ⟨rfl, hw⟩ := hw
    obtain ⟨σ_15, rfl⟩ : ∃ z, z = τ_ := ⟨_, rfl⟩
    refine go_goto C 151 rfl dX8_clause_121 ?_
    refine go_sub [0] rfl ?_
    exact (gbX8_clause_151 C hr hR hnl hd) _ hw
set_option maxRecDepth 20000 in
set_option maxHeartbeats 4000000 in
theorem gbX8_clause_35 {X : XT} {G : GT} {l : Launch} {d : Nat}  {post : St → Prop} (C : Cx X G cX8_clause RX8) (hr : Rt X G none (fun v τ => v = none ∧ post τ)) (hR : Rm X l d) (hnl : X.2.2.2.2.2.2.2.2.2.2.1 = 3)  (hd : 59 ≤ d)  {K66 : Int32 → St → Prop} (hK66 : ∀ (v2 : Int32) (σ : St), K66 v2 σ → Go X G 66 [(0, .ref (G.2.2.1 42)), (2, .int v2)] [] σ)
    : ∀ (v1 : Int32) (v2 : Int32) (σ : St), wbX8_clause_35  K66 post v1 v2 σ → Go X G 35 [(0, .ref (G.2.2.1 42)), (1, .int v1), (2, .int v2)] [] σ := by
  intro v1 v2 σ hw
  have hw : ((¬ (((gI σ 42 10) >>> (v2 &&& 31)) &&& 1) = 1 →
    ((v1 < 12 →
      K66 v2 σ) ∧
    (¬ v1 < 12 →
      wpX8_fail 5 σ (fun σ_2 =>
      K66 v2 σ_2)))) ∧
  ((((gI σ 42 10) >>> (v2 &&& 31)) &&& 1) = 1 →
    wpX8_fail 4 σ (fun σ_4 =>
    K66 v2 σ_4))) := hw
  refine go_aload_n C 0 rfl rfl dX8_clause_35 ?_
  refine go_get (v := .int (gI σ 42 10)) C (shX8 G) ltX8 lkX8_43 rfl dX8_clause_36 ?_
  refine go_iload_n C 2 rfl rfl dX8_clause_39 ?_
  refine go_ishr C dX8_clause_40 ?_
  refine go_iconst (v := 1) C rfl dX8_clause_41 ?_
  refine go_iand C dX8_clause_42 ?_
  refine go_iconst (v := 1) C rfl dX8_clause_43 ?_
  refine go_icmp_ne C 55 rfl dX8_clause_44 (fun hc => ?_) (fun hc => ?_)
  · replace hw := hw.1 hc
    refine go_iload_n C 1 rfl rfl dX8_clause_55 ?_
    refine go_bipush (v := 12) C rfl dX8_clause_56 ?_
    refine go_icmp_lt C 66 rfl dX8_clause_58 (fun hc => ?_) (fun hc => ?_)
    · replace hw := hw.1 hc
      refine go_sub [0, 2] rfl ?_
      exact hK66 _ _ hw
    · replace hw := hw.2 hc
      refine go_aload_n C 0 rfl rfl dX8_clause_61 ?_
      refine go_iconst (v := 5) C rfl dX8_clause_62 ?_
      refine go_callV (as := [.int 5]) C hR (shX8 G) ltX8 cwX8_95 (Nat.le_trans (by decide) hd) (by decide) rfl rfl (by decide) dX8_clause_63 (spX8_fail (Nat.le_refl _) hw) (fun v_ τ_ hw => ?_)
      obtain ⟨rfl, hw⟩ := hw
      obtain ⟨σ_2, rfl⟩ : ∃ z, z = τ_ := ⟨_, rfl⟩
      refine go_sub [0, 2] rfl ?_
      exact hK66 _ _ hw
  · replace hw := hw.2 hc
    refine go_aload_n C 0 rfl rfl dX8_clause_47 ?_
    refine go_iconst (v := 4) C rfl dX8_clause_48 ?_
    refine go_callV (as := [.int 4]) C hR (shX8 G) ltX8 cwX8_95 (Nat.le_trans (by decide) hd) (by decide) rfl rfl (by decide) dX8_clause_49 (spX8_fail (Nat.le_refl _) hw) (fun v_ τ_ hw => ?_)
    obtain ⟨rfl, hw⟩ := hw
    obtain ⟨σ_4, rfl⟩ : ∃ z, z = τ_ := ⟨_, rfl⟩
    refine go_goto C 66 rfl dX8_clause_52 ?_
    refine go_sub [0, 2] rfl ?_
    exact hK66 _ _ hw
set_option maxRecDepth 20000 in
set_option maxHeartbeats 4000000 in
theorem gbX8_clause_66 {X : XT} {G : GT} {l : Launch} {d : Nat}  {post : St → Prop} (C : Cx X G cX8_clause RX8) (hr : Rt X G none (fun v τ => v = none ∧ post τ)) (hR : Rm X l d) (hnl : X.2.2.2.2.2.2.2.2.2.2.1 = 3)  (hd : 59 ≤ d)   
    : ∀ (v2 : Int32) (σ : St), wbX8_clause_66   post v2 σ → Go X G 66 [(0, .ref (G.2.2.1 42)), (2, .int v2)] [] σ := by
  intro v2 σ hw
  have hw : ((v2 = 15 →
    wbX8_clause_93 post v2 0 (gI σ 42 10) σ) ∧
  (¬ v2 = 15 →
    ((¬ (gI σ 42 8) = 39 →
      wbX8_clause_93 post v2 (1 <<< (v2 &&& 31)) (gI σ 42 10) σ) ∧
    ((gI σ 42 8) = 39 →
      wbX8_clause_93 post v2 0 (gI σ 42 10) σ)))) := hw
  refine go_aload_n C 0 rfl rfl dX8_clause_66 ?_
  refine go_dup C rfl dX8_clause_67 ?_
  refine go_get (v := .int (gI σ 42 10)) C (shX8 G) ltX8 lkX8_43 rfl dX8_clause_68 ?_
  refine go_iload_n C 1 rfl rfl dX8_clause_71 ?_
  refine go_bipush (v := 15) C rfl dX8_clause_72 ?_
  refine go_icmp_eq C 86 rfl dX8_clause_74 (fun hc => ?_) (fun hc => ?_)
  · replace hw := hw.1 hc
    refine go_iconst (v := 0) C rfl dX8_clause_86 ?_
    refine go_goto C 93 rfl dX8_clause_87 ?_
    exact (gbX8_clause_93 C hr hR hnl hd) _ _ _ _ hw
  · replace hw := hw.2 hc
    refine go_aload_n C 0 rfl rfl dX8_clause_77 ?_
    refine go_get (v := .int (gI σ 42 8)) C (shX8 G) ltX8 lkX8_52 rfl dX8_clause_78 ?_
    refine go_bipush (v := 39) C rfl dX8_clause_81 ?_
    refine go_icmp_ne C 90 rfl dX8_clause_83 (fun hc => ?_) (fun hc => ?_)
    · replace hw := hw.1 hc
      refine go_iconst (v := 1) C rfl dX8_clause_90 ?_
      refine go_iload_n C 1 rfl rfl dX8_clause_91 ?_
      refine go_ishl C dX8_clause_92 ?_
      exact (gbX8_clause_93 C hr hR hnl hd) _ _ _ _ hw
    · replace hw := hw.2 hc
      refine go_iconst (v := 0) C rfl dX8_clause_86 ?_
      refine go_goto C 93 rfl dX8_clause_87 ?_
      exact (gbX8_clause_93 C hr hR hnl hd) _ _ _ _ hw
set_option maxRecDepth 20000 in
set_option maxHeartbeats 4000000 in
theorem spX8_clause {l : Launch} {G : GT} {d : Nat}  (hd : 59 ≤ d)   {a1 : Int32} {σ : St} {post : St → Prop} (hw : wpX8_clause  a1 σ post) : Sp l G d yX8_clause cX8_clause 3 none [.ref (G.2.2.1 42), .int a1] σ (fun v τ => v = none ∧ post τ) := by
  refine Sp.of (by decide) (by decide) fun X C hr hR hnl => ?_
  show Go X G 0 [(0, .ref (G.2.2.1 42)), (1, .int a1)] [] σ
  have hw : ∀ v2_1 : Int32, v2_1 = (gI σ 42 8) →
  ((v2_1 = 14 →
    wbX8_clause_35 (wbX8_clause_66 post) post a1 v2_1 σ) ∧
  (¬ v2_1 = 14 →
    ((v2_1 = 15 →
      wbX8_clause_35 (wbX8_clause_66 post) post a1 v2_1 σ) ∧
    (¬ v2_1 = 15 →
      ((v2_1 = 0 →
        wbX8_clause_35 (wbX8_clause_66 post) post a1 v2_1 σ) ∧
      (¬ v2_1 = 0 →
        ((v2_1 = 16 →
          wbX8_clause_35 (wbX8_clause_66 post) post a1 v2_1 σ) ∧
        (¬ v2_1 = 16 →
          wpX8_fail 1 σ (fun σ_3 =>
          wbX8_clause_66 post v2_1 σ_3))))))))) := hw
  refine go_aload_n C 0 rfl rfl dX8_clause_0 ?_
  refine go_get (v := .int (gI σ 42 8)) C (shX8 G) ltX8 lkX8_52 rfl dX8_clause_1 ?_
  refine go_topi (fun v2_1 ev2_1 => ?_)
  replace hw := hw v2_1 ev2_1
  refine go_istore_n (lv2 := [(2, .int v2_1), (0, .ref (G.2.2.1 42)), (1, .int a1)]) C rfl (by rw [hnl]; decide) rfl dX8_clause_4 ?_
  refine go_iload_n C 0 rfl rfl dX8_clause_5 ?_
  refine go_bipush (v := 14) C rfl dX8_clause_6 ?_
  refine go_icmp_eq C 35 rfl dX8_clause_8 (fun hc => ?_) (fun hc => ?_)
  · replace hw := hw.1 hc
    refine go_sub [1, 2, 0] rfl ?_
    exact (gbX8_clause_35 C hr hR hnl hd (gbX8_clause_66 C hr hR hnl hd)) _ _ _ hw
  · replace hw := hw.2 hc
    refine go_iload_n C 0 rfl rfl dX8_clause_11 ?_
    refine go_bipush (v := 15) C rfl dX8_clause_12 ?_
    refine go_icmp_eq C 35 rfl dX8_clause_14 (fun hc => ?_) (fun hc => ?_)
    · replace hw := hw.1 hc
      refine go_sub [1, 2, 0] rfl ?_
      exact (gbX8_clause_35 C hr hR hnl hd (gbX8_clause_66 C hr hR hnl hd)) _ _ _ hw
    · replace hw := hw.2 hc
      refine go_iload_n C 0 rfl rfl dX8_clause_17 ?_
      refine go_if_eq C 35 rfl dX8_clause_18 (fun hc => ?_) (fun hc => ?_)
      · replace hw := hw.1 hc
        refine go_sub [1, 2, 0] rfl ?_
        exact (gbX8_clause_35 C hr hR hnl hd (gbX8_clause_66 C hr hR hnl hd)) _ _ _ hw
      · replace hw := hw.2 hc
        refine go_iload_n C 0 rfl rfl dX8_clause_21 ?_
        refine go_bipush (v := 16) C rfl dX8_clause_22 ?_
        refine go_icmp_eq C 35 rfl dX8_clause_24 (fun hc => ?_) (fun hc => ?_)
        · replace hw := hw.1 hc
          refine go_sub [1, 2, 0] rfl ?_
          exact (gbX8_clause_35 C hr hR hnl hd (gbX8_clause_66 C hr hR hnl hd)) _ _ _ hw
        · replace hw := hw.2 hc
          refine go_aload_n C 1 rfl rfl dX8_clause_27 ?_
          refine go_iconst (v := 1) C rfl dX8_clause_28 ?_
          refine go_callV (as := [.int 1]) C hR (shX8 G) ltX8 cwX8_95 (Nat.le_trans (by decide) hd) (by decide) rfl rfl (by decide) dX8_clause_29 (spX8_fail (Nat.le_refl _) hw) (fun v_ τ_ hw => ?_)
          obtain ⟨rfl, hw⟩ := hw
          obtain ⟨σ_3, rfl⟩ : ∃ z, z = τ_ := ⟨_, rfl⟩
          refine go_goto C 66 rfl dX8_clause_32 ?_
          refine go_sub [1, 0] rfl ?_
          exact (gbX8_clause_66 C hr hR hnl hd) _ _ hw
-- CradleNames$Taste.clear()V
def wpX9_clear (k0 : Nat)  (σ : St) (post : St → Prop) : Prop :=
  ∀ σ_1 : St, σ_1 = sI σ (30 + 2 * k0) 1 0 →
  ∀ σ_2 : St, σ_2 = sI σ_1 (30 + 2 * k0) 2 5 →
  ∀ σ_3 : St, σ_3 = sI σ_2 (30 + 2 * k0) 3 50 →
  post σ_3
set_option maxRecDepth 20000 in
set_option maxHeartbeats 4000000 in
theorem spX9_clear {l : Launch} {G : GT} {d : Nat}  (hd : 1 ≤ d) {k0 : Nat} (hk0 : k0 < 6)  {σ : St} {post : St → Prop} (hw : wpX9_clear k0  σ post) : Sp l G d yX9_clear cX9_clear 1 none [.ref (G.2.2.1 (30 + 2 * k0))] σ (fun v τ => v = none ∧ post τ) := by
  refine Sp.of (by decide) (by decide) fun X C hr hR hnl => ?_
  show Go X G 0 [(0, .ref (G.2.2.1 (30 + 2 * k0)))] [] σ
  have hw : ∀ σ_1 : St, σ_1 = sI σ (30 + 2 * k0) 1 0 →
  ∀ σ_2 : St, σ_2 = sI σ_1 (30 + 2 * k0) 2 5 →
  ∀ σ_3 : St, σ_3 = sI σ_2 (30 + 2 * k0) 3 50 →
  post σ_3 := hw
  refine go_aload_n C 0 rfl rfl dX9_clear_0 ?_
  refine go_iconst (v := 0) C rfl dX9_clear_1 ?_
  refine go_puti C (shX9 G hk0) (ltX9 hk0) lpX9_15 (show 1 < 4 by decide) (pxX9_1 G _ _ _) dX9_clear_2 (go_nm fun σ_1 eσ_1 => ?_)
  replace hw := hw σ_1 eσ_1
  refine go_aload_n C 0 rfl rfl dX9_clear_5 ?_
  refine go_iconst (v := 5) C rfl dX9_clear_6 ?_
  refine go_puti C (shX9 G hk0) (ltX9 hk0) lpX9_19 (show 2 < 4 by decide) (pxX9_2 G _ _ _) dX9_clear_7 (go_nm fun σ_2 eσ_2 => ?_)
  replace hw := hw σ_2 eσ_2
  refine go_aload_n C 0 rfl rfl dX9_clear_10 ?_
  refine go_bipush (v := 50) C rfl dX9_clear_11 ?_
  refine go_puti C (shX9 G hk0) (ltX9 hk0) lpX9_22 (show 3 < 4 by decide) (pxX9_3 G _ _ _) dX9_clear_13 (go_nm fun σ_3 eσ_3 => ?_)
  replace hw := hw σ_3 eσ_3
  exact go_vret C hr hw dX9_clear_16
-- CradleNames$Reader.wordOf(II)I
def wbX8_wordOf_52  (K24 : Int32 → Int32 → Int32 → Int32 → Int32 → St → Prop) (post : Int32 → St → Prop) (v1 : Int32) (v2 : Int32) (v3 : Int32) (v4 : Int32) (v5 : Int32) (s0 : Int32) (σ : St) : Prop :=
  wpJ0_charAt_5068e 2 ((v3 * 5) + v5) σ (fun r_1 σ_2 =>
  ((¬ r_1 = s0 →
    ∀ v4_3 : Int32, v4_3 = (v4 + 0) →
    ∀ v5_4 : Int32, v5_4 = v5 + 1 →
    K24 v1 v2 v3 v4_3 v5_4 σ_2) ∧
  (r_1 = s0 →
    ∀ v4_5 : Int32, v4_5 = (v4 + 1) →
    ∀ v5_6 : Int32, v5_6 = v5 + 1 →
    K24 v1 v2 v3 v4_5 v5_6 σ_2)))
def wbX8_wordOf_24  (K12 : Int32 → Int32 → Int32 → St → Prop) (post : Int32 → St → Prop) : Nat → Int32 → Int32 → Int32 → Int32 → Int32 → St → Prop
  | 0, _, _, _, _, _, _ => False
  | n + 1, v1, v2, v3, v4, v5, σ =>
    ((5 ≤ v5 →
      ((¬ v4 = 5 →
        ∀ v3_1 : Int32, v3_1 = v3 + 1 →
        K12 v1 v2 v3_1 σ) ∧
      (v4 = 5 →
        post v3 σ))) ∧
    (¬ 5 ≤ v5 →
      ((v2 ≤ (v1 + v5) →
        wbX8_wordOf_52 (wbX8_wordOf_24 K12 post n) post v1 v2 v3 v4 v5 32 σ) ∧
      (¬ v2 ≤ (v1 + v5) →
        vp_in (v1 + v5) 300 ∧ (
        wbX8_wordOf_52 (wbX8_wordOf_24 K12 post n) post v1 v2 v3 v4 v5 (gI σ 43 (v1 + v5).toNatClampNeg) σ)))))
def wbX8_wordOf_12   (post : Int32 → St → Prop) : Nat → Int32 → Int32 → Int32 → St → Prop
  | 0, _, _, _, _ => False
  | n + 1, v1, v2, v3, σ =>
    ((22 ≤ v3 →
      post 38 σ) ∧
    (¬ 22 ≤ v3 →
      ∃ n, wbX8_wordOf_24 (wbX8_wordOf_12 post n) post n v1 v2 v3 0 0 σ))
def wpX8_wordOf  (a1 : Int32) (a2 : Int32) (σ : St) (post : Int32 → St → Prop) : Prop :=
  (((a2 - a1) ≤ 5 →
    ∃ n, wbX8_wordOf_12 post n a1 a2 0 σ) ∧
  (¬ (a2 - a1) ≤ 5 →
    post 38 σ))
set_option maxRecDepth 20000 in
set_option maxHeartbeats 4000000 in
theorem gbX8_wordOf_52 {X : XT} {G : GT} {l : Launch} {d : Nat}  {post : Int32 → St → Prop} (C : Cx X G cX8_wordOf RX8) (hr : Rt X G (some .int) (fun v τ => ∃ r : Int32, v = some (.int r) ∧ post r τ)) (hR : Rm X l d) (hnl : X.2.2.2.2.2.2.2.2.2.2.1 = 7)  (hd : 5 ≤ d)  {K24 : Int32 → Int32 → Int32 → Int32 → Int32 → St → Prop} (hK24 : ∀ (v1 : Int32) (v2 : Int32) (v3 : Int32) (v4 : Int32) (v5 : Int32) (σ : St), K24 v1 v2 v3 v4 v5 σ → Go X G 24 [(0, .ref (G.2.2.1 42)), (1, .int v1), (2, .int v2), (3, .int v3), (4, .int v4), (5, .int v5)] [] σ)
    : ∀ (v1 : Int32) (v2 : Int32) (v3 : Int32) (v4 : Int32) (v5 : Int32) (s0 : Int32) (σ : St), wbX8_wordOf_52  K24 post v1 v2 v3 v4 v5 s0 σ → Go X G 52 [(0, .ref (G.2.2.1 42)), (1, .int v1), (2, .int v2), (3, .int v3), (4, .int v4), (5, .int v5)] [.int s0] σ := by
  intro v1 v2 v3 v4 v5 s0 σ hw
  have hw : wpJ0_charAt_5068e 2 ((v3 * 5) + v5) σ (fun r_1 σ_2 =>
  ((¬ r_1 = s0 →
    ∀ v4_3 : Int32, v4_3 = (v4 + 0) →
    ∀ v5_4 : Int32, v5_4 = v5 + 1 →
    K24 v1 v2 v3 v4_3 v5_4 σ_2) ∧
  (r_1 = s0 →
    ∀ v4_5 : Int32, v4_5 = (v4 + 1) →
    ∀ v5_6 : Int32, v5_6 = v5 + 1 →
    K24 v1 v2 v3 v4_5 v5_6 σ_2))) := hw
  refine go_istore (lv2 := [(6, .int s0), (0, .ref (G.2.2.1 42)), (1, .int v1), (2, .int v2), (3, .int v3), (4, .int v4), (5, .int v5)]) C (by rw [hnl]; decide) rfl dX8_wordOf_52 ?_
  refine go_iload C 5 rfl dX8_wordOf_54 ?_
  refine go_lds2 C dX8_wordOf_56 ?_
  refine go_iload_n C 4 rfl rfl dX8_wordOf_58 ?_
  refine go_iconst (v := 5) C rfl dX8_wordOf_59 ?_
  refine go_imul C dX8_wordOf_60 ?_
  refine go_iload C 6 rfl dX8_wordOf_61 ?_
  refine go_iadd C dX8_wordOf_63 ?_
  refine go_callT (as := [.int ((v3 * 5) + v5)]) C hR (show 2 < 4 by decide) cwX8_88 (Nat.le_trans (by decide) hd) (by decide) rfl rfl (by decide) dX8_wordOf_64 (spJ0_charAt_5068e (Nat.le_refl _) (show 2 < 4 by decide) hw) (fun v_ τ_ hw => ?_)
  obtain ⟨r_1, rfl, hw⟩ := hw
  obtain ⟨σ_2, rfl⟩ : ∃ z, z = τ_ := ⟨_, rfl⟩
  refine go_iload C 0 rfl dX8_wordOf_67 ?_
  refine go_icmp_ne C 76 rfl dX8_wordOf_69 (fun hc => ?_) (fun hc => ?_)
  · replace hw := hw.1 hc
    refine go_iconst (v := 0) C rfl dX8_wordOf_76 ?_
    refine go_iadd C dX8_wordOf_77 ?_
    refine go_topi (fun v4_3 ev4_3 => ?_)
    replace hw := hw v4_3 ev4_3
    refine go_istore (lv2 := [(4, .int v4_3), (6, .int s0), (0, .ref (G.2.2.1 42)), (1, .int v1), (2, .int v2), (3, .int v3), (5, .int v5)]) C (by rw [hnl]; decide) rfl dX8_wordOf_78 ?_
    obtain ⟨v5_4, ev5_4⟩ : ∃ z : Int32, z = v5 + 1 := ⟨_, rfl⟩
    replace hw := hw v5_4 ev5_4
    refine go_iinc (v := v5_4) (lv2 := [(5, .int v5_4), (4, .int v4_3), (6, .int s0), (0, .ref (G.2.2.1 42)), (1, .int v1), (2, .int v2), (3, .int v3)]) C 6 rfl (by rw [ev5_4]; rfl) (by rw [hnl]; decide) rfl dX8_wordOf_80 ?_
    refine go_goto C 24 rfl dX8_wordOf_83 ?_
    refine go_sub [3, 4, 5, 6, 1, 0] rfl ?_
    exact hK24 _ _ _ _ _ _ hw
  · replace hw := hw.2 hc
    refine go_iconst (v := 1) C rfl dX8_wordOf_72 ?_
    refine go_goto C 77 rfl dX8_wordOf_73 ?_
    refine go_iadd C dX8_wordOf_77 ?_
    refine go_topi (fun v4_5 ev4_5 => ?_)
    replace hw := hw v4_5 ev4_5
    refine go_istore (lv2 := [(4, .int v4_5), (6, .int s0), (0, .ref (G.2.2.1 42)), (1, .int v1), (2, .int v2), (3, .int v3), (5, .int v5)]) C (by rw [hnl]; decide) rfl dX8_wordOf_78 ?_
    obtain ⟨v5_6, ev5_6⟩ : ∃ z : Int32, z = v5 + 1 := ⟨_, rfl⟩
    replace hw := hw v5_6 ev5_6
    refine go_iinc (v := v5_6) (lv2 := [(5, .int v5_6), (4, .int v4_5), (6, .int s0), (0, .ref (G.2.2.1 42)), (1, .int v1), (2, .int v2), (3, .int v3)]) C 6 rfl (by rw [ev5_6]; rfl) (by rw [hnl]; decide) rfl dX8_wordOf_80 ?_
    refine go_goto C 24 rfl dX8_wordOf_83 ?_
    refine go_sub [3, 4, 5, 6, 1, 0] rfl ?_
    exact hK24 _ _ _ _ _ _ hw
set_option maxRecDepth 20000 in
set_option maxHeartbeats 4000000 in
theorem gbX8_wordOf_24 {X : XT} {G : GT} {l : Launch} {d : Nat}  {post : Int32 → St → Prop} (C : Cx X G cX8_wordOf RX8) (hr : Rt X G (some .int) (fun v τ => ∃ r : Int32, v = some (.int r) ∧ post r τ)) (hR : Rm X l d) (hnl : X.2.2.2.2.2.2.2.2.2.2.1 = 7)  (hd : 5 ≤ d)  {K12 : Int32 → Int32 → Int32 → St → Prop} (hK12 : ∀ (v1 : Int32) (v2 : Int32) (v3 : Int32) (σ : St), K12 v1 v2 v3 σ → Go X G 12 [(0, .ref (G.2.2.1 42)), (1, .int v1), (2, .int v2), (3, .int v3)] [] σ)
    : ∀ (n : Nat) (v1 : Int32) (v2 : Int32) (v3 : Int32) (v4 : Int32) (v5 : Int32) (σ : St), wbX8_wordOf_24  K12 post n v1 v2 v3 v4 v5 σ → Go X G 24 [(0, .ref (G.2.2.1 42)), (1, .int v1), (2, .int v2), (3, .int v3), (4, .int v4), (5, .int v5)] [] σ := by
  intro n
  induction n with
  | zero => intro v1 v2 v3 v4 v5 σ hw; exact hw.elim
  | succ n ih =>
    intro v1 v2 v3 v4 v5 σ hw
    have hw : ((5 ≤ v5 →
      ((¬ v4 = 5 →
        ∀ v3_1 : Int32, v3_1 = v3 + 1 →
        K12 v1 v2 v3_1 σ) ∧
      (v4 = 5 →
        post v3 σ))) ∧
    (¬ 5 ≤ v5 →
      ((v2 ≤ (v1 + v5) →
        wbX8_wordOf_52 (wbX8_wordOf_24 K12 post n) post v1 v2 v3 v4 v5 32 σ) ∧
      (¬ v2 ≤ (v1 + v5) →
        vp_in (v1 + v5) 300 ∧ (
        wbX8_wordOf_52 (wbX8_wordOf_24 K12 post n) post v1 v2 v3 v4 v5 (gI σ 43 (v1 + v5).toNatClampNeg) σ))))) := hw
    refine go_iload C 5 rfl dX8_wordOf_24 ?_
    refine go_iconst (v := 5) C rfl dX8_wordOf_26 ?_
    refine go_icmp_ge C 86 rfl dX8_wordOf_27 (fun hc => ?_) (fun hc => ?_)
    · replace hw := hw.1 hc
      refine go_iload C 4 rfl dX8_wordOf_86 ?_
      refine go_iconst (v := 5) C rfl dX8_wordOf_88 ?_
      refine go_icmp_ne C 94 rfl dX8_wordOf_89 (fun hc => ?_) (fun hc => ?_)
      · replace hw := hw.1 hc
        obtain ⟨v3_1, ev3_1⟩ : ∃ z : Int32, z = v3 + 1 := ⟨_, rfl⟩
        replace hw := hw v3_1 ev3_1
        refine go_iinc (v := v3_1) (lv2 := [(3, .int v3_1), (0, .ref (G.2.2.1 42)), (1, .int v1), (2, .int v2), (4, .int v4), (5, .int v5)]) C 3 rfl (by rw [ev3_1]; rfl) (by rw [hnl]; decide) rfl dX8_wordOf_94 ?_
        refine go_goto C 12 rfl dX8_wordOf_97 ?_
        refine go_sub [1, 2, 3, 0] rfl ?_
        exact hK12 _ _ _ _ hw
      · replace hw := hw.2 hc
        refine go_iload_n C 3 rfl rfl dX8_wordOf_92 ?_
        exact go_iret C hr ⟨_, rfl, hw⟩ dX8_wordOf_93
    · replace hw := hw.2 hc
      refine go_iload_n C 1 rfl rfl dX8_wordOf_30 ?_
      refine go_iload C 5 rfl dX8_wordOf_31 ?_
      refine go_iadd C dX8_wordOf_33 ?_
      refine go_iload_n C 2 rfl rfl dX8_wordOf_34 ?_
      refine go_icmp_ge C 50 rfl dX8_wordOf_35 (fun hc => ?_) (fun hc => ?_)
      · replace hw := hw.1 hc
        refine go_bipush (v := 32) C rfl dX8_wordOf_50 ?_
        exact (gbX8_wordOf_52 C hr hR hnl hd ih) _ _ _ _ _ _ _ hw
      · replace hw := hw.2 hc
        refine go_aload_n C 0 rfl rfl dX8_wordOf_38 ?_
        refine go_get (v := .ref (G.2.2.1 43)) C (shX8 G) ltX8 lkX8_11 rfl dX8_wordOf_39 ?_
        refine go_iload_n C 1 rfl rfl dX8_wordOf_42 ?_
        refine go_iload C 5 rfl dX8_wordOf_43 ?_
        refine go_iadd C dX8_wordOf_45 ?_
        refine go_iald C (saX8_bytes G) laX8_bytes hw.1 dX8_wordOf_46 ?_
        replace hw := hw.2
        refine go_goto C 52 rfl dX8_wordOf_47 ?_
        exact (gbX8_wordOf_52 C hr hR hnl hd ih) _ _ _ _ _ _ _ hw
set_option maxRecDepth 20000 in
set_option maxHeartbeats 4000000 in
theorem gbX8_wordOf_12 {X : XT} {G : GT} {l : Launch} {d : Nat}  {post : Int32 → St → Prop} (C : Cx X G cX8_wordOf RX8) (hr : Rt X G (some .int) (fun v τ => ∃ r : Int32, v = some (.int r) ∧ post r τ)) (hR : Rm X l d) (hnl : X.2.2.2.2.2.2.2.2.2.2.1 = 7)  (hd : 5 ≤ d)   
    : ∀ (n : Nat) (v1 : Int32) (v2 : Int32) (v3 : Int32) (σ : St), wbX8_wordOf_12   post n v1 v2 v3 σ → Go X G 12 [(0, .ref (G.2.2.1 42)), (1, .int v1), (2, .int v2), (3, .int v3)] [] σ := by
  intro n
  induction n with
  | zero => intro v1 v2 v3 σ hw; exact hw.elim
  | succ n ih =>
    intro v1 v2 v3 σ hw
    have hw : ((22 ≤ v3 →
      post 38 σ) ∧
    (¬ 22 ≤ v3 →
      ∃ n, wbX8_wordOf_24 (wbX8_wordOf_12 post n) post n v1 v2 v3 0 0 σ)) := hw
    refine go_iload_n C 3 rfl rfl dX8_wordOf_12 ?_
    refine go_bipush (v := 22) C rfl dX8_wordOf_13 ?_
    refine go_icmp_ge C 100 rfl dX8_wordOf_15 (fun hc => ?_) (fun hc => ?_)
    · replace hw := hw.1 hc
      refine go_bipush (v := 38) C rfl dX8_wordOf_100 ?_
      exact go_iret C hr ⟨_, rfl, hw⟩ dX8_wordOf_102
    · replace hw := hw.2 hc
      refine go_iconst (v := 0) C rfl dX8_wordOf_18 ?_
      refine go_istore (lv2 := [(4, .int 0), (0, .ref (G.2.2.1 42)), (1, .int v1), (2, .int v2), (3, .int v3)]) C (by rw [hnl]; decide) rfl dX8_wordOf_19 ?_
      refine go_iconst (v := 0) C rfl dX8_wordOf_21 ?_
      refine go_istore (lv2 := [(5, .int 0), (4, .int 0), (0, .ref (G.2.2.1 42)), (1, .int v1), (2, .int v2), (3, .int v3)]) C (by rw [hnl]; decide) rfl dX8_wordOf_22 ?_
      refine go_sub [2, 3, 4, 5, 1, 0] rfl ?_
      obtain ⟨n_0, hw⟩ := hw
      exact (gbX8_wordOf_24 C hr hR hnl hd ih) n_0 _ _ _ _ _ _ hw
set_option maxRecDepth 20000 in
set_option maxHeartbeats 4000000 in
theorem spX8_wordOf {l : Launch} {G : GT} {d : Nat}  (hd : 5 ≤ d)   {a1 : Int32} {a2 : Int32} {σ : St} {post : Int32 → St → Prop} (hw : wpX8_wordOf  a1 a2 σ post) : Sp l G d yX8_wordOf cX8_wordOf 7 (some .int) [.ref (G.2.2.1 42), .int a1, .int a2] σ (fun v τ => ∃ r : Int32, v = some (.int r) ∧ post r τ) := by
  refine Sp.of (by decide) (by decide) fun X C hr hR hnl => ?_
  show Go X G 0 [(0, .ref (G.2.2.1 42)), (1, .int a1), (2, .int a2)] [] σ
  have hw : (((a2 - a1) ≤ 5 →
    ∃ n, wbX8_wordOf_12 post n a1 a2 0 σ) ∧
  (¬ (a2 - a1) ≤ 5 →
    post 38 σ)) := hw
  refine go_iload_n C 2 rfl rfl dX8_wordOf_0 ?_
  refine go_iload_n C 1 rfl rfl dX8_wordOf_1 ?_
  refine go_isub C dX8_wordOf_2 ?_
  refine go_iconst (v := 5) C rfl dX8_wordOf_3 ?_
  refine go_icmp_le C 10 rfl dX8_wordOf_4 (fun hc => ?_) (fun hc => ?_)
  · replace hw := hw.1 hc
    refine go_iconst (v := 0) C rfl dX8_wordOf_10 ?_
    refine go_istore_n (lv2 := [(3, .int 0), (0, .ref (G.2.2.1 42)), (1, .int a1), (2, .int a2)]) C rfl (by rw [hnl]; decide) rfl dX8_wordOf_11 ?_
    refine go_sub [1, 2, 3, 0] rfl ?_
    obtain ⟨n_0, hw⟩ := hw
    exact (gbX8_wordOf_12 C hr hR hnl hd) n_0 _ _ _ _ hw
  · replace hw := hw.2 hc
    refine go_bipush (v := 38) C rfl dX8_wordOf_7 ?_
    exact go_iret C hr ⟨_, rfl, hw⟩ dX8_wordOf_9
-- CradleNames$Reader.isLetter(I)Z
def wbX8_isLetter_12   (post : Int32 → St → Prop) (v0 : Int32) (σ : St) : Prop :=
  ((v0 < 65 →
    post 0 σ) ∧
  (¬ v0 < 65 →
    ((90 < v0 →
      post 0 σ) ∧
    (¬ 90 < v0 →
      post 1 σ))))
def wpX8_isLetter  (a1 : Int32) (σ : St) (post : Int32 → St → Prop) : Prop :=
  ((a1 < 97 →
    wbX8_isLetter_12 post a1 σ) ∧
  (¬ a1 < 97 →
    ((a1 ≤ 122 →
      post 1 σ) ∧
    (¬ a1 ≤ 122 →
      wbX8_isLetter_12 post a1 σ))))
set_option maxRecDepth 20000 in
set_option maxHeartbeats 4000000 in
theorem gbX8_isLetter_12 {X : XT} {G : GT} {l : Launch} {d : Nat}  {post : Int32 → St → Prop} (C : Cx X G cX8_isLetter RX8) (hr : Rt X G (some .boolean) (fun v τ => ∃ r : Int32, v = some (.int r) ∧ post r τ)) (hR : Rm X l d) (hnl : X.2.2.2.2.2.2.2.2.2.2.1 = 1)  (hd : 1 ≤ d)   
    : ∀ (v0 : Int32) (σ : St), wbX8_isLetter_12   post v0 σ → Go X G 12 [(0, .int v0)] [] σ := by
  intro v0 σ hw
  have hw : ((v0 < 65 →
    post 0 σ) ∧
  (¬ v0 < 65 →
    ((90 < v0 →
      post 0 σ) ∧
    (¬ 90 < v0 →
      post 1 σ)))) := hw
  refine go_iload_n C 0 rfl rfl dX8_isLetter_12 ?_
  refine go_bipush (v := 65) C rfl dX8_isLetter_13 ?_
  refine go_icmp_lt C 28 rfl dX8_isLetter_15 (fun hc => ?_) (fun hc => ?_)
  · replace hw := hw.1 hc
    refine go_iconst (v := 0) C rfl dX8_isLetter_28 ?_
    exact go_zret C hr rfl ⟨_, rfl, hw⟩ dX8_isLetter_29
  · replace hw := hw.2 hc
    refine go_iload_n C 0 rfl rfl dX8_isLetter_18 ?_
    refine go_bipush (v := 90) C rfl dX8_isLetter_19 ?_
    refine go_icmp_gt C 28 rfl dX8_isLetter_21 (fun hc => ?_) (fun hc => ?_)
    · replace hw := hw.1 hc
      refine go_iconst (v := 0) C rfl dX8_isLetter_28 ?_
      exact go_zret C hr rfl ⟨_, rfl, hw⟩ dX8_isLetter_29
    · replace hw := hw.2 hc
      refine go_iconst (v := 1) C rfl dX8_isLetter_24 ?_
      refine go_goto C 29 rfl dX8_isLetter_25 ?_
      exact go_zret C hr rfl ⟨_, rfl, hw⟩ dX8_isLetter_29
set_option maxRecDepth 20000 in
set_option maxHeartbeats 4000000 in
theorem spX8_isLetter {l : Launch} {G : GT} {d : Nat}  (hd : 1 ≤ d)   {a1 : Int32} {σ : St} {post : Int32 → St → Prop} (hw : wpX8_isLetter  a1 σ post) : Sp l G d yX8_isLetter cX8_isLetter 1 (some .boolean) [.int a1] σ (fun v τ => ∃ r : Int32, v = some (.int r) ∧ post r τ) := by
  refine Sp.of (by decide) (by decide) fun X C hr hR hnl => ?_
  show Go X G 0 [(0, .int a1)] [] σ
  have hw : ((a1 < 97 →
    wbX8_isLetter_12 post a1 σ) ∧
  (¬ a1 < 97 →
    ((a1 ≤ 122 →
      post 1 σ) ∧
    (¬ a1 ≤ 122 →
      wbX8_isLetter_12 post a1 σ)))) := hw
  refine go_iload_n C 0 rfl rfl dX8_isLetter_0 ?_
  refine go_bipush (v := 97) C rfl dX8_isLetter_1 ?_
  refine go_icmp_lt C 12 rfl dX8_isLetter_3 (fun hc => ?_) (fun hc => ?_)
  · replace hw := hw.1 hc
    exact (gbX8_isLetter_12 C hr hR hnl hd) _ _ hw
  · replace hw := hw.2 hc
    refine go_iload_n C 0 rfl rfl dX8_isLetter_6 ?_
    refine go_bipush (v := 122) C rfl dX8_isLetter_7 ?_
    refine go_icmp_le C 24 rfl dX8_isLetter_9 (fun hc => ?_) (fun hc => ?_)
    · replace hw := hw.1 hc
      refine go_iconst (v := 1) C rfl dX8_isLetter_24 ?_
      refine go_goto C 29 rfl dX8_isLetter_25 ?_
      exact go_zret C hr rfl ⟨_, rfl, hw⟩ dX8_isLetter_29
    · replace hw := hw.2 hc
      exact (gbX8_isLetter_12 C hr hR hnl hd) _ _ hw
-- CradleNames$Reader.isDigit(I)Z
def wpX8_isDigit  (a1 : Int32) (σ : St) (post : Int32 → St → Prop) : Prop :=
  ((a1 < 48 →
    post 0 σ) ∧
  (¬ a1 < 48 →
    ((57 < a1 →
      post 0 σ) ∧
    (¬ 57 < a1 →
      post 1 σ))))
set_option maxRecDepth 20000 in
set_option maxHeartbeats 4000000 in
theorem spX8_isDigit {l : Launch} {G : GT} {d : Nat}  (hd : 1 ≤ d)   {a1 : Int32} {σ : St} {post : Int32 → St → Prop} (hw : wpX8_isDigit  a1 σ post) : Sp l G d yX8_isDigit cX8_isDigit 1 (some .boolean) [.int a1] σ (fun v τ => ∃ r : Int32, v = some (.int r) ∧ post r τ) := by
  refine Sp.of (by decide) (by decide) fun X C hr hR hnl => ?_
  show Go X G 0 [(0, .int a1)] [] σ
  have hw : ((a1 < 48 →
    post 0 σ) ∧
  (¬ a1 < 48 →
    ((57 < a1 →
      post 0 σ) ∧
    (¬ 57 < a1 →
      post 1 σ)))) := hw
  refine go_iload_n C 0 rfl rfl dX8_isDigit_0 ?_
  refine go_bipush (v := 48) C rfl dX8_isDigit_1 ?_
  refine go_icmp_lt C 16 rfl dX8_isDigit_3 (fun hc => ?_) (fun hc => ?_)
  · replace hw := hw.1 hc
    refine go_iconst (v := 0) C rfl dX8_isDigit_16 ?_
    exact go_zret C hr rfl ⟨_, rfl, hw⟩ dX8_isDigit_17
  · replace hw := hw.2 hc
    refine go_iload_n C 0 rfl rfl dX8_isDigit_6 ?_
    refine go_bipush (v := 57) C rfl dX8_isDigit_7 ?_
    refine go_icmp_gt C 16 rfl dX8_isDigit_9 (fun hc => ?_) (fun hc => ?_)
    · replace hw := hw.1 hc
      refine go_iconst (v := 0) C rfl dX8_isDigit_16 ?_
      exact go_zret C hr rfl ⟨_, rfl, hw⟩ dX8_isDigit_17
    · replace hw := hw.2 hc
      refine go_iconst (v := 1) C rfl dX8_isDigit_12 ?_
      refine go_goto C 17 rfl dX8_isDigit_13 ?_
      exact go_zret C hr rfl ⟨_, rfl, hw⟩ dX8_isDigit_17
-- CradleNames$Reader.cutOne(II)I
def wbX8_cutOne_215   (post : Int32 → St → Prop) (v4 : Int32) (v5 : Int32) (s0 : Int32) (s1 : Int32) (s2 : Int32) (σ : St) : Prop :=
  vp_in s2 301 ∧ (
  ∀ σ_1 : St, σ_1 = sI σ 44 s2.toNatClampNeg (s1 + s0) →
  ((v5 = 0 →
    ∀ v4_2 : Int32, v4_2 = (v4 + 0) →
    post v4_2 σ_1) ∧
  (¬ v5 = 0 →
    ∀ v4_3 : Int32, v4_3 = (v4 + 1) →
    post v4_3 σ_1)))
def wbX8_cutOne_205   (post : Int32 → St → Prop) (v4 : Int32) (v5 : Int32) (s0 : Int32) (s1 : Int32) (σ : St) : Prop :=
  ((v5 = 0 →
    wbX8_cutOne_215 post v4 v5 0 s0 s1 σ) ∧
  (¬ v5 = 0 →
    wbX8_cutOne_215 post v4 v5 1 s0 s1 σ))
def wbX8_cutOne_47   (post : Int32 → St → Prop) (v1 : Int32) (v2 : Int32) (v4 : Int32) (σ : St) : Prop :=
  wpX8_wordOf v2 v4 σ (fun r_1 σ_2 =>
  vp_in v1 301 ∧ (
  ∀ σ_3 : St, σ_3 = sI σ_2 44 v1.toNatClampNeg r_1 →
  post v4 σ_3))
def wbX8_cutOne_128   (post : Int32 → St → Prop) (v1 : Int32) (v4 : Int32) (v5 : Int32) (σ : St) : Prop :=
  vp_in v1 301 ∧ (
  ∀ σ_1 : St, σ_1 = sI σ 44 v1.toNatClampNeg 36 →
  vp_in v1 301 ∧ (
  ∀ σ_2 : St, σ_2 = sI σ_1 46 v1.toNatClampNeg v5 →
  post v4 σ_2))
def wbX8_cutOne_185   (post : Int32 → St → Prop) (v1 : Int32) (v3 : Int32) (v4 : Int32) (s0 : Int32) (σ : St) : Prop :=
  ((¬ v3 = 60 →
    wbX8_cutOne_205 post v4 s0 24 v1 σ) ∧
  (v3 = 60 →
    wbX8_cutOne_205 post v4 s0 22 v1 σ))
def wbX8_cutOne_19   (post : Int32 → St → Prop) : Nat → Int32 → Int32 → Int32 → St → Prop
  | 0, _, _, _, _ => False
  | n + 1, v1, v2, v4, σ =>
    (((gI σ 42 1) ≤ v4 →
      wbX8_cutOne_47 post v1 v2 v4 σ) ∧
    (¬ (gI σ 42 1) ≤ v4 →
      vp_in v4 300 ∧ (
      wpX8_isLetter (gI σ 43 v4.toNatClampNeg) σ (fun r_1 σ_2 =>
      ((r_1 = 0 →
        wbX8_cutOne_47 post v1 v2 v4 σ_2) ∧
      (¬ r_1 = 0 →
        ∀ v4_3 : Int32, v4_3 = v4 + 1 →
        wbX8_cutOne_19 post n v1 v2 v4_3 σ_2))))))
def wbX8_cutOne_76   (post : Int32 → St → Prop) : Nat → Int32 → Int32 → Int32 → St → Prop
  | 0, _, _, _, _ => False
  | n + 1, v1, v4, v5, σ =>
    (((gI σ 42 1) ≤ v4 →
      wbX8_cutOne_128 post v1 v4 v5 σ) ∧
    (¬ (gI σ 42 1) ≤ v4 →
      vp_in v4 300 ∧ (
      wpX8_isDigit (gI σ 43 v4.toNatClampNeg) σ (fun r_1 σ_2 =>
      ((r_1 = 0 →
        wbX8_cutOne_128 post v1 v4 v5 σ_2) ∧
      (¬ r_1 = 0 →
        vp_in v4 300 ∧ (
        wpJ9_min_7cf53 (((v5 * 10) + (gI σ_2 43 v4.toNatClampNeg)) - 48) 10000 σ_2 (fun r_3 σ_4 =>
        ∀ v4_5 : Int32, v4_5 = v4 + 1 →
        wbX8_cutOne_76 post n v1 v4_5 r_3 σ_4))))))))
def wbX8_cutOne_159   (post : Int32 → St → Prop) (v1 : Int32) (v3 : Int32) (v4 : Int32) (σ : St) : Prop :=
  (((gI σ 42 1) ≤ v4 →
    wbX8_cutOne_185 post v1 v3 v4 0 σ) ∧
  (¬ (gI σ 42 1) ≤ v4 →
    vp_in v4 300 ∧ (
    ((¬ (gI σ 43 v4.toNatClampNeg) = 61 →
      wbX8_cutOne_185 post v1 v3 v4 0 σ) ∧
    ((gI σ 43 v4.toNatClampNeg) = 61 →
      wbX8_cutOne_185 post v1 v3 v4 1 σ)))))
def wpX8_cutOne  (a1 : Int32) (a2 : Int32) (σ : St) (post : Int32 → St → Prop) : Prop :=
  vp_in a2 300 ∧ (
  ∀ v3_1 : Int32, v3_1 = (gI σ 43 a2.toNatClampNeg) →
  ∀ v4_2 : Int32, v4_2 = (a2 + 1) →
  wpX8_isLetter v3_1 σ (fun r_3 σ_4 =>
  ((r_3 = 0 →
    wpX8_isDigit v3_1 σ_4 (fun r_5 σ_6 =>
    ((r_5 = 0 →
      ((v3_1 = 60 →
        wbX8_cutOne_159 post a1 v3_1 v4_2 σ_6) ∧
      (¬ v3_1 = 60 →
        ((¬ v3_1 = 62 →
          wpJ0_indexOf_0f7a4 3 ((v3_1.toUInt32 % 65536).toInt32) σ_6 (fun r_7 σ_8 =>
          ((0 ≤ r_7 →
            vp_in a1 301 ∧ (
            ∀ σ_9 : St, σ_9 = sI σ_8 44 a1.toNatClampNeg (26 + r_7) →
            post v4_2 σ_9)) ∧
          (¬ 0 ≤ r_7 →
            vp_in a1 301 ∧ (
            ∀ σ_10 : St, σ_10 = sI σ_8 44 a1.toNatClampNeg 38 →
            post v4_2 σ_10))))) ∧
        (v3_1 = 62 →
          wbX8_cutOne_159 post a1 v3_1 v4_2 σ_6))))) ∧
    (¬ r_5 = 0 →
      ∀ v5_11 : Int32, v5_11 = (v3_1 - 48) →
      ∃ n, wbX8_cutOne_76 post n a1 v4_2 v5_11 σ_6)))) ∧
  (¬ r_3 = 0 →
    ∃ n, wbX8_cutOne_19 post n a1 a2 v4_2 σ_4))))
set_option maxRecDepth 20000 in
set_option maxHeartbeats 4000000 in
theorem gbX8_cutOne_215 {X : XT} {G : GT} {l : Launch} {d : Nat}  {post : Int32 → St → Prop} (C : Cx X G cX8_cutOne RX8) (hr : Rt X G (some .int) (fun v τ => ∃ r : Int32, v = some (.int r) ∧ post r τ)) (hR : Rm X l d) (hnl : X.2.2.2.2.2.2.2.2.2.2.1 = 6)  (hd : 6 ≤ d)   
    : ∀ (v4 : Int32) (v5 : Int32) (s0 : Int32) (s1 : Int32) (s2 : Int32) (σ : St), wbX8_cutOne_215   post v4 v5 s0 s1 s2 σ → Go X G 215 [(4, .int v4), (5, .int v5)] [.int s0, .int s1, .int s2, .ref (G.2.2.1 44)] σ := by
  intro v4 v5 s0 s1 s2 σ hw
  have hw : vp_in s2 301 ∧ (
  ∀ σ_1 : St, σ_1 = sI σ 44 s2.toNatClampNeg (s1 + s0) →
  ((v5 = 0 →
    ∀ v4_2 : Int32, v4_2 = (v4 + 0) →
    post v4_2 σ_1) ∧
  (¬ v5 = 0 →
    ∀ v4_3 : Int32, v4_3 = (v4 + 1) →
    post v4_3 σ_1))) := hw
  refine go_iadd C dX8_cutOne_215 ?_
  refine go_iast C (saX8_kinds G) laX8_kinds hw.1 dX8_cutOne_216 (go_nm fun σ_1 eσ_1 => ?_)
  replace hw := hw.2 σ_1 eσ_1
  refine go_iload C 0 rfl dX8_cutOne_217 ?_
  refine go_iload C 1 rfl dX8_cutOne_219 ?_
  refine go_if_eq C 228 rfl dX8_cutOne_221 (fun hc => ?_) (fun hc => ?_)
  · replace hw := hw.1 hc
    refine go_iconst (v := 0) C rfl dX8_cutOne_228 ?_
    refine go_iadd C dX8_cutOne_229 ?_
    refine go_topi (fun v4_2 ev4_2 => ?_)
    replace hw := hw v4_2 ev4_2
    refine go_istore (lv2 := [(4, .int v4_2), (5, .int v5)]) C (by rw [hnl]; decide) rfl dX8_cutOne_230 ?_
    refine go_goto C 265 rfl dX8_cutOne_232 ?_
    refine go_iload C 0 rfl dX8_cutOne_265 ?_
    exact go_iret C hr ⟨_, rfl, hw⟩ dX8_cutOne_267
  · replace hw := hw.2 hc
    refine go_iconst (v := 1) C rfl dX8_cutOne_224 ?_
    refine go_goto C 229 rfl dX8_cutOne_225 ?_
    refine go_iadd C dX8_cutOne_229 ?_
    refine go_topi (fun v4_3 ev4_3 => ?_)
    replace hw := hw v4_3 ev4_3
    refine go_istore (lv2 := [(4, .int v4_3), (5, .int v5)]) C (by rw [hnl]; decide) rfl dX8_cutOne_230 ?_
    refine go_goto C 265 rfl dX8_cutOne_232 ?_
    refine go_iload C 0 rfl dX8_cutOne_265 ?_
    exact go_iret C hr ⟨_, rfl, hw⟩ dX8_cutOne_267
set_option maxRecDepth 20000 in
set_option maxHeartbeats 4000000 in
theorem gbX8_cutOne_205 {X : XT} {G : GT} {l : Launch} {d : Nat}  {post : Int32 → St → Prop} (C : Cx X G cX8_cutOne RX8) (hr : Rt X G (some .int) (fun v τ => ∃ r : Int32, v = some (.int r) ∧ post r τ)) (hR : Rm X l d) (hnl : X.2.2.2.2.2.2.2.2.2.2.1 = 6)  (hd : 6 ≤ d)   
    : ∀ (v4 : Int32) (v5 : Int32) (s0 : Int32) (s1 : Int32) (σ : St), wbX8_cutOne_205   post v4 v5 s0 s1 σ → Go X G 205 [(4, .int v4), (5, .int v5)] [.int s0, .int s1, .ref (G.2.2.1 44)] σ := by
  intro v4 v5 s0 s1 σ hw
  have hw : ((v5 = 0 →
    wbX8_cutOne_215 post v4 v5 0 s0 s1 σ) ∧
  (¬ v5 = 0 →
    wbX8_cutOne_215 post v4 v5 1 s0 s1 σ)) := hw
  refine go_iload C 1 rfl dX8_cutOne_205 ?_
  refine go_if_eq C 214 rfl dX8_cutOne_207 (fun hc => ?_) (fun hc => ?_)
  · replace hw := hw.1 hc
    refine go_iconst (v := 0) C rfl dX8_cutOne_214 ?_
    exact (gbX8_cutOne_215 C hr hR hnl hd) _ _ _ _ _ _ hw
  · replace hw := hw.2 hc
    refine go_iconst (v := 1) C rfl dX8_cutOne_210 ?_
    refine go_goto C 215 rfl dX8_cutOne_211 ?_
    exact (gbX8_cutOne_215 C hr hR hnl hd) _ _ _ _ _ _ hw
set_option maxRecDepth 20000 in
set_option maxHeartbeats 4000000 in
theorem gbX8_cutOne_47 {X : XT} {G : GT} {l : Launch} {d : Nat}  {post : Int32 → St → Prop} (C : Cx X G cX8_cutOne RX8) (hr : Rt X G (some .int) (fun v τ => ∃ r : Int32, v = some (.int r) ∧ post r τ)) (hR : Rm X l d) (hnl : X.2.2.2.2.2.2.2.2.2.2.1 = 6)  (hd : 6 ≤ d)   
    : ∀ (v1 : Int32) (v2 : Int32) (v4 : Int32) (σ : St), wbX8_cutOne_47   post v1 v2 v4 σ → Go X G 47 [(0, .ref (G.2.2.1 42)), (1, .int v1), (2, .int v2), (4, .int v4)] [] σ := by
  intro v1 v2 v4 σ hw
  have hw : wpX8_wordOf v2 v4 σ (fun r_1 σ_2 =>
  vp_in v1 301 ∧ (
  ∀ σ_3 : St, σ_3 = sI σ_2 44 v1.toNatClampNeg r_1 →
  post v4 σ_3)) := hw
  refine go_aload_n C 0 rfl rfl dX8_cutOne_47 ?_
  refine go_get (v := .ref (G.2.2.1 44)) C (shX8 G) ltX8 lkX8_22 rfl dX8_cutOne_48 ?_
  refine go_iload_n C 1 rfl rfl dX8_cutOne_51 ?_
  refine go_aload_n C 0 rfl rfl dX8_cutOne_52 ?_
  refine go_iload_n C 2 rfl rfl dX8_cutOne_53 ?_
  refine go_iload C 3 rfl dX8_cutOne_54 ?_
  refine go_callV (as := [.int v2, .int v4]) C hR (shX8 G) ltX8 cwX8_67 (Nat.le_trans (by decide) hd) (by decide) rfl rfl (by decide) dX8_cutOne_56 (spX8_wordOf (Nat.le_refl _) hw) (fun v_ τ_ hw => ?_)
  obtain ⟨r_1, rfl, hw⟩ := hw
  obtain ⟨σ_2, rfl⟩ : ∃ z, z = τ_ := ⟨_, rfl⟩
  refine go_iast C (saX8_kinds G) laX8_kinds hw.1 dX8_cutOne_59 (go_nm fun σ_3 eσ_3 => ?_)
  replace hw := hw.2 σ_3 eσ_3
  refine go_goto C 265 rfl dX8_cutOne_60 ?_
  refine go_iload C 3 rfl dX8_cutOne_265 ?_
  exact go_iret C hr ⟨_, rfl, hw⟩ dX8_cutOne_267
set_option maxRecDepth 20000 in
set_option maxHeartbeats 4000000 in
theorem gbX8_cutOne_128 {X : XT} {G : GT} {l : Launch} {d : Nat}  {post : Int32 → St → Prop} (C : Cx X G cX8_cutOne RX8) (hr : Rt X G (some .int) (fun v τ => ∃ r : Int32, v = some (.int r) ∧ post r τ)) (hR : Rm X l d) (hnl : X.2.2.2.2.2.2.2.2.2.2.1 = 6)  (hd : 6 ≤ d)   
    : ∀ (v1 : Int32) (v4 : Int32) (v5 : Int32) (σ : St), wbX8_cutOne_128   post v1 v4 v5 σ → Go X G 128 [(0, .ref (G.2.2.1 42)), (1, .int v1), (4, .int v4), (5, .int v5)] [] σ := by
  intro v1 v4 v5 σ hw
  have hw : vp_in v1 301 ∧ (
  ∀ σ_1 : St, σ_1 = sI σ 44 v1.toNatClampNeg 36 →
  vp_in v1 301 ∧ (
  ∀ σ_2 : St, σ_2 = sI σ_1 46 v1.toNatClampNeg v5 →
  post v4 σ_2)) := hw
  refine go_aload_n C 0 rfl rfl dX8_cutOne_128 ?_
  refine go_get (v := .ref (G.2.2.1 44)) C (shX8 G) ltX8 lkX8_22 rfl dX8_cutOne_129 ?_
  refine go_iload_n C 1 rfl rfl dX8_cutOne_132 ?_
  refine go_bipush (v := 36) C rfl dX8_cutOne_133 ?_
  refine go_iast C (saX8_kinds G) laX8_kinds hw.1 dX8_cutOne_135 (go_nm fun σ_1 eσ_1 => ?_)
  replace hw := hw.2 σ_1 eσ_1
  refine go_aload_n C 0 rfl rfl dX8_cutOne_136 ?_
  refine go_get (v := .ref (G.2.2.1 46)) C (shX8 G) ltX8 lkX8_28 rfl dX8_cutOne_137 ?_
  refine go_iload_n C 1 rfl rfl dX8_cutOne_140 ?_
  refine go_iload C 3 rfl dX8_cutOne_141 ?_
  refine go_iast C (saX8_numbers G) laX8_numbers hw.1 dX8_cutOne_143 (go_nm fun σ_2 eσ_2 => ?_)
  replace hw := hw.2 σ_2 eσ_2
  refine go_goto C 265 rfl dX8_cutOne_144 ?_
  refine go_iload C 2 rfl dX8_cutOne_265 ?_
  exact go_iret C hr ⟨_, rfl, hw⟩ dX8_cutOne_267
set_option maxRecDepth 20000 in
set_option maxHeartbeats 4000000 in
theorem gbX8_cutOne_185 {X : XT} {G : GT} {l : Launch} {d : Nat}  {post : Int32 → St → Prop} (C : Cx X G cX8_cutOne RX8) (hr : Rt X G (some .int) (fun v τ => ∃ r : Int32, v = some (.int r) ∧ post r τ)) (hR : Rm X l d) (hnl : X.2.2.2.2.2.2.2.2.2.2.1 = 6)  (hd : 6 ≤ d)   
    : ∀ (v1 : Int32) (v3 : Int32) (v4 : Int32) (s0 : Int32) (σ : St), wbX8_cutOne_185   post v1 v3 v4 s0 σ → Go X G 185 [(0, .ref (G.2.2.1 42)), (1, .int v1), (3, .int v3), (4, .int v4)] [.int s0] σ := by
  intro v1 v3 v4 s0 σ hw
  have hw : ((¬ v3 = 60 →
    wbX8_cutOne_205 post v4 s0 24 v1 σ) ∧
  (v3 = 60 →
    wbX8_cutOne_205 post v4 s0 22 v1 σ)) := hw
  refine go_istore (lv2 := [(5, .int s0), (0, .ref (G.2.2.1 42)), (1, .int v1), (3, .int v3), (4, .int v4)]) C (by rw [hnl]; decide) rfl dX8_cutOne_185 ?_
  refine go_aload_n C 1 rfl rfl dX8_cutOne_187 ?_
  refine go_get (v := .ref (G.2.2.1 44)) C (shX8 G) ltX8 lkX8_22 rfl dX8_cutOne_188 ?_
  refine go_iload_n C 2 rfl rfl dX8_cutOne_191 ?_
  refine go_iload_n C 3 rfl rfl dX8_cutOne_192 ?_
  refine go_bipush (v := 60) C rfl dX8_cutOne_193 ?_
  refine go_icmp_ne C 203 rfl dX8_cutOne_195 (fun hc => ?_) (fun hc => ?_)
  · replace hw := hw.1 hc
    refine go_bipush (v := 24) C rfl dX8_cutOne_203 ?_
    refine go_sub [4, 0] rfl ?_
    exact (gbX8_cutOne_205 C hr hR hnl hd) _ _ _ _ _ hw
  · replace hw := hw.2 hc
    refine go_bipush (v := 22) C rfl dX8_cutOne_198 ?_
    refine go_goto C 205 rfl dX8_cutOne_200 ?_
    refine go_sub [4, 0] rfl ?_
    exact (gbX8_cutOne_205 C hr hR hnl hd) _ _ _ _ _ hw
set_option maxRecDepth 20000 in
set_option maxHeartbeats 4000000 in
theorem gbX8_cutOne_19 {X : XT} {G : GT} {l : Launch} {d : Nat}  {post : Int32 → St → Prop} (C : Cx X G cX8_cutOne RX8) (hr : Rt X G (some .int) (fun v τ => ∃ r : Int32, v = some (.int r) ∧ post r τ)) (hR : Rm X l d) (hnl : X.2.2.2.2.2.2.2.2.2.2.1 = 6)  (hd : 6 ≤ d)   
    : ∀ (n : Nat) (v1 : Int32) (v2 : Int32) (v4 : Int32) (σ : St), wbX8_cutOne_19   post n v1 v2 v4 σ → Go X G 19 [(0, .ref (G.2.2.1 42)), (1, .int v1), (2, .int v2), (4, .int v4)] [] σ := by
  intro n
  induction n with
  | zero => intro v1 v2 v4 σ hw; exact hw.elim
  | succ n ih =>
    intro v1 v2 v4 σ hw
    have hw : (((gI σ 42 1) ≤ v4 →
      wbX8_cutOne_47 post v1 v2 v4 σ) ∧
    (¬ (gI σ 42 1) ≤ v4 →
      vp_in v4 300 ∧ (
      wpX8_isLetter (gI σ 43 v4.toNatClampNeg) σ (fun r_1 σ_2 =>
      ((r_1 = 0 →
        wbX8_cutOne_47 post v1 v2 v4 σ_2) ∧
      (¬ r_1 = 0 →
        ∀ v4_3 : Int32, v4_3 = v4 + 1 →
        wbX8_cutOne_19 post n v1 v2 v4_3 σ_2)))))) := hw
    refine go_iload C 3 rfl dX8_cutOne_19 ?_
    refine go_aload_n C 0 rfl rfl dX8_cutOne_21 ?_
    refine go_get (v := .int (gI σ 42 1)) C (shX8 G) ltX8 lkX8_31 rfl dX8_cutOne_22 ?_
    refine go_icmp_ge C 47 rfl dX8_cutOne_25 (fun hc => ?_) (fun hc => ?_)
    · replace hw := hw.1 hc
      exact (gbX8_cutOne_47 C hr hR hnl hd) _ _ _ _ hw
    · replace hw := hw.2 hc
      refine go_aload_n C 0 rfl rfl dX8_cutOne_28 ?_
      refine go_get (v := .ref (G.2.2.1 43)) C (shX8 G) ltX8 lkX8_11 rfl dX8_cutOne_29 ?_
      refine go_iload C 3 rfl dX8_cutOne_32 ?_
      refine go_iald C (saX8_bytes G) laX8_bytes hw.1 dX8_cutOne_34 ?_
      replace hw := hw.2
      refine go_callS (as := [.int (gI σ 43 v4.toNatClampNeg)]) C hR cwX8_63 (Nat.le_trans (by decide) hd) (by decide) rfl rfl (by decide) dX8_cutOne_35 (spX8_isLetter (Nat.le_refl _) hw) (fun v_ τ_ hw => ?_)
      obtain ⟨r_1, rfl, hw⟩ := hw
      obtain ⟨σ_2, rfl⟩ : ∃ z, z = τ_ := ⟨_, rfl⟩
      refine go_if_eq C 47 rfl dX8_cutOne_38 (fun hc => ?_) (fun hc => ?_)
      · replace hw := hw.1 hc
        exact (gbX8_cutOne_47 C hr hR hnl hd) _ _ _ _ hw
      · replace hw := hw.2 hc
        obtain ⟨v4_3, ev4_3⟩ : ∃ z : Int32, z = v4 + 1 := ⟨_, rfl⟩
        replace hw := hw v4_3 ev4_3
        refine go_iinc (v := v4_3) (lv2 := [(4, .int v4_3), (0, .ref (G.2.2.1 42)), (1, .int v1), (2, .int v2)]) C 3 rfl (by rw [ev4_3]; rfl) (by rw [hnl]; decide) rfl dX8_cutOne_41 ?_
        refine go_goto C 19 rfl dX8_cutOne_44 ?_
        refine go_sub [1, 2, 3, 0] rfl ?_
        exact ih _ _ _ _ hw
set_option maxRecDepth 20000 in
set_option maxHeartbeats 4000000 in
theorem gbX8_cutOne_76 {X : XT} {G : GT} {l : Launch} {d : Nat}  {post : Int32 → St → Prop} (C : Cx X G cX8_cutOne RX8) (hr : Rt X G (some .int) (fun v τ => ∃ r : Int32, v = some (.int r) ∧ post r τ)) (hR : Rm X l d) (hnl : X.2.2.2.2.2.2.2.2.2.2.1 = 6)  (hd : 6 ≤ d)   
    : ∀ (n : Nat) (v1 : Int32) (v4 : Int32) (v5 : Int32) (σ : St), wbX8_cutOne_76   post n v1 v4 v5 σ → Go X G 76 [(0, .ref (G.2.2.1 42)), (1, .int v1), (4, .int v4), (5, .int v5)] [] σ := by
  intro n
  induction n with
  | zero => intro v1 v4 v5 σ hw; exact hw.elim
  | succ n ih =>
    intro v1 v4 v5 σ hw
    have hw : (((gI σ 42 1) ≤ v4 →
      wbX8_cutOne_128 post v1 v4 v5 σ) ∧
    (¬ (gI σ 42 1) ≤ v4 →
      vp_in v4 300 ∧ (
      wpX8_isDigit (gI σ 43 v4.toNatClampNeg) σ (fun r_1 σ_2 =>
      ((r_1 = 0 →
        wbX8_cutOne_128 post v1 v4 v5 σ_2) ∧
      (¬ r_1 = 0 →
        vp_in v4 300 ∧ (
        wpJ9_min_7cf53 (((v5 * 10) + (gI σ_2 43 v4.toNatClampNeg)) - 48) 10000 σ_2 (fun r_3 σ_4 =>
        ∀ v4_5 : Int32, v4_5 = v4 + 1 →
        wbX8_cutOne_76 post n v1 v4_5 r_3 σ_4)))))))) := hw
    refine go_iload C 2 rfl dX8_cutOne_76 ?_
    refine go_aload_n C 0 rfl rfl dX8_cutOne_78 ?_
    refine go_get (v := .int (gI σ 42 1)) C (shX8 G) ltX8 lkX8_31 rfl dX8_cutOne_79 ?_
    refine go_icmp_ge C 128 rfl dX8_cutOne_82 (fun hc => ?_) (fun hc => ?_)
    · replace hw := hw.1 hc
      exact (gbX8_cutOne_128 C hr hR hnl hd) _ _ _ _ hw
    · replace hw := hw.2 hc
      refine go_aload_n C 0 rfl rfl dX8_cutOne_85 ?_
      refine go_get (v := .ref (G.2.2.1 43)) C (shX8 G) ltX8 lkX8_11 rfl dX8_cutOne_86 ?_
      refine go_iload C 2 rfl dX8_cutOne_89 ?_
      refine go_iald C (saX8_bytes G) laX8_bytes hw.1 dX8_cutOne_91 ?_
      replace hw := hw.2
      refine go_callS (as := [.int (gI σ 43 v4.toNatClampNeg)]) C hR cwX8_70 (Nat.le_trans (by decide) hd) (by decide) rfl rfl (by decide) dX8_cutOne_92 (spX8_isDigit (Nat.le_refl _) hw) (fun v_ τ_ hw => ?_)
      obtain ⟨r_1, rfl, hw⟩ := hw
      obtain ⟨σ_2, rfl⟩ : ∃ z, z = τ_ := ⟨_, rfl⟩
      refine go_if_eq C 128 rfl dX8_cutOne_95 (fun hc => ?_) (fun hc => ?_)
      · replace hw := hw.1 hc
        exact (gbX8_cutOne_128 C hr hR hnl hd) _ _ _ _ hw
      · replace hw := hw.2 hc
        refine go_iload C 3 rfl dX8_cutOne_98 ?_
        refine go_bipush (v := 10) C rfl dX8_cutOne_100 ?_
        refine go_imul C dX8_cutOne_102 ?_
        refine go_aload_n C 0 rfl rfl dX8_cutOne_103 ?_
        refine go_get (v := .ref (G.2.2.1 43)) C (shX8 G) ltX8 lkX8_11 rfl dX8_cutOne_104 ?_
        refine go_iload C 2 rfl dX8_cutOne_107 ?_
        refine go_iald C (saX8_bytes G) laX8_bytes hw.1 dX8_cutOne_109 ?_
        replace hw := hw.2
        refine go_iadd C dX8_cutOne_110 ?_
        refine go_bipush (v := 48) C rfl dX8_cutOne_111 ?_
        refine go_isub C dX8_cutOne_113 ?_
        refine go_sipush (v := 10000) C rfl dX8_cutOne_114 ?_
        refine go_callS (as := [.int (((v5 * 10) + (gI σ_2 43 v4.toNatClampNeg)) - 48), .int 10000]) C hR cwX8_73 (Nat.le_trans (by decide) hd) (by decide) rfl rfl (by decide) dX8_cutOne_117 (spJ9_min_7cf53 (Nat.le_refl _) hw) (fun v_ τ_ hw => ?_)
        obtain ⟨r_3, rfl, hw⟩ := hw
        obtain ⟨σ_4, rfl⟩ : ∃ z, z = τ_ := ⟨_, rfl⟩
        refine go_istore (lv2 := [(5, .int r_3), (0, .ref (G.2.2.1 42)), (1, .int v1), (4, .int v4)]) C (by rw [hnl]; decide) rfl dX8_cutOne_120 ?_
        obtain ⟨v4_5, ev4_5⟩ : ∃ z : Int32, z = v4 + 1 := ⟨_, rfl⟩
        replace hw := hw v4_5 ev4_5
        refine go_iinc (v := v4_5) (lv2 := [(4, .int v4_5), (5, .int r_3), (0, .ref (G.2.2.1 42)), (1, .int v1)]) C 3 rfl (by rw [ev4_5]; rfl) (by rw [hnl]; decide) rfl dX8_cutOne_122 ?_
        refine go_goto C 76 rfl dX8_cutOne_125 ?_
        refine go_sub [2, 3, 0, 1] rfl ?_
        exact ih _ _ _ _ hw
set_option maxRecDepth 20000 in
set_option maxHeartbeats 4000000 in
theorem gbX8_cutOne_159 {X : XT} {G : GT} {l : Launch} {d : Nat}  {post : Int32 → St → Prop} (C : Cx X G cX8_cutOne RX8) (hr : Rt X G (some .int) (fun v τ => ∃ r : Int32, v = some (.int r) ∧ post r τ)) (hR : Rm X l d) (hnl : X.2.2.2.2.2.2.2.2.2.2.1 = 6)  (hd : 6 ≤ d)   
    : ∀ (v1 : Int32) (v3 : Int32) (v4 : Int32) (σ : St), wbX8_cutOne_159   post v1 v3 v4 σ → Go X G 159 [(0, .ref (G.2.2.1 42)), (1, .int v1), (3, .int v3), (4, .int v4)] [] σ := by
  intro v1 v3 v4 σ hw
  have hw : (((gI σ 42 1) ≤ v4 →
    wbX8_cutOne_185 post v1 v3 v4 0 σ) ∧
  (¬ (gI σ 42 1) ≤ v4 →
    vp_in v4 300 ∧ (
    ((¬ (gI σ 43 v4.toNatClampNeg) = 61 →
      wbX8_cutOne_185 post v1 v3 v4 0 σ) ∧
    ((gI σ 43 v4.toNatClampNeg) = 61 →
      wbX8_cutOne_185 post v1 v3 v4 1 σ))))) := hw
  refine go_iload C 3 rfl dX8_cutOne_159 ?_
  refine go_aload_n C 0 rfl rfl dX8_cutOne_161 ?_
  refine go_get (v := .int (gI σ 42 1)) C (shX8 G) ltX8 lkX8_31 rfl dX8_cutOne_162 ?_
  refine go_icmp_ge C 184 rfl dX8_cutOne_165 (fun hc => ?_) (fun hc => ?_)
  · replace hw := hw.1 hc
    refine go_iconst (v := 0) C rfl dX8_cutOne_184 ?_
    exact (gbX8_cutOne_185 C hr hR hnl hd) _ _ _ _ _ hw
  · replace hw := hw.2 hc
    refine go_aload_n C 0 rfl rfl dX8_cutOne_168 ?_
    refine go_get (v := .ref (G.2.2.1 43)) C (shX8 G) ltX8 lkX8_11 rfl dX8_cutOne_169 ?_
    refine go_iload C 3 rfl dX8_cutOne_172 ?_
    refine go_iald C (saX8_bytes G) laX8_bytes hw.1 dX8_cutOne_174 ?_
    replace hw := hw.2
    refine go_bipush (v := 61) C rfl dX8_cutOne_175 ?_
    refine go_icmp_ne C 184 rfl dX8_cutOne_177 (fun hc => ?_) (fun hc => ?_)
    · replace hw := hw.1 hc
      refine go_iconst (v := 0) C rfl dX8_cutOne_184 ?_
      exact (gbX8_cutOne_185 C hr hR hnl hd) _ _ _ _ _ hw
    · replace hw := hw.2 hc
      refine go_iconst (v := 1) C rfl dX8_cutOne_180 ?_
      refine go_goto C 185 rfl dX8_cutOne_181 ?_
      exact (gbX8_cutOne_185 C hr hR hnl hd) _ _ _ _ _ hw
set_option maxRecDepth 20000 in
set_option maxHeartbeats 4000000 in
theorem spX8_cutOne {l : Launch} {G : GT} {d : Nat}  (hd : 6 ≤ d)   {a1 : Int32} {a2 : Int32} {σ : St} {post : Int32 → St → Prop} (hw : wpX8_cutOne  a1 a2 σ post) : Sp l G d yX8_cutOne cX8_cutOne 6 (some .int) [.ref (G.2.2.1 42), .int a1, .int a2] σ (fun v τ => ∃ r : Int32, v = some (.int r) ∧ post r τ) := by
  refine Sp.of (by decide) (by decide) fun X C hr hR hnl => ?_
  show Go X G 0 [(0, .ref (G.2.2.1 42)), (1, .int a1), (2, .int a2)] [] σ
  have hw : vp_in a2 300 ∧ (
  ∀ v3_1 : Int32, v3_1 = (gI σ 43 a2.toNatClampNeg) →
  ∀ v4_2 : Int32, v4_2 = (a2 + 1) →
  wpX8_isLetter v3_1 σ (fun r_3 σ_4 =>
  ((r_3 = 0 →
    wpX8_isDigit v3_1 σ_4 (fun r_5 σ_6 =>
    ((r_5 = 0 →
      ((v3_1 = 60 →
        wbX8_cutOne_159 post a1 v3_1 v4_2 σ_6) ∧
      (¬ v3_1 = 60 →
        ((¬ v3_1 = 62 →
          wpJ0_indexOf_0f7a4 3 ((v3_1.toUInt32 % 65536).toInt32) σ_6 (fun r_7 σ_8 =>
          ((0 ≤ r_7 →
            vp_in a1 301 ∧ (
            ∀ σ_9 : St, σ_9 = sI σ_8 44 a1.toNatClampNeg (26 + r_7) →
            post v4_2 σ_9)) ∧
          (¬ 0 ≤ r_7 →
            vp_in a1 301 ∧ (
            ∀ σ_10 : St, σ_10 = sI σ_8 44 a1.toNatClampNeg 38 →
            post v4_2 σ_10))))) ∧
        (v3_1 = 62 →
          wbX8_cutOne_159 post a1 v3_1 v4_2 σ_6))))) ∧
    (¬ r_5 = 0 →
      ∀ v5_11 : Int32, v5_11 = (v3_1 - 48) →
      ∃ n, wbX8_cutOne_76 post n a1 v4_2 v5_11 σ_6)))) ∧
  (¬ r_3 = 0 →
    ∃ n, wbX8_cutOne_19 post n a1 a2 v4_2 σ_4)))) := hw
  refine go_aload_n C 0 rfl rfl dX8_cutOne_0 ?_
  refine go_get (v := .ref (G.2.2.1 43)) C (shX8 G) ltX8 lkX8_11 rfl dX8_cutOne_1 ?_
  refine go_iload_n C 2 rfl rfl dX8_cutOne_4 ?_
  refine go_iald C (saX8_bytes G) laX8_bytes hw.1 dX8_cutOne_5 ?_
  replace hw := hw.2
  refine go_topi (fun v3_1 ev3_1 => ?_)
  replace hw := hw v3_1 ev3_1
  refine go_istore_n (lv2 := [(3, .int v3_1), (0, .ref (G.2.2.1 42)), (1, .int a1), (2, .int a2)]) C rfl (by rw [hnl]; decide) rfl dX8_cutOne_6 ?_
  refine go_iload_n C 3 rfl rfl dX8_cutOne_7 ?_
  refine go_iconst (v := 1) C rfl dX8_cutOne_8 ?_
  refine go_iadd C dX8_cutOne_9 ?_
  refine go_topi (fun v4_2 ev4_2 => ?_)
  replace hw := hw v4_2 ev4_2
  refine go_istore (lv2 := [(4, .int v4_2), (3, .int v3_1), (0, .ref (G.2.2.1 42)), (1, .int a1), (2, .int a2)]) C (by rw [hnl]; decide) rfl dX8_cutOne_10 ?_
  refine go_iload_n C 1 rfl rfl dX8_cutOne_12 ?_
  refine go_callS (as := [.int v3_1]) C hR cwX8_63 (Nat.le_trans (by decide) hd) (by decide) rfl rfl (by decide) dX8_cutOne_13 (spX8_isLetter (Nat.le_refl _) hw) (fun v_ τ_ hw => ?_)
  obtain ⟨r_3, rfl, hw⟩ := hw
  obtain ⟨σ_4, rfl⟩ : ∃ z, z = τ_ := ⟨_, rfl⟩
  refine go_if_eq C 63 rfl dX8_cutOne_16 (fun hc => ?_) (fun hc => ?_)
  · replace hw := hw.1 hc
    refine go_iload_n C 1 rfl rfl dX8_cutOne_63 ?_
    refine go_callS (as := [.int v3_1]) C hR cwX8_70 (Nat.le_trans (by decide) hd) (by decide) rfl rfl (by decide) dX8_cutOne_64 (spX8_isDigit (Nat.le_refl _) hw) (fun v_ τ_ hw => ?_)
    obtain ⟨r_5, rfl, hw⟩ := hw
    obtain ⟨σ_6, rfl⟩ : ∃ z, z = τ_ := ⟨_, rfl⟩
    refine go_if_eq C 147 rfl dX8_cutOne_67 (fun hc => ?_) (fun hc => ?_)
    · replace hw := hw.1 hc
      refine go_iload_n C 1 rfl rfl dX8_cutOne_147 ?_
      refine go_bipush (v := 60) C rfl dX8_cutOne_148 ?_
      refine go_icmp_eq C 159 rfl dX8_cutOne_150 (fun hc => ?_) (fun hc => ?_)
      · replace hw := hw.1 hc
        refine go_sub [2, 3, 1, 0] rfl ?_
        exact (gbX8_cutOne_159 C hr hR hnl hd) _ _ _ _ hw
      · replace hw := hw.2 hc
        refine go_iload_n C 1 rfl rfl dX8_cutOne_153 ?_
        refine go_bipush (v := 62) C rfl dX8_cutOne_154 ?_
        refine go_icmp_ne C 235 rfl dX8_cutOne_156 (fun hc => ?_) (fun hc => ?_)
        · replace hw := hw.1 hc
          refine go_lds3 C dX8_cutOne_235 ?_
          refine go_iload_n C 1 rfl rfl dX8_cutOne_237 ?_
          refine go_i2c C dX8_cutOne_238 ?_
          refine go_callT (as := [.int (v3_1.toUInt32 % 65536).toInt32]) C hR (show 3 < 4 by decide) cwX8_80 (Nat.le_trans (by decide) hd) (by decide) rfl rfl (by decide) dX8_cutOne_239 (spJ0_indexOf_0f7a4 (Nat.le_refl _) (show 3 < 4 by decide) hw) (fun v_ τ_ hw => ?_)
          obtain ⟨r_7, rfl, hw⟩ := hw
          obtain ⟨σ_8, rfl⟩ : ∃ z, z = τ_ := ⟨_, rfl⟩
          refine go_istore (lv2 := [(5, .int r_7), (4, .int v4_2), (3, .int v3_1), (0, .ref (G.2.2.1 42)), (1, .int a1), (2, .int a2)]) C (by rw [hnl]; decide) rfl dX8_cutOne_242 ?_
          refine go_aload_n C 3 rfl rfl dX8_cutOne_244 ?_
          refine go_get (v := .ref (G.2.2.1 44)) C (shX8 G) ltX8 lkX8_22 rfl dX8_cutOne_245 ?_
          refine go_iload_n C 4 rfl rfl dX8_cutOne_248 ?_
          refine go_iload C 0 rfl dX8_cutOne_249 ?_
          refine go_if_ge C 259 rfl dX8_cutOne_251 (fun hc => ?_) (fun hc => ?_)
          · replace hw := hw.1 hc
            refine go_bipush (v := 26) C rfl dX8_cutOne_259 ?_
            refine go_iload C 0 rfl dX8_cutOne_261 ?_
            refine go_iadd C dX8_cutOne_263 ?_
            refine go_iast C (saX8_kinds G) laX8_kinds hw.1 dX8_cutOne_264 (go_nm fun σ_9 eσ_9 => ?_)
            replace hw := hw.2 σ_9 eσ_9
            refine go_iload C 1 rfl dX8_cutOne_265 ?_
            exact go_iret C hr ⟨_, rfl, hw⟩ dX8_cutOne_267
          · replace hw := hw.2 hc
            refine go_bipush (v := 38) C rfl dX8_cutOne_254 ?_
            refine go_goto C 264 rfl dX8_cutOne_256 ?_
            refine go_iast C (saX8_kinds G) laX8_kinds hw.1 dX8_cutOne_264 (go_nm fun σ_10 eσ_10 => ?_)
            replace hw := hw.2 σ_10 eσ_10
            refine go_iload C 1 rfl dX8_cutOne_265 ?_
            exact go_iret C hr ⟨_, rfl, hw⟩ dX8_cutOne_267
        · replace hw := hw.2 hc
          refine go_sub [2, 3, 1, 0] rfl ?_
          exact (gbX8_cutOne_159 C hr hR hnl hd) _ _ _ _ hw
    · replace hw := hw.2 hc
      refine go_iload_n C 1 rfl rfl dX8_cutOne_70 ?_
      refine go_bipush (v := 48) C rfl dX8_cutOne_71 ?_
      refine go_isub C dX8_cutOne_73 ?_
      refine go_topi (fun v5_11 ev5_11 => ?_)
      replace hw := hw v5_11 ev5_11
      refine go_istore (lv2 := [(5, .int v5_11), (4, .int v4_2), (3, .int v3_1), (0, .ref (G.2.2.1 42)), (1, .int a1), (2, .int a2)]) C (by rw [hnl]; decide) rfl dX8_cutOne_74 ?_
      refine go_sub [3, 4, 1, 0] rfl ?_
      obtain ⟨n_0, hw⟩ := hw
      exact (gbX8_cutOne_76 C hr hR hnl hd) n_0 _ _ _ _ hw
  · replace hw := hw.2 hc
    refine go_sub [2, 3, 4, 0] rfl ?_
    obtain ⟨n_0, hw⟩ := hw
    exact (gbX8_cutOne_19 C hr hR hnl hd) n_0 _ _ _ _ hw
-- CradleNames$Reader.cut()V
def wbX8_cut_72   (post : St → Prop) (v1 : Int32) (σ : St) : Prop :=
  vp_in v1 301 ∧ (
  ∀ σ_1 : St, σ_1 = sI σ 44 v1.toNatClampNeg 37 →
  vp_in v1 301 ∧ (
  ∀ σ_2 : St, σ_2 = sI σ_1 45 v1.toNatClampNeg (gI σ_1 42 1) →
  post σ_2))
def wbX8_cut_6   (post : St → Prop) : Nat → Int32 → Int32 → Int32 → St → Prop
  | 0, _, _, _, _ => False
  | n + 1, v1, v2, v3, σ =>
    ((300 ≤ v3 →
      wbX8_cut_72 post v1 σ) ∧
    (¬ 300 ≤ v3 →
      (((gI σ 42 1) ≤ v2 →
        wbX8_cut_72 post v1 σ) ∧
      (¬ (gI σ 42 1) ≤ v2 →
        vp_in v2 300 ∧ (
        (((gI σ 43 v2.toNatClampNeg) = 32 →
          ∀ v2_1 : Int32, v2_1 = v2 + 1 →
          ∀ v3_2 : Int32, v3_2 = v3 + 1 →
          wbX8_cut_6 post n v1 v2_1 v3_2 σ) ∧
        (¬ (gI σ 43 v2.toNatClampNeg) = 32 →
          vp_in v2 300 ∧ (
          ((¬ (gI σ 43 v2.toNatClampNeg) = 10 →
            vp_in v1 301 ∧ (
            ∀ σ_3 : St, σ_3 = sI σ 45 v1.toNatClampNeg v2 →
            wpX8_cutOne v1 v2 σ_3 (fun r_4 σ_5 =>
            ∀ v1_6 : Int32, v1_6 = v1 + 1 →
            ∀ v3_7 : Int32, v3_7 = v3 + 1 →
            wbX8_cut_6 post n v1_6 r_4 v3_7 σ_5))) ∧
          ((gI σ 43 v2.toNatClampNeg) = 10 →
            ∀ v2_8 : Int32, v2_8 = v2 + 1 →
            ∀ v3_9 : Int32, v3_9 = v3 + 1 →
            wbX8_cut_6 post n v1 v2_8 v3_9 σ))))))))))
def wpX8_cut   (σ : St) (post : St → Prop) : Prop :=
  ∃ n, wbX8_cut_6 post n 0 0 0 σ
set_option maxRecDepth 20000 in
set_option maxHeartbeats 4000000 in
theorem gbX8_cut_72 {X : XT} {G : GT} {l : Launch} {d : Nat}  {post : St → Prop} (C : Cx X G cX8_cut RX8) (hr : Rt X G none (fun v τ => v = none ∧ post τ)) (hR : Rm X l d) (hnl : X.2.2.2.2.2.2.2.2.2.2.1 = 4)  (hd : 7 ≤ d)   
    : ∀ (v1 : Int32) (σ : St), wbX8_cut_72   post v1 σ → Go X G 72 [(0, .ref (G.2.2.1 42)), (1, .int v1)] [] σ := by
  intro v1 σ hw
  have hw : vp_in v1 301 ∧ (
  ∀ σ_1 : St, σ_1 = sI σ 44 v1.toNatClampNeg 37 →
  vp_in v1 301 ∧ (
  ∀ σ_2 : St, σ_2 = sI σ_1 45 v1.toNatClampNeg (gI σ_1 42 1) →
  post σ_2)) := hw
  refine go_aload_n C 0 rfl rfl dX8_cut_72 ?_
  refine go_get (v := .ref (G.2.2.1 44)) C (shX8 G) ltX8 lkX8_22 rfl dX8_cut_73 ?_
  refine go_iload_n C 1 rfl rfl dX8_cut_76 ?_
  refine go_bipush (v := 37) C rfl dX8_cut_77 ?_
  refine go_iast C (saX8_kinds G) laX8_kinds hw.1 dX8_cut_79 (go_nm fun σ_1 eσ_1 => ?_)
  replace hw := hw.2 σ_1 eσ_1
  refine go_aload_n C 0 rfl rfl dX8_cut_80 ?_
  refine go_get (v := .ref (G.2.2.1 45)) C (shX8 G) ltX8 lkX8_25 rfl dX8_cut_81 ?_
  refine go_iload_n C 1 rfl rfl dX8_cut_84 ?_
  refine go_aload_n C 0 rfl rfl dX8_cut_85 ?_
  refine go_get (v := .int (gI σ_1 42 1)) C (shX8 G) ltX8 lkX8_31 rfl dX8_cut_86 ?_
  refine go_iast C (saX8_starts G) laX8_starts hw.1 dX8_cut_89 (go_nm fun σ_2 eσ_2 => ?_)
  replace hw := hw.2 σ_2 eσ_2
  exact go_vret C hr hw dX8_cut_90
set_option maxRecDepth 20000 in
set_option maxHeartbeats 4000000 in
theorem gbX8_cut_6 {X : XT} {G : GT} {l : Launch} {d : Nat}  {post : St → Prop} (C : Cx X G cX8_cut RX8) (hr : Rt X G none (fun v τ => v = none ∧ post τ)) (hR : Rm X l d) (hnl : X.2.2.2.2.2.2.2.2.2.2.1 = 4)  (hd : 7 ≤ d)   
    : ∀ (n : Nat) (v1 : Int32) (v2 : Int32) (v3 : Int32) (σ : St), wbX8_cut_6   post n v1 v2 v3 σ → Go X G 6 [(0, .ref (G.2.2.1 42)), (1, .int v1), (2, .int v2), (3, .int v3)] [] σ := by
  intro n
  induction n with
  | zero => intro v1 v2 v3 σ hw; exact hw.elim
  | succ n ih =>
    intro v1 v2 v3 σ hw
    have hw : ((300 ≤ v3 →
      wbX8_cut_72 post v1 σ) ∧
    (¬ 300 ≤ v3 →
      (((gI σ 42 1) ≤ v2 →
        wbX8_cut_72 post v1 σ) ∧
      (¬ (gI σ 42 1) ≤ v2 →
        vp_in v2 300 ∧ (
        (((gI σ 43 v2.toNatClampNeg) = 32 →
          ∀ v2_1 : Int32, v2_1 = v2 + 1 →
          ∀ v3_2 : Int32, v3_2 = v3 + 1 →
          wbX8_cut_6 post n v1 v2_1 v3_2 σ) ∧
        (¬ (gI σ 43 v2.toNatClampNeg) = 32 →
          vp_in v2 300 ∧ (
          ((¬ (gI σ 43 v2.toNatClampNeg) = 10 →
            vp_in v1 301 ∧ (
            ∀ σ_3 : St, σ_3 = sI σ 45 v1.toNatClampNeg v2 →
            wpX8_cutOne v1 v2 σ_3 (fun r_4 σ_5 =>
            ∀ v1_6 : Int32, v1_6 = v1 + 1 →
            ∀ v3_7 : Int32, v3_7 = v3 + 1 →
            wbX8_cut_6 post n v1_6 r_4 v3_7 σ_5))) ∧
          ((gI σ 43 v2.toNatClampNeg) = 10 →
            ∀ v2_8 : Int32, v2_8 = v2 + 1 →
            ∀ v3_9 : Int32, v3_9 = v3 + 1 →
            wbX8_cut_6 post n v1 v2_8 v3_9 σ)))))))))) := hw
    refine go_iload_n C 3 rfl rfl dX8_cut_6 ?_
    refine go_sipush (v := 300) C rfl dX8_cut_7 ?_
    refine go_icmp_ge C 72 rfl dX8_cut_10 (fun hc => ?_) (fun hc => ?_)
    · replace hw := hw.1 hc
      refine go_sub [0, 1] rfl ?_
      exact (gbX8_cut_72 C hr hR hnl hd) _ _ hw
    · replace hw := hw.2 hc
      refine go_iload_n C 2 rfl rfl dX8_cut_13 ?_
      refine go_aload_n C 0 rfl rfl dX8_cut_14 ?_
      refine go_get (v := .int (gI σ 42 1)) C (shX8 G) ltX8 lkX8_31 rfl dX8_cut_15 ?_
      refine go_icmp_ge C 72 rfl dX8_cut_18 (fun hc => ?_) (fun hc => ?_)
      · replace hw := hw.1 hc
        refine go_sub [0, 1] rfl ?_
        exact (gbX8_cut_72 C hr hR hnl hd) _ _ hw
      · replace hw := hw.2 hc
        refine go_aload_n C 0 rfl rfl dX8_cut_21 ?_
        refine go_get (v := .ref (G.2.2.1 43)) C (shX8 G) ltX8 lkX8_11 rfl dX8_cut_22 ?_
        refine go_iload_n C 2 rfl rfl dX8_cut_25 ?_
        refine go_iald C (saX8_bytes G) laX8_bytes hw.1 dX8_cut_26 ?_
        replace hw := hw.2
        refine go_bipush (v := 32) C rfl dX8_cut_27 ?_
        refine go_icmp_eq C 43 rfl dX8_cut_29 (fun hc => ?_) (fun hc => ?_)
        · replace hw := hw.1 hc
          obtain ⟨v2_1, ev2_1⟩ : ∃ z : Int32, z = v2 + 1 := ⟨_, rfl⟩
          replace hw := hw v2_1 ev2_1
          refine go_iinc (v := v2_1) (lv2 := [(2, .int v2_1), (0, .ref (G.2.2.1 42)), (1, .int v1), (3, .int v3)]) C 2 rfl (by rw [ev2_1]; rfl) (by rw [hnl]; decide) rfl dX8_cut_43 ?_
          refine go_goto C 66 rfl dX8_cut_46 ?_
          obtain ⟨v3_2, ev3_2⟩ : ∃ z : Int32, z = v3 + 1 := ⟨_, rfl⟩
          replace hw := hw v3_2 ev3_2
          refine go_iinc (v := v3_2) (lv2 := [(3, .int v3_2), (2, .int v2_1), (0, .ref (G.2.2.1 42)), (1, .int v1)]) C 3 rfl (by rw [ev3_2]; rfl) (by rw [hnl]; decide) rfl dX8_cut_66 ?_
          refine go_goto C 6 rfl dX8_cut_69 ?_
          refine go_sub [2, 3, 1, 0] rfl ?_
          exact ih _ _ _ _ hw
        · replace hw := hw.2 hc
          refine go_aload_n C 0 rfl rfl dX8_cut_32 ?_
          refine go_get (v := .ref (G.2.2.1 43)) C (shX8 G) ltX8 lkX8_11 rfl dX8_cut_33 ?_
          refine go_iload_n C 2 rfl rfl dX8_cut_36 ?_
          refine go_iald C (saX8_bytes G) laX8_bytes hw.1 dX8_cut_37 ?_
          replace hw := hw.2
          refine go_bipush (v := 10) C rfl dX8_cut_38 ?_
          refine go_icmp_ne C 49 rfl dX8_cut_40 (fun hc => ?_) (fun hc => ?_)
          · replace hw := hw.1 hc
            refine go_aload_n C 0 rfl rfl dX8_cut_49 ?_
            refine go_get (v := .ref (G.2.2.1 45)) C (shX8 G) ltX8 lkX8_25 rfl dX8_cut_50 ?_
            refine go_iload_n C 1 rfl rfl dX8_cut_53 ?_
            refine go_iload_n C 2 rfl rfl dX8_cut_54 ?_
            refine go_iast C (saX8_starts G) laX8_starts hw.1 dX8_cut_55 (go_nm fun σ_3 eσ_3 => ?_)
            replace hw := hw.2 σ_3 eσ_3
            refine go_aload_n C 0 rfl rfl dX8_cut_56 ?_
            refine go_iload_n C 1 rfl rfl dX8_cut_57 ?_
            refine go_iload_n C 2 rfl rfl dX8_cut_58 ?_
            refine go_callV (as := [.int v1, .int v2]) C hR (shX8 G) ltX8 cwX8_59 (Nat.le_trans (by decide) hd) (by decide) rfl rfl (by decide) dX8_cut_59 (spX8_cutOne (Nat.le_refl _) hw) (fun v_ τ_ hw => ?_)
            obtain ⟨r_4, rfl, hw⟩ := hw
            obtain ⟨σ_5, rfl⟩ : ∃ z, z = τ_ := ⟨_, rfl⟩
            refine go_istore_n (lv2 := [(2, .int r_4), (0, .ref (G.2.2.1 42)), (1, .int v1), (3, .int v3)]) C rfl (by rw [hnl]; decide) rfl dX8_cut_62 ?_
            obtain ⟨v1_6, ev1_6⟩ : ∃ z : Int32, z = v1 + 1 := ⟨_, rfl⟩
            replace hw := hw v1_6 ev1_6
            refine go_iinc (v := v1_6) (lv2 := [(1, .int v1_6), (2, .int r_4), (0, .ref (G.2.2.1 42)), (3, .int v3)]) C 2 rfl (by rw [ev1_6]; rfl) (by rw [hnl]; decide) rfl dX8_cut_63 ?_
            obtain ⟨v3_7, ev3_7⟩ : ∃ z : Int32, z = v3 + 1 := ⟨_, rfl⟩
            replace hw := hw v3_7 ev3_7
            refine go_iinc (v := v3_7) (lv2 := [(3, .int v3_7), (1, .int v1_6), (2, .int r_4), (0, .ref (G.2.2.1 42))]) C 3 rfl (by rw [ev3_7]; rfl) (by rw [hnl]; decide) rfl dX8_cut_66 ?_
            refine go_goto C 6 rfl dX8_cut_69 ?_
            refine go_sub [3, 1, 2, 0] rfl ?_
            exact ih _ _ _ _ hw
          · replace hw := hw.2 hc
            obtain ⟨v2_8, ev2_8⟩ : ∃ z : Int32, z = v2 + 1 := ⟨_, rfl⟩
            replace hw := hw v2_8 ev2_8
            refine go_iinc (v := v2_8) (lv2 := [(2, .int v2_8), (0, .ref (G.2.2.1 42)), (1, .int v1), (3, .int v3)]) C 2 rfl (by rw [ev2_8]; rfl) (by rw [hnl]; decide) rfl dX8_cut_43 ?_
            refine go_goto C 66 rfl dX8_cut_46 ?_
            obtain ⟨v3_9, ev3_9⟩ : ∃ z : Int32, z = v3 + 1 := ⟨_, rfl⟩
            replace hw := hw v3_9 ev3_9
            refine go_iinc (v := v3_9) (lv2 := [(3, .int v3_9), (2, .int v2_8), (0, .ref (G.2.2.1 42)), (1, .int v1)]) C 3 rfl (by rw [ev3_9]; rfl) (by rw [hnl]; decide) rfl dX8_cut_66 ?_
            refine go_goto C 6 rfl dX8_cut_69 ?_
            refine go_sub [2, 3, 1, 0] rfl ?_
            exact ih _ _ _ _ hw
set_option maxRecDepth 20000 in
set_option maxHeartbeats 4000000 in
theorem spX8_cut {l : Launch} {G : GT} {d : Nat}  (hd : 7 ≤ d)    {σ : St} {post : St → Prop} (hw : wpX8_cut   σ post) : Sp l G d yX8_cut cX8_cut 4 none [.ref (G.2.2.1 42)] σ (fun v τ => v = none ∧ post τ) := by
  refine Sp.of (by decide) (by decide) fun X C hr hR hnl => ?_
  show Go X G 0 [(0, .ref (G.2.2.1 42))] [] σ
  have hw : ∃ n, wbX8_cut_6 post n 0 0 0 σ := hw
  refine go_iconst (v := 0) C rfl dX8_cut_0 ?_
  refine go_istore_n (lv2 := [(1, .int 0), (0, .ref (G.2.2.1 42))]) C rfl (by rw [hnl]; decide) rfl dX8_cut_1 ?_
  refine go_iconst (v := 0) C rfl dX8_cut_2 ?_
  refine go_istore_n (lv2 := [(2, .int 0), (1, .int 0), (0, .ref (G.2.2.1 42))]) C rfl (by rw [hnl]; decide) rfl dX8_cut_3 ?_
  refine go_iconst (v := 0) C rfl dX8_cut_4 ?_
  refine go_istore_n (lv2 := [(3, .int 0), (2, .int 0), (1, .int 0), (0, .ref (G.2.2.1 42))]) C rfl (by rw [hnl]; decide) rfl dX8_cut_5 ?_
  refine go_sub [3, 2, 1, 0] rfl ?_
  obtain ⟨n_0, hw⟩ := hw
  exact (gbX8_cut_6 C hr hR hnl hd) n_0 _ _ _ _ hw
-- CradleNames$Reader.read(LCradleNames$Taste;)Z
def wbX8_read_83 (k1 : Nat)  (post : Int32 → St → Prop)  (σ : St) : Prop :=
  ∀ σ_1 : St, σ_1 = sI σ 42 1 0 →
  ((¬ (gI σ_1 42 2) = 0 →
    post 0 σ_1) ∧
  ((gI σ_1 42 2) = 0 →
    post 1 σ_1))
def wbX8_read_48 (k1 : Nat)  (post : Int32 → St → Prop) : Nat → Int32 → St → Prop
  | 0, _, _ => False
  | n + 1, v2, σ =>
    ((12 < v2 →
      wbX8_read_83 k1 post σ) ∧
    (¬ 12 < v2 →
      (((gI σ 42 8) = 37 →
        wbX8_read_83 k1 post σ) ∧
      (¬ (gI σ 42 8) = 37 →
        (((gI σ 42 8) = 39 →
          wbX8_read_83 k1 post σ) ∧
        (¬ (gI σ 42 8) = 39 →
          wpX8_clause v2 σ (fun σ_2 =>
          ∀ v2_3 : Int32, v2_3 = v2 + 1 →
          wbX8_read_48 k1 post n v2_3 σ_2)))))))
def wpX8_read (k1 : Nat)  (σ : St) (post : Int32 → St → Prop) : Prop :=
  ∀ σ_1 : St, σ_1 = sR σ 42 9 (some (30 + 2 * k1)) →
  ∃ k_2, gR σ_1 42 9 = some (30 + 2 * k_2) ∧ k_2 < 6 ∧ (
  wpX9_clear k_2 σ_1 (fun σ_4 =>
  ∀ σ_5 : St, σ_5 = sI σ_4 42 2 0 →
  ∀ σ_6 : St, σ_6 = sI σ_5 42 3 (-1) →
  ∀ σ_7 : St, σ_7 = sI σ_6 42 10 0 →
  wpX8_cut  σ_7 (fun σ_9 =>
  ∀ σ_10 : St, σ_10 = sI σ_9 42 7 0 →
  vp_in 0 301 ∧ (
  ∀ σ_11 : St, σ_11 = sI σ_10 42 8 (gI σ_10 44 (0 : Int32).toNatClampNeg) →
  ∃ n, wbX8_read_48 k1 post n 0 σ_11))))
set_option maxRecDepth 20000 in
set_option maxHeartbeats 4000000 in
theorem gbX8_read_83 {X : XT} {G : GT} {l : Launch} {d : Nat} {k1 : Nat} {post : Int32 → St → Prop} (C : Cx X G cX8_read RX8) (hr : Rt X G (some .boolean) (fun v τ => ∃ r : Int32, v = some (.int r) ∧ post r τ)) (hR : Rm X l d) (hnl : X.2.2.2.2.2.2.2.2.2.2.1 = 3)  (hd : 60 ≤ d) (hk1 : k1 < 6)  
    : ∀ (σ : St), wbX8_read_83 k1  post σ → Go X G 83 [(0, .ref (G.2.2.1 42))] [] σ := by
  intro σ hw
  have hw : ∀ σ_1 : St, σ_1 = sI σ 42 1 0 →
  ((¬ (gI σ_1 42 2) = 0 →
    post 0 σ_1) ∧
  ((gI σ_1 42 2) = 0 →
    post 1 σ_1)) := hw
  refine go_aload_n C 0 rfl rfl dX8_read_83 ?_
  refine go_iconst (v := 0) C rfl dX8_read_84 ?_
  refine go_puti C (shX8 G) ltX8 lpX8_31 (show 1 < 11 by decide) (pxX8_1 G _ _) dX8_read_85 (go_nm fun σ_1 eσ_1 => ?_)
  replace hw := hw σ_1 eσ_1
  refine go_aload_n C 0 rfl rfl dX8_read_88 ?_
  refine go_get (v := .int (gI σ_1 42 2)) C (shX8 G) ltX8 lkX8_15 rfl dX8_read_89 ?_
  refine go_if_ne C 99 rfl dX8_read_92 (fun hc => ?_) (fun hc => ?_)
  · replace hw := hw.1 hc
    refine go_iconst (v := 0) C rfl dX8_read_99 ?_
    exact go_zret C hr rfl ⟨_, rfl, hw⟩ dX8_read_100
  · replace hw := hw.2 hc
    refine go_iconst (v := 1) C rfl dX8_read_95 ?_
    refine go_goto C 100 rfl dX8_read_96 ?_
    exact go_zret C hr rfl ⟨_, rfl, hw⟩ dX8_read_100
set_option maxRecDepth 20000 in
set_option maxHeartbeats 4000000 in
theorem gbX8_read_48 {X : XT} {G : GT} {l : Launch} {d : Nat} {k1 : Nat} {post : Int32 → St → Prop} (C : Cx X G cX8_read RX8) (hr : Rt X G (some .boolean) (fun v τ => ∃ r : Int32, v = some (.int r) ∧ post r τ)) (hR : Rm X l d) (hnl : X.2.2.2.2.2.2.2.2.2.2.1 = 3)  (hd : 60 ≤ d) (hk1 : k1 < 6)  
    : ∀ (n : Nat) (v2 : Int32) (σ : St), wbX8_read_48 k1  post n v2 σ → Go X G 48 [(0, .ref (G.2.2.1 42)), (2, .int v2)] [] σ := by
  intro n
  induction n with
  | zero => intro v2 σ hw; exact hw.elim
  | succ n ih =>
    intro v2 σ hw
    have hw : ((12 < v2 →
      wbX8_read_83 k1 post σ) ∧
    (¬ 12 < v2 →
      (((gI σ 42 8) = 37 →
        wbX8_read_83 k1 post σ) ∧
      (¬ (gI σ 42 8) = 37 →
        (((gI σ 42 8) = 39 →
          wbX8_read_83 k1 post σ) ∧
        (¬ (gI σ 42 8) = 39 →
          wpX8_clause v2 σ (fun σ_2 =>
          ∀ v2_3 : Int32, v2_3 = v2 + 1 →
          wbX8_read_48 k1 post n v2_3 σ_2))))))) := hw
    refine go_iload_n C 1 rfl rfl dX8_read_48 ?_
    refine go_bipush (v := 12) C rfl dX8_read_49 ?_
    refine go_icmp_gt C 83 rfl dX8_read_51 (fun hc => ?_) (fun hc => ?_)
    · replace hw := hw.1 hc
      refine go_sub [0] rfl ?_
      exact (gbX8_read_83 C hr hR hnl hd hk1) _ hw
    · replace hw := hw.2 hc
      refine go_aload_n C 0 rfl rfl dX8_read_54 ?_
      refine go_get (v := .int (gI σ 42 8)) C (shX8 G) ltX8 lkX8_52 rfl dX8_read_55 ?_
      refine go_bipush (v := 37) C rfl dX8_read_58 ?_
      refine go_icmp_eq C 83 rfl dX8_read_60 (fun hc => ?_) (fun hc => ?_)
      · replace hw := hw.1 hc
        refine go_sub [0] rfl ?_
        exact (gbX8_read_83 C hr hR hnl hd hk1) _ hw
      · replace hw := hw.2 hc
        refine go_aload_n C 0 rfl rfl dX8_read_63 ?_
        refine go_get (v := .int (gI σ 42 8)) C (shX8 G) ltX8 lkX8_52 rfl dX8_read_64 ?_
        refine go_bipush (v := 39) C rfl dX8_read_67 ?_
        refine go_icmp_eq C 83 rfl dX8_read_69 (fun hc => ?_) (fun hc => ?_)
        · replace hw := hw.1 hc
          refine go_sub [0] rfl ?_
          exact (gbX8_read_83 C hr hR hnl hd hk1) _ hw
        · replace hw := hw.2 hc
          refine go_aload_n C 0 rfl rfl dX8_read_72 ?_
          refine go_iload_n C 1 rfl rfl dX8_read_73 ?_
          refine go_callV (as := [.int v2]) C hR (shX8 G) ltX8 cwX8_55 (Nat.le_trans (by decide) hd) (by decide) rfl rfl (by decide) dX8_read_74 (spX8_clause (Nat.le_refl _) hw) (fun v_ τ_ hw => ?_)
          obtain ⟨rfl, hw⟩ := hw
          obtain ⟨σ_2, rfl⟩ : ∃ z, z = τ_ := ⟨_, rfl⟩
          obtain ⟨v2_3, ev2_3⟩ : ∃ z : Int32, z = v2 + 1 := ⟨_, rfl⟩
          replace hw := hw v2_3 ev2_3
          refine go_iinc (v := v2_3) (lv2 := [(2, .int v2_3), (0, .ref (G.2.2.1 42))]) C 1 rfl (by rw [ev2_3]; rfl) (by rw [hnl]; decide) rfl dX8_read_77 ?_
          refine go_goto C 48 rfl dX8_read_80 ?_
          refine go_sub [1, 0] rfl ?_
          exact ih _ _ hw
set_option maxRecDepth 20000 in
set_option maxHeartbeats 4000000 in
theorem spX8_read {l : Launch} {G : GT} {d : Nat}  (hd : 60 ≤ d) {k1 : Nat} (hk1 : k1 < 6)  {σ : St} {post : Int32 → St → Prop} (hw : wpX8_read k1  σ post) : Sp l G d yX8_read cX8_read 3 (some .boolean) [.ref (G.2.2.1 42), .ref (G.2.2.1 (30 + 2 * k1))] σ (fun v τ => ∃ r : Int32, v = some (.int r) ∧ post r τ) := by
  refine Sp.of (by decide) (by decide) fun X C hr hR hnl => ?_
  show Go X G 0 [(0, .ref (G.2.2.1 42)), (1, .ref (G.2.2.1 (30 + 2 * k1)))] [] σ
  have hw : ∀ σ_1 : St, σ_1 = sR σ 42 9 (some (30 + 2 * k1)) →
  ∃ k_2, gR σ_1 42 9 = some (30 + 2 * k_2) ∧ k_2 < 6 ∧ (
  wpX9_clear k_2 σ_1 (fun σ_4 =>
  ∀ σ_5 : St, σ_5 = sI σ_4 42 2 0 →
  ∀ σ_6 : St, σ_6 = sI σ_5 42 3 (-1) →
  ∀ σ_7 : St, σ_7 = sI σ_6 42 10 0 →
  wpX8_cut  σ_7 (fun σ_9 =>
  ∀ σ_10 : St, σ_10 = sI σ_9 42 7 0 →
  vp_in 0 301 ∧ (
  ∀ σ_11 : St, σ_11 = sI σ_10 42 8 (gI σ_10 44 (0 : Int32).toNatClampNeg) →
  ∃ n, wbX8_read_48 k1 post n 0 σ_11)))) := hw
  refine go_aload_n C 0 rfl rfl dX8_read_0 ?_
  refine go_aload_n C 1 rfl rfl dX8_read_1 ?_
  refine go_putr C (shX8 G) ltX8 lpX8_34 (show 9 < 11 by decide) (pxX8_9 G _ _) dX8_read_2 (go_nm fun σ_1 eσ_1 => ?_)
  replace hw := hw σ_1 eσ_1
  refine go_aload_n C 0 rfl rfl dX8_read_5 ?_
  obtain ⟨k_2, gk_2, hk_2, hw⟩ := hw
  refine go_get (v := .ref (G.2.2.1 (30 + 2 * k_2))) C (shX8 G) ltX8 lkX8_34 (by show some (va_rf ((gR σ_1 42 9).map G.2.2.1)) = _; rw [gk_2]; rfl) dX8_read_6 ?_
  refine go_callV (as := []) C hR (shX9 G hk_2) (ltX9 hk_2) cwX8_38 (Nat.le_trans (by decide) hd) (by decide) rfl rfl (by decide) dX8_read_9 (spX9_clear (Nat.le_refl _) hk_2 hw) (fun v_ τ_ hw => ?_)
  obtain ⟨rfl, hw⟩ := hw
  obtain ⟨σ_4, rfl⟩ : ∃ z, z = τ_ := ⟨_, rfl⟩
  refine go_aload_n C 0 rfl rfl dX8_read_12 ?_
  refine go_iconst (v := 0) C rfl dX8_read_13 ?_
  refine go_puti C (shX8 G) ltX8 lpX8_15 (show 2 < 11 by decide) (pxX8_2 G _ _) dX8_read_14 (go_nm fun σ_5 eσ_5 => ?_)
  replace hw := hw σ_5 eσ_5
  refine go_aload_n C 0 rfl rfl dX8_read_17 ?_
  refine go_iconst (v := (-1)) C rfl dX8_read_18 ?_
  refine go_puti C (shX8 G) ltX8 lpX8_19 (show 3 < 11 by decide) (pxX8_3 G _ _) dX8_read_19 (go_nm fun σ_6 eσ_6 => ?_)
  replace hw := hw σ_6 eσ_6
  refine go_aload_n C 0 rfl rfl dX8_read_22 ?_
  refine go_iconst (v := 0) C rfl dX8_read_23 ?_
  refine go_puti C (shX8 G) ltX8 lpX8_43 (show 10 < 11 by decide) (pxX8_10 G _ _) dX8_read_24 (go_nm fun σ_7 eσ_7 => ?_)
  replace hw := hw σ_7 eσ_7
  refine go_aload_n C 0 rfl rfl dX8_read_27 ?_
  refine go_callV (as := []) C hR (shX8 G) ltX8 cwX8_46 (Nat.le_trans (by decide) hd) (by decide) rfl rfl (by decide) dX8_read_28 (spX8_cut (Nat.le_refl _) hw) (fun v_ τ_ hw => ?_)
  obtain ⟨rfl, hw⟩ := hw
  obtain ⟨σ_9, rfl⟩ : ∃ z, z = τ_ := ⟨_, rfl⟩
  refine go_aload_n C 0 rfl rfl dX8_read_31 ?_
  refine go_iconst (v := 0) C rfl dX8_read_32 ?_
  refine go_puti C (shX8 G) ltX8 lpX8_49 (show 7 < 11 by decide) (pxX8_7 G _ _) dX8_read_33 (go_nm fun σ_10 eσ_10 => ?_)
  replace hw := hw σ_10 eσ_10
  refine go_aload_n C 0 rfl rfl dX8_read_36 ?_
  refine go_aload_n C 0 rfl rfl dX8_read_37 ?_
  refine go_get (v := .ref (G.2.2.1 44)) C (shX8 G) ltX8 lkX8_22 rfl dX8_read_38 ?_
  refine go_iconst (v := 0) C rfl dX8_read_41 ?_
  refine go_iald C (saX8_kinds G) laX8_kinds hw.1 dX8_read_42 ?_
  replace hw := hw.2
  refine go_puti C (shX8 G) ltX8 lpX8_52 (show 8 < 11 by decide) (pxX8_8 G _ _) dX8_read_43 (go_nm fun σ_11 eσ_11 => ?_)
  replace hw := hw σ_11 eσ_11
  refine go_iconst (v := 0) C rfl dX8_read_46 ?_
  refine go_istore_n (lv2 := [(2, .int 0), (0, .ref (G.2.2.1 42)), (1, .ref (G.2.2.1 (30 + 2 * k1)))]) C rfl (by rw [hnl]; decide) rfl dX8_read_47 ?_
  refine go_sub [1, 0] rfl ?_
  obtain ⟨n_0, hw⟩ := hw
  exact (gbX8_read_48 C hr hR hnl hd hk1) n_0 _ _ hw
-- CradleNames$Trails.in(II)I
def wpX10_in  (a1 : Int32) (a2 : Int32) (σ : St) (post : Int32 → St → Prop) : Prop :=
  wpX0_between 0 6 a1 a2 a2 σ (fun r_1 σ_2 =>
  post r_1 σ_2)
set_option maxRecDepth 20000 in
set_option maxHeartbeats 4000000 in
theorem spX10_in {l : Launch} {G : GT} {d : Nat}  (hd : 2 ≤ d)   {a1 : Int32} {a2 : Int32} {σ : St} {post : Int32 → St → Prop} (hw : wpX10_in  a1 a2 σ post) : Sp l G d yX10_in cX10_in 3 (some .int) [.ref (G.2.2.1 52), .int a1, .int a2] σ (fun v τ => ∃ r : Int32, v = some (.int r) ∧ post r τ) := by
  refine Sp.of (by decide) (by decide) fun X C hr hR hnl => ?_
  show Go X G 0 [(0, .ref (G.2.2.1 52)), (1, .int a1), (2, .int a2)] [] σ
  have hw : wpX0_between 0 6 a1 a2 a2 σ (fun r_1 σ_2 =>
  post r_1 σ_2) := hw
  refine go_aload_n C 0 rfl rfl dX10_in_0 ?_
  refine go_get (v := .ref (G.2.2.1 (21 + 4 * 0))) C (shX10 G) ltX10 lkX10_41 rfl dX10_in_1 ?_
  refine go_bipush (v := 6) C rfl dX10_in_4 ?_
  refine go_iload_n C 1 rfl rfl dX10_in_6 ?_
  refine go_iload_n C 2 rfl rfl dX10_in_7 ?_
  refine go_iload_n C 2 rfl rfl dX10_in_8 ?_
  refine go_callV (as := [.int 6, .int a1, .int a2, .int a2]) C hR (shX0 G (show 0 < 2 by decide)) (ltX0 (show 0 < 2 by decide)) cwX10_45 (Nat.le_trans (by decide) hd) (by decide) rfl rfl (by decide) dX10_in_9 (spX0_between (Nat.le_refl _) (show 0 < 2 by decide) hw) (fun v_ τ_ hw => ?_)
  obtain ⟨r_1, rfl, hw⟩ := hw
  obtain ⟨σ_2, rfl⟩ : ∃ z, z = τ_ := ⟨_, rfl⟩
  exact go_iret C hr ⟨_, rfl, hw⟩ dX10_in_12
-- CradleNames$Trails.livingAt(II)I
def wpX10_livingAt  (a1 : Int32) (a2 : Int32) (σ : St) (post : Int32 → St → Prop) : Prop :=
  wpX0_between 0 6 a1 ((a2 - (gI σ 9 1)) + 1) a2 σ (fun r_1 σ_2 =>
  post r_1 σ_2)
set_option maxRecDepth 20000 in
set_option maxHeartbeats 4000000 in
theorem spX10_livingAt {l : Launch} {G : GT} {d : Nat}  (hd : 2 ≤ d)   {a1 : Int32} {a2 : Int32} {σ : St} {post : Int32 → St → Prop} (hw : wpX10_livingAt  a1 a2 σ post) : Sp l G d yX10_livingAt cX10_livingAt 3 (some .int) [.ref (G.2.2.1 52), .int a1, .int a2] σ (fun v τ => ∃ r : Int32, v = some (.int r) ∧ post r τ) := by
  refine Sp.of (by decide) (by decide) fun X C hr hR hnl => ?_
  show Go X G 0 [(0, .ref (G.2.2.1 52)), (1, .int a1), (2, .int a2)] [] σ
  have hw : wpX0_between 0 6 a1 ((a2 - (gI σ 9 1)) + 1) a2 σ (fun r_1 σ_2 =>
  post r_1 σ_2) := hw
  refine go_aload_n C 0 rfl rfl dX10_livingAt_0 ?_
  refine go_get (v := .ref (G.2.2.1 (21 + 4 * 0))) C (shX10 G) ltX10 lkX10_41 rfl dX10_livingAt_1 ?_
  refine go_bipush (v := 6) C rfl dX10_livingAt_4 ?_
  refine go_iload_n C 1 rfl rfl dX10_livingAt_6 ?_
  refine go_iload_n C 2 rfl rfl dX10_livingAt_7 ?_
  refine go_aload_n C 0 rfl rfl dX10_livingAt_8 ?_
  refine go_get (v := .ref (G.2.2.1 9)) C (shX10 G) ltX10 lkX10_37 rfl dX10_livingAt_9 ?_
  refine go_get (v := .int (gI σ 9 1)) C (shX4 G) ltX4 lkX10_51 rfl dX10_livingAt_12 ?_
  refine go_isub C dX10_livingAt_15 ?_
  refine go_iconst (v := 1) C rfl dX10_livingAt_16 ?_
  refine go_iadd C dX10_livingAt_17 ?_
  refine go_iload_n C 2 rfl rfl dX10_livingAt_18 ?_
  refine go_callV (as := [.int 6, .int a1, .int ((a2 - (gI σ 9 1)) + 1), .int a2]) C hR (shX0 G (show 0 < 2 by decide)) (ltX0 (show 0 < 2 by decide)) cwX10_45 (Nat.le_trans (by decide) hd) (by decide) rfl rfl (by decide) dX10_livingAt_19 (spX0_between (Nat.le_refl _) (show 0 < 2 by decide) hw) (fun v_ τ_ hw => ?_)
  obtain ⟨r_1, rfl, hw⟩ := hw
  obtain ⟨σ_2, rfl⟩ : ∃ z, z = τ_ := ⟨_, rfl⟩
  exact go_iret C hr ⟨_, rfl, hw⟩ dX10_livingAt_22
-- CradleNames$Trails.peak(I)I
def wbX10_peak_7   (post : Int32 → St → Prop) : Nat → Int32 → Int32 → Int32 → Int32 → St → Prop
  | 0, _, _, _, _, _ => False
  | n + 1, v1, v2, v3, v4, σ =>
    (((gI σ 9 0) ≤ v4 →
      post v2 σ) ∧
    (¬ (gI σ 9 0) ≤ v4 →
      wpX10_in v1 v4 σ (fun r_1 σ_2 =>
      ((r_1 ≤ v3 →
        ∀ v4_3 : Int32, v4_3 = v4 + 1 →
        wbX10_peak_7 post n v1 v2 v3 v4_3 σ_2) ∧
      (¬ r_1 ≤ v3 →
        ∀ v4_4 : Int32, v4_4 = v4 + 1 →
        wbX10_peak_7 post n v1 v4 r_1 v4_4 σ_2)))))
def wpX10_peak  (a1 : Int32) (σ : St) (post : Int32 → St → Prop) : Prop :=
  ∃ n, wbX10_peak_7 post n a1 (-1) 0 0 σ
set_option maxRecDepth 20000 in
set_option maxHeartbeats 4000000 in
theorem gbX10_peak_7 {X : XT} {G : GT} {l : Launch} {d : Nat}  {post : Int32 → St → Prop} (C : Cx X G cX10_peak RX10) (hr : Rt X G (some .int) (fun v τ => ∃ r : Int32, v = some (.int r) ∧ post r τ)) (hR : Rm X l d) (hnl : X.2.2.2.2.2.2.2.2.2.2.1 = 6)  (hd : 3 ≤ d)   
    : ∀ (n : Nat) (v1 : Int32) (v2 : Int32) (v3 : Int32) (v4 : Int32) (σ : St), wbX10_peak_7   post n v1 v2 v3 v4 σ → Go X G 7 [(0, .ref (G.2.2.1 52)), (1, .int v1), (2, .int v2), (3, .int v3), (4, .int v4)] [] σ := by
  intro n
  induction n with
  | zero => intro v1 v2 v3 v4 σ hw; exact hw.elim
  | succ n ih =>
    intro v1 v2 v3 v4 σ hw
    have hw : (((gI σ 9 0) ≤ v4 →
      post v2 σ) ∧
    (¬ (gI σ 9 0) ≤ v4 →
      wpX10_in v1 v4 σ (fun r_1 σ_2 =>
      ((r_1 ≤ v3 →
        ∀ v4_3 : Int32, v4_3 = v4 + 1 →
        wbX10_peak_7 post n v1 v2 v3 v4_3 σ_2) ∧
      (¬ r_1 ≤ v3 →
        ∀ v4_4 : Int32, v4_4 = v4 + 1 →
        wbX10_peak_7 post n v1 v4 r_1 v4_4 σ_2))))) := hw
    refine go_iload C 4 rfl dX10_peak_7 ?_
    refine go_aload_n C 0 rfl rfl dX10_peak_9 ?_
    refine go_get (v := .ref (G.2.2.1 9)) C (shX10 G) ltX10 lkX10_37 rfl dX10_peak_10 ?_
    refine go_get (v := .int (gI σ 9 0)) C (shX4 G) ltX4 lkX10_57 rfl dX10_peak_13 ?_
    refine go_icmp_ge C 46 rfl dX10_peak_16 (fun hc => ?_) (fun hc => ?_)
    · replace hw := hw.1 hc
      refine go_iload_n C 2 rfl rfl dX10_peak_46 ?_
      exact go_iret C hr ⟨_, rfl, hw⟩ dX10_peak_47
    · replace hw := hw.2 hc
      refine go_aload_n C 0 rfl rfl dX10_peak_19 ?_
      refine go_iload_n C 1 rfl rfl dX10_peak_20 ?_
      refine go_iload C 4 rfl dX10_peak_21 ?_
      refine go_callV (as := [.int v1, .int v4]) C hR (shX10 G) ltX10 cwX10_60 (Nat.le_trans (by decide) hd) (by decide) rfl rfl (by decide) dX10_peak_23 (spX10_in (Nat.le_refl _) hw) (fun v_ τ_ hw => ?_)
      obtain ⟨r_1, rfl, hw⟩ := hw
      obtain ⟨σ_2, rfl⟩ : ∃ z, z = τ_ := ⟨_, rfl⟩
      refine go_istore (lv2 := [(5, .int r_1), (0, .ref (G.2.2.1 52)), (1, .int v1), (2, .int v2), (3, .int v3), (4, .int v4)]) C (by rw [hnl]; decide) rfl dX10_peak_26 ?_
      refine go_iload C 0 rfl dX10_peak_28 ?_
      refine go_iload_n C 4 rfl rfl dX10_peak_30 ?_
      refine go_icmp_le C 40 rfl dX10_peak_31 (fun hc => ?_) (fun hc => ?_)
      · replace hw := hw.1 hc
        obtain ⟨v4_3, ev4_3⟩ : ∃ z : Int32, z = v4 + 1 := ⟨_, rfl⟩
        replace hw := hw v4_3 ev4_3
        refine go_iinc (v := v4_3) (lv2 := [(4, .int v4_3), (5, .int r_1), (0, .ref (G.2.2.1 52)), (1, .int v1), (2, .int v2), (3, .int v3)]) C 5 rfl (by rw [ev4_3]; rfl) (by rw [hnl]; decide) rfl dX10_peak_40 ?_
        refine go_goto C 7 rfl dX10_peak_43 ?_
        refine go_sub [2, 3, 4, 5, 0] rfl ?_
        exact ih _ _ _ _ _ hw
      · replace hw := hw.2 hc
        refine go_iload C 0 rfl dX10_peak_34 ?_
        refine go_istore_n (lv2 := [(3, .int r_1), (5, .int r_1), (0, .ref (G.2.2.1 52)), (1, .int v1), (2, .int v2), (4, .int v4)]) C rfl (by rw [hnl]; decide) rfl dX10_peak_36 ?_
        refine go_iload C 5 rfl dX10_peak_37 ?_
        refine go_istore_n (lv2 := [(2, .int v4), (3, .int r_1), (5, .int r_1), (0, .ref (G.2.2.1 52)), (1, .int v1), (4, .int v4)]) C rfl (by rw [hnl]; decide) rfl dX10_peak_39 ?_
        obtain ⟨v4_4, ev4_4⟩ : ∃ z : Int32, z = v4 + 1 := ⟨_, rfl⟩
        replace hw := hw v4_4 ev4_4
        refine go_iinc (v := v4_4) (lv2 := [(4, .int v4_4), (2, .int v4), (3, .int r_1), (5, .int r_1), (0, .ref (G.2.2.1 52)), (1, .int v1)]) C 5 rfl (by rw [ev4_4]; rfl) (by rw [hnl]; decide) rfl dX10_peak_40 ?_
        refine go_goto C 7 rfl dX10_peak_43 ?_
        refine go_sub [4, 5, 1, 2, 0] rfl ?_
        exact ih _ _ _ _ _ hw
set_option maxRecDepth 20000 in
set_option maxHeartbeats 4000000 in
theorem spX10_peak {l : Launch} {G : GT} {d : Nat}  (hd : 3 ≤ d)   {a1 : Int32} {σ : St} {post : Int32 → St → Prop} (hw : wpX10_peak  a1 σ post) : Sp l G d yX10_peak cX10_peak 6 (some .int) [.ref (G.2.2.1 52), .int a1] σ (fun v τ => ∃ r : Int32, v = some (.int r) ∧ post r τ) := by
  refine Sp.of (by decide) (by decide) fun X C hr hR hnl => ?_
  show Go X G 0 [(0, .ref (G.2.2.1 52)), (1, .int a1)] [] σ
  have hw : ∃ n, wbX10_peak_7 post n a1 (-1) 0 0 σ := hw
  refine go_iconst (v := (-1)) C rfl dX10_peak_0 ?_
  refine go_istore_n (lv2 := [(2, .int (-1)), (0, .ref (G.2.2.1 52)), (1, .int a1)]) C rfl (by rw [hnl]; decide) rfl dX10_peak_1 ?_
  refine go_iconst (v := 0) C rfl dX10_peak_2 ?_
  refine go_istore_n (lv2 := [(3, .int 0), (2, .int (-1)), (0, .ref (G.2.2.1 52)), (1, .int a1)]) C rfl (by rw [hnl]; decide) rfl dX10_peak_3 ?_
  refine go_iconst (v := 0) C rfl dX10_peak_4 ?_
  refine go_istore (lv2 := [(4, .int 0), (3, .int 0), (2, .int (-1)), (0, .ref (G.2.2.1 52)), (1, .int a1)]) C (by rw [hnl]; decide) rfl dX10_peak_5 ?_
  refine go_sub [3, 4, 2, 1, 0] rfl ?_
  obtain ⟨n_0, hw⟩ := hw
  exact (gbX10_peak_7 C hr hR hnl hd) n_0 _ _ _ _ _ hw
-- CradleNames$Trails.slope(III)I
def wbX10_slope_16   (post : Int32 → St → Prop) : Nat → Int32 → Int32 → Int32 → Int32 → Int32 → St → Prop
  | 0, _, _, _, _, _, _ => False
  | n + 1, v1, v3, v4, v5, v6, σ =>
    ((v6 < 0 →
      post v5 σ) ∧
    (¬ v6 < 0 →
      (((gI σ 9 0) ≤ v6 →
        post v5 σ) ∧
      (¬ (gI σ 9 0) ≤ v6 →
        wpX10_in v1 v6 σ (fun r_1 σ_2 =>
        ((v4 ≤ (2 * r_1) →
          ∀ v5_3 : Int32, v5_3 = v5 + 1 →
          ∀ v6_4 : Int32, v6_4 = (v6 + v3) →
          wbX10_slope_16 post n v1 v3 v4 v5_3 v6_4 σ_2) ∧
        (¬ v4 ≤ (2 * r_1) →
          post v5 σ_2)))))))
def wpX10_slope  (a1 : Int32) (a2 : Int32) (a3 : Int32) (σ : St) (post : Int32 → St → Prop) : Prop :=
  wpX10_in a1 a2 σ (fun r_1 σ_2 =>
  ∀ v6_3 : Int32, v6_3 = (a2 + a3) →
  ∃ n, wbX10_slope_16 post n a1 a3 r_1 0 v6_3 σ_2)
set_option maxRecDepth 20000 in
set_option maxHeartbeats 4000000 in
theorem gbX10_slope_16 {X : XT} {G : GT} {l : Launch} {d : Nat}  {post : Int32 → St → Prop} (C : Cx X G cX10_slope RX10) (hr : Rt X G (some .int) (fun v τ => ∃ r : Int32, v = some (.int r) ∧ post r τ)) (hR : Rm X l d) (hnl : X.2.2.2.2.2.2.2.2.2.2.1 = 7)  (hd : 3 ≤ d)   
    : ∀ (n : Nat) (v1 : Int32) (v3 : Int32) (v4 : Int32) (v5 : Int32) (v6 : Int32) (σ : St), wbX10_slope_16   post n v1 v3 v4 v5 v6 σ → Go X G 16 [(0, .ref (G.2.2.1 52)), (1, .int v1), (3, .int v3), (4, .int v4), (5, .int v5), (6, .int v6)] [] σ := by
  intro n
  induction n with
  | zero => intro v1 v3 v4 v5 v6 σ hw; exact hw.elim
  | succ n ih =>
    intro v1 v3 v4 v5 v6 σ hw
    have hw : ((v6 < 0 →
      post v5 σ) ∧
    (¬ v6 < 0 →
      (((gI σ 9 0) ≤ v6 →
        post v5 σ) ∧
      (¬ (gI σ 9 0) ≤ v6 →
        wpX10_in v1 v6 σ (fun r_1 σ_2 =>
        ((v4 ≤ (2 * r_1) →
          ∀ v5_3 : Int32, v5_3 = v5 + 1 →
          ∀ v6_4 : Int32, v6_4 = (v6 + v3) →
          wbX10_slope_16 post n v1 v3 v4 v5_3 v6_4 σ_2) ∧
        (¬ v4 ≤ (2 * r_1) →
          post v5 σ_2))))))) := hw
    refine go_iload C 5 rfl dX10_slope_16 ?_
    refine go_if_lt C 62 rfl dX10_slope_18 (fun hc => ?_) (fun hc => ?_)
    · replace hw := hw.1 hc
      refine go_iload C 4 rfl dX10_slope_62 ?_
      exact go_iret C hr ⟨_, rfl, hw⟩ dX10_slope_64
    · replace hw := hw.2 hc
      refine go_iload C 5 rfl dX10_slope_21 ?_
      refine go_aload_n C 0 rfl rfl dX10_slope_23 ?_
      refine go_get (v := .ref (G.2.2.1 9)) C (shX10 G) ltX10 lkX10_37 rfl dX10_slope_24 ?_
      refine go_get (v := .int (gI σ 9 0)) C (shX4 G) ltX4 lkX10_57 rfl dX10_slope_27 ?_
      refine go_icmp_ge C 62 rfl dX10_slope_30 (fun hc => ?_) (fun hc => ?_)
      · replace hw := hw.1 hc
        refine go_iload C 4 rfl dX10_slope_62 ?_
        exact go_iret C hr ⟨_, rfl, hw⟩ dX10_slope_64
      · replace hw := hw.2 hc
        refine go_iconst (v := 2) C rfl dX10_slope_33 ?_
        refine go_aload_n C 0 rfl rfl dX10_slope_34 ?_
        refine go_iload_n C 1 rfl rfl dX10_slope_35 ?_
        refine go_iload C 5 rfl dX10_slope_36 ?_
        refine go_callV (as := [.int v1, .int v6]) C hR (shX10 G) ltX10 cwX10_60 (Nat.le_trans (by decide) hd) (by decide) rfl rfl (by decide) dX10_slope_38 (spX10_in (Nat.le_refl _) hw) (fun v_ τ_ hw => ?_)
        obtain ⟨r_1, rfl, hw⟩ := hw
        obtain ⟨σ_2, rfl⟩ : ∃ z, z = τ_ := ⟨_, rfl⟩
        refine go_imul C dX10_slope_41 ?_
        refine go_iload C 3 rfl dX10_slope_42 ?_
        refine go_icmp_ge C 50 rfl dX10_slope_44 (fun hc => ?_) (fun hc => ?_)
        · replace hw := hw.1 hc
          obtain ⟨v5_3, ev5_3⟩ : ∃ z : Int32, z = v5 + 1 := ⟨_, rfl⟩
          replace hw := hw v5_3 ev5_3
          refine go_iinc (v := v5_3) (lv2 := [(5, .int v5_3), (0, .ref (G.2.2.1 52)), (1, .int v1), (3, .int v3), (4, .int v4), (6, .int v6)]) C 4 rfl (by rw [ev5_3]; rfl) (by rw [hnl]; decide) rfl dX10_slope_50 ?_
          refine go_iload C 5 rfl dX10_slope_53 ?_
          refine go_iload_n C 3 rfl rfl dX10_slope_55 ?_
          refine go_iadd C dX10_slope_56 ?_
          refine go_topi (fun v6_4 ev6_4 => ?_)
          replace hw := hw v6_4 ev6_4
          refine go_istore (lv2 := [(6, .int v6_4), (5, .int v5_3), (0, .ref (G.2.2.1 52)), (1, .int v1), (3, .int v3), (4, .int v4)]) C (by rw [hnl]; decide) rfl dX10_slope_57 ?_
          refine go_goto C 16 rfl dX10_slope_59 ?_
          refine go_sub [2, 3, 4, 5, 1, 0] rfl ?_
          exact ih _ _ _ _ _ _ hw
        · replace hw := hw.2 hc
          refine go_iload C 4 rfl dX10_slope_47 ?_
          exact go_iret C hr ⟨_, rfl, hw⟩ dX10_slope_49
set_option maxRecDepth 20000 in
set_option maxHeartbeats 4000000 in
theorem spX10_slope {l : Launch} {G : GT} {d : Nat}  (hd : 3 ≤ d)   {a1 : Int32} {a2 : Int32} {a3 : Int32} {σ : St} {post : Int32 → St → Prop} (hw : wpX10_slope  a1 a2 a3 σ post) : Sp l G d yX10_slope cX10_slope 7 (some .int) [.ref (G.2.2.1 52), .int a1, .int a2, .int a3] σ (fun v τ => ∃ r : Int32, v = some (.int r) ∧ post r τ) := by
  refine Sp.of (by decide) (by decide) fun X C hr hR hnl => ?_
  show Go X G 0 [(0, .ref (G.2.2.1 52)), (1, .int a1), (2, .int a2), (3, .int a3)] [] σ
  have hw : wpX10_in a1 a2 σ (fun r_1 σ_2 =>
  ∀ v6_3 : Int32, v6_3 = (a2 + a3) →
  ∃ n, wbX10_slope_16 post n a1 a3 r_1 0 v6_3 σ_2) := hw
  refine go_aload_n C 0 rfl rfl dX10_slope_0 ?_
  refine go_iload_n C 1 rfl rfl dX10_slope_1 ?_
  refine go_iload_n C 2 rfl rfl dX10_slope_2 ?_
  refine go_callV (as := [.int a1, .int a2]) C hR (shX10 G) ltX10 cwX10_60 (Nat.le_trans (by decide) hd) (by decide) rfl rfl (by decide) dX10_slope_3 (spX10_in (Nat.le_refl _) hw) (fun v_ τ_ hw => ?_)
  obtain ⟨r_1, rfl, hw⟩ := hw
  obtain ⟨σ_2, rfl⟩ : ∃ z, z = τ_ := ⟨_, rfl⟩
  refine go_istore (lv2 := [(4, .int r_1), (0, .ref (G.2.2.1 52)), (1, .int a1), (2, .int a2), (3, .int a3)]) C (by rw [hnl]; decide) rfl dX10_slope_6 ?_
  refine go_iconst (v := 0) C rfl dX10_slope_8 ?_
  refine go_istore (lv2 := [(5, .int 0), (4, .int r_1), (0, .ref (G.2.2.1 52)), (1, .int a1), (2, .int a2), (3, .int a3)]) C (by rw [hnl]; decide) rfl dX10_slope_9 ?_
  refine go_iload_n C 4 rfl rfl dX10_slope_11 ?_
  refine go_iload_n C 5 rfl rfl dX10_slope_12 ?_
  refine go_iadd C dX10_slope_13 ?_
  refine go_topi (fun v6_3 ev6_3 => ?_)
  replace hw := hw v6_3 ev6_3
  refine go_istore (lv2 := [(6, .int v6_3), (5, .int 0), (4, .int r_1), (0, .ref (G.2.2.1 52)), (1, .int a1), (2, .int a2), (3, .int a3)]) C (by rw [hnl]; decide) rfl dX10_slope_14 ?_
  refine go_sub [3, 4, 6, 2, 1, 0] rfl ?_
  obtain ⟨n_0, hw⟩ := hw
  exact (gbX10_slope_16 C hr hR hnl hd) n_0 _ _ _ _ _ _ hw
-- java/lang/Integer.compare(II)I
def wpJ6_compare_7cf53  (a1 : Int32) (a2 : Int32) (σ : St) (post : Int32 → St → Prop) : Prop :=
  ((a2 ≤ a1 →
    ((¬ a1 = a2 →
      post 1 σ) ∧
    (a1 = a2 →
      post 0 σ))) ∧
  (¬ a2 ≤ a1 →
    post (-1) σ))
set_option maxRecDepth 20000 in
set_option maxHeartbeats 4000000 in
theorem spJ6_compare_7cf53 {l : Launch} {G : GT} {d : Nat}  (hd : 1 ≤ d)   {a1 : Int32} {a2 : Int32} {σ : St} {post : Int32 → St → Prop} (hw : wpJ6_compare_7cf53  a1 a2 σ post) : Sp l G d yJ6_compare_7cf53 cJ6_compare_7cf53 2 (some .int) [.int a1, .int a2] σ (fun v τ => ∃ r : Int32, v = some (.int r) ∧ post r τ) := by
  refine Sp.of (by decide) (by decide) fun X C hr hR hnl => ?_
  show Go X G 0 [(0, .int a1), (1, .int a2)] [] σ
  have hw : ((a2 ≤ a1 →
    ((¬ a1 = a2 →
      post 1 σ) ∧
    (a1 = a2 →
      post 0 σ))) ∧
  (¬ a2 ≤ a1 →
    post (-1) σ)) := hw
  refine go_iload_n C 0 rfl rfl dJ6_compare_7cf53_0 ?_
  refine go_iload_n C 1 rfl rfl dJ6_compare_7cf53_1 ?_
  refine go_icmp_ge C 9 rfl dJ6_compare_7cf53_2 (fun hc => ?_) (fun hc => ?_)
  · replace hw := hw.1 hc
    refine go_iload_n C 0 rfl rfl dJ6_compare_7cf53_9 ?_
    refine go_iload_n C 1 rfl rfl dJ6_compare_7cf53_10 ?_
    refine go_icmp_ne C 18 rfl dJ6_compare_7cf53_11 (fun hc => ?_) (fun hc => ?_)
    · replace hw := hw.1 hc
      refine go_iconst (v := 1) C rfl dJ6_compare_7cf53_18 ?_
      exact go_iret C hr ⟨_, rfl, hw⟩ dJ6_compare_7cf53_19
    · replace hw := hw.2 hc
      refine go_iconst (v := 0) C rfl dJ6_compare_7cf53_14 ?_
      refine go_goto C 19 rfl dJ6_compare_7cf53_15 ?_
      exact go_iret C hr ⟨_, rfl, hw⟩ dJ6_compare_7cf53_19
  · replace hw := hw.2 hc
    refine go_iconst (v := (-1)) C rfl dJ6_compare_7cf53_5 ?_
    refine go_goto C 19 rfl dJ6_compare_7cf53_6 ?_
    exact go_iret C hr ⟨_, rfl, hw⟩ dJ6_compare_7cf53_19
-- CradleNames$Trails.pairs(Z)I
def wbX10_pairs_146  (K73 : Int32 → Int32 → Int32 → Int32 → Int32 → St → Prop) (post : Int32 → St → Prop) (v1 : Int32) (v2 : Int32) (v3 : Int32) (v4 : Int32) (v5 : Int32) (s0 : Int32) (s1 : Int32) (σ : St) : Prop :=
  ((¬ s1 = s0 →
    ∀ v5_1 : Int32, v5_1 = v5 + 1 →
    K73 v1 v2 v3 v4 v5_1 σ) ∧
  (s1 = s0 →
    ∀ v2_2 : Int32, v2_2 = v2 + 1 →
    ∀ v5_3 : Int32, v5_3 = v5 + 1 →
    K73 v1 v2_2 v3 v4 v5_3 σ))
def wbX10_pairs_73  (K4 : Int32 → Int32 → Int32 → St → Prop) (post : Int32 → St → Prop) : Nat → Int32 → Int32 → Int32 → Int32 → Int32 → St → Prop
  | 0, _, _, _, _, _, _ => False
  | n + 1, v1, v2, v3, v4, v5, σ =>
    ((v3 ≤ v5 →
      ∀ v3_1 : Int32, v3_1 = v3 + 1 →
      K4 v1 v2 v3_1 σ) ∧
    (¬ v3 ≤ v5 →
      ((v4 = (-1) →
        ∀ v3_2 : Int32, v3_2 = v3 + 1 →
        K4 v1 v2 v3_2 σ) ∧
      (¬ v4 = (-1) →
        vp_in v3 16 ∧ (
        vp_in v5 16 ∧ (
        wpJ6_compare_7cf53 (gI σ 53 v3.toNatClampNeg) (gI σ 53 v5.toNatClampNeg) σ (fun r_3 σ_4 =>
        vp_in v3 16 ∧ (
        vp_in v5 16 ∧ (
        wpJ6_compare_7cf53 (gI σ_4 54 v3.toNatClampNeg) (gI σ_4 54 v5.toNatClampNeg) σ_4 (fun r_5 σ_6 =>
        vp_in v5 16 ∧ (
        (((gI σ_6 53 v5.toNatClampNeg) = (-1) →
          ∀ v5_7 : Int32, v5_7 = v5 + 1 →
          wbX10_pairs_73 K4 post n v1 v2 v3 v4 v5_7 σ_6) ∧
        (¬ (gI σ_6 53 v5.toNatClampNeg) = (-1) →
          ((v1 = 0 →
            wbX10_pairs_146 (wbX10_pairs_73 K4 post n) post v1 v2 v3 v4 v5 (-1) (r_3 * r_5) σ_6) ∧
          (¬ v1 = 0 →
            wbX10_pairs_146 (wbX10_pairs_73 K4 post n) post v1 v2 v3 v4 v5 1 (r_3 * r_5) σ_6)))))))))))))))
def wbX10_pairs_45  (K4 : Int32 → Int32 → Int32 → St → Prop) (post : Int32 → St → Prop) (v1 : Int32) (v2 : Int32) (v3 : Int32) (v4 : Int32) (s0 : Int32) (s1 : Int32) (σ : St) : Prop :=
  vp_in s1 16 ∧ (
  ∀ σ_1 : St, σ_1 = sI σ 53 s1.toNatClampNeg s0 →
  ((¬ v4 = (-1) →
    wpX10_slope v3 v4 1 σ_1 (fun r_2 σ_3 =>
    vp_in v3 16 ∧ (
    ∀ σ_4 : St, σ_4 = sI σ_3 54 v3.toNatClampNeg r_2 →
    ∃ n, wbX10_pairs_73 K4 post n v1 v2 v3 v4 0 σ_4))) ∧
  (v4 = (-1) →
    vp_in v3 16 ∧ (
    ∀ σ_5 : St, σ_5 = sI σ_1 54 v3.toNatClampNeg (-1) →
    ∃ n, wbX10_pairs_73 K4 post n v1 v2 v3 v4 0 σ_5))))
def wbX10_pairs_4   (post : Int32 → St → Prop) : Nat → Int32 → Int32 → Int32 → St → Prop
  | 0, _, _, _, _ => False
  | n + 1, v1, v2, v3, σ =>
    (((gI σ 1 0) ≤ v3 →
      post v2 σ) ∧
    (¬ (gI σ 1 0) ≤ v3 →
      wpX10_peak v3 σ (fun r_1 σ_2 =>
      ((¬ r_1 = (-1) →
        wpX10_slope v3 r_1 (-1) σ_2 (fun r_3 σ_4 =>
        wbX10_pairs_45 (wbX10_pairs_4 post n) post v1 v2 v3 r_1 r_3 v3 σ_4)) ∧
      (r_1 = (-1) →
        wbX10_pairs_45 (wbX10_pairs_4 post n) post v1 v2 v3 r_1 (-1) v3 σ_2)))))
def wpX10_pairs  (a1 : Int32) (σ : St) (post : Int32 → St → Prop) : Prop :=
  ∃ n, wbX10_pairs_4 post n a1 0 0 σ
set_option maxRecDepth 20000 in
set_option maxHeartbeats 4000000 in
theorem gbX10_pairs_146 {X : XT} {G : GT} {l : Launch} {d : Nat}  {post : Int32 → St → Prop} (C : Cx X G cX10_pairs RX10) (hr : Rt X G (some .int) (fun v τ => ∃ r : Int32, v = some (.int r) ∧ post r τ)) (hR : Rm X l d) (hnl : X.2.2.2.2.2.2.2.2.2.2.1 = 8)  (hd : 4 ≤ d)  {K73 : Int32 → Int32 → Int32 → Int32 → Int32 → St → Prop} (hK73 : ∀ (v1 : Int32) (v2 : Int32) (v3 : Int32) (v4 : Int32) (v5 : Int32) (σ : St), K73 v1 v2 v3 v4 v5 σ → Go X G 73 [(0, .ref (G.2.2.1 52)), (1, .int v1), (2, .int v2), (3, .int v3), (4, .int v4), (5, .int v5)] [] σ)
    : ∀ (v1 : Int32) (v2 : Int32) (v3 : Int32) (v4 : Int32) (v5 : Int32) (s0 : Int32) (s1 : Int32) (σ : St), wbX10_pairs_146  K73 post v1 v2 v3 v4 v5 s0 s1 σ → Go X G 146 [(0, .ref (G.2.2.1 52)), (1, .int v1), (2, .int v2), (3, .int v3), (4, .int v4), (5, .int v5)] [.int s0, .int s1] σ := by
  intro v1 v2 v3 v4 v5 s0 s1 σ hw
  have hw : ((¬ s1 = s0 →
    ∀ v5_1 : Int32, v5_1 = v5 + 1 →
    K73 v1 v2 v3 v4 v5_1 σ) ∧
  (s1 = s0 →
    ∀ v2_2 : Int32, v2_2 = v2 + 1 →
    ∀ v5_3 : Int32, v5_3 = v5 + 1 →
    K73 v1 v2_2 v3 v4 v5_3 σ)) := hw
  refine go_icmp_ne C 152 rfl dX10_pairs_146 (fun hc => ?_) (fun hc => ?_)
  · replace hw := hw.1 hc
    obtain ⟨v5_1, ev5_1⟩ : ∃ z : Int32, z = v5 + 1 := ⟨_, rfl⟩
    replace hw := hw v5_1 ev5_1
    refine go_iinc (v := v5_1) (lv2 := [(5, .int v5_1), (0, .ref (G.2.2.1 52)), (1, .int v1), (2, .int v2), (3, .int v3), (4, .int v4)]) C 5 rfl (by rw [ev5_1]; rfl) (by rw [hnl]; decide) rfl dX10_pairs_152 ?_
    refine go_goto C 73 rfl dX10_pairs_155 ?_
    refine go_sub [1, 2, 3, 4, 5, 0] rfl ?_
    exact hK73 _ _ _ _ _ _ hw
  · replace hw := hw.2 hc
    obtain ⟨v2_2, ev2_2⟩ : ∃ z : Int32, z = v2 + 1 := ⟨_, rfl⟩
    replace hw := hw v2_2 ev2_2
    refine go_iinc (v := v2_2) (lv2 := [(2, .int v2_2), (0, .ref (G.2.2.1 52)), (1, .int v1), (3, .int v3), (4, .int v4), (5, .int v5)]) C 2 rfl (by rw [ev2_2]; rfl) (by rw [hnl]; decide) rfl dX10_pairs_149 ?_
    obtain ⟨v5_3, ev5_3⟩ : ∃ z : Int32, z = v5 + 1 := ⟨_, rfl⟩
    replace hw := hw v5_3 ev5_3
    refine go_iinc (v := v5_3) (lv2 := [(5, .int v5_3), (2, .int v2_2), (0, .ref (G.2.2.1 52)), (1, .int v1), (3, .int v3), (4, .int v4)]) C 5 rfl (by rw [ev5_3]; rfl) (by rw [hnl]; decide) rfl dX10_pairs_152 ?_
    refine go_goto C 73 rfl dX10_pairs_155 ?_
    refine go_sub [2, 3, 1, 4, 5, 0] rfl ?_
    exact hK73 _ _ _ _ _ _ hw
set_option maxRecDepth 20000 in
set_option maxHeartbeats 4000000 in
theorem gbX10_pairs_73 {X : XT} {G : GT} {l : Launch} {d : Nat}  {post : Int32 → St → Prop} (C : Cx X G cX10_pairs RX10) (hr : Rt X G (some .int) (fun v τ => ∃ r : Int32, v = some (.int r) ∧ post r τ)) (hR : Rm X l d) (hnl : X.2.2.2.2.2.2.2.2.2.2.1 = 8)  (hd : 4 ≤ d)  {K4 : Int32 → Int32 → Int32 → St → Prop} (hK4 : ∀ (v1 : Int32) (v2 : Int32) (v3 : Int32) (σ : St), K4 v1 v2 v3 σ → Go X G 4 [(0, .ref (G.2.2.1 52)), (1, .int v1), (2, .int v2), (3, .int v3)] [] σ)
    : ∀ (n : Nat) (v1 : Int32) (v2 : Int32) (v3 : Int32) (v4 : Int32) (v5 : Int32) (σ : St), wbX10_pairs_73  K4 post n v1 v2 v3 v4 v5 σ → Go X G 73 [(0, .ref (G.2.2.1 52)), (1, .int v1), (2, .int v2), (3, .int v3), (4, .int v4), (5, .int v5)] [] σ := by
  intro n
  induction n with
  | zero => intro v1 v2 v3 v4 v5 σ hw; exact hw.elim
  | succ n ih =>
    intro v1 v2 v3 v4 v5 σ hw
    have hw : ((v3 ≤ v5 →
      ∀ v3_1 : Int32, v3_1 = v3 + 1 →
      K4 v1 v2 v3_1 σ) ∧
    (¬ v3 ≤ v5 →
      ((v4 = (-1) →
        ∀ v3_2 : Int32, v3_2 = v3 + 1 →
        K4 v1 v2 v3_2 σ) ∧
      (¬ v4 = (-1) →
        vp_in v3 16 ∧ (
        vp_in v5 16 ∧ (
        wpJ6_compare_7cf53 (gI σ 53 v3.toNatClampNeg) (gI σ 53 v5.toNatClampNeg) σ (fun r_3 σ_4 =>
        vp_in v3 16 ∧ (
        vp_in v5 16 ∧ (
        wpJ6_compare_7cf53 (gI σ_4 54 v3.toNatClampNeg) (gI σ_4 54 v5.toNatClampNeg) σ_4 (fun r_5 σ_6 =>
        vp_in v5 16 ∧ (
        (((gI σ_6 53 v5.toNatClampNeg) = (-1) →
          ∀ v5_7 : Int32, v5_7 = v5 + 1 →
          wbX10_pairs_73 K4 post n v1 v2 v3 v4 v5_7 σ_6) ∧
        (¬ (gI σ_6 53 v5.toNatClampNeg) = (-1) →
          ((v1 = 0 →
            wbX10_pairs_146 (wbX10_pairs_73 K4 post n) post v1 v2 v3 v4 v5 (-1) (r_3 * r_5) σ_6) ∧
          (¬ v1 = 0 →
            wbX10_pairs_146 (wbX10_pairs_73 K4 post n) post v1 v2 v3 v4 v5 1 (r_3 * r_5) σ_6))))))))))))))) := hw
    refine go_iload C 5 rfl dX10_pairs_73 ?_
    refine go_iload_n C 3 rfl rfl dX10_pairs_75 ?_
    refine go_icmp_ge C 158 rfl dX10_pairs_76 (fun hc => ?_) (fun hc => ?_)
    · replace hw := hw.1 hc
      obtain ⟨v3_1, ev3_1⟩ : ∃ z : Int32, z = v3 + 1 := ⟨_, rfl⟩
      replace hw := hw v3_1 ev3_1
      refine go_iinc (v := v3_1) (lv2 := [(3, .int v3_1), (0, .ref (G.2.2.1 52)), (1, .int v1), (2, .int v2), (4, .int v4), (5, .int v5)]) C 3 rfl (by rw [ev3_1]; rfl) (by rw [hnl]; decide) rfl dX10_pairs_158 ?_
      refine go_goto C 4 rfl dX10_pairs_161 ?_
      refine go_sub [1, 2, 3, 0] rfl ?_
      exact hK4 _ _ _ _ hw
    · replace hw := hw.2 hc
      refine go_iload C 4 rfl dX10_pairs_79 ?_
      refine go_iconst (v := (-1)) C rfl dX10_pairs_81 ?_
      refine go_icmp_eq C 158 rfl dX10_pairs_82 (fun hc => ?_) (fun hc => ?_)
      · replace hw := hw.1 hc
        obtain ⟨v3_2, ev3_2⟩ : ∃ z : Int32, z = v3 + 1 := ⟨_, rfl⟩
        replace hw := hw v3_2 ev3_2
        refine go_iinc (v := v3_2) (lv2 := [(3, .int v3_2), (0, .ref (G.2.2.1 52)), (1, .int v1), (2, .int v2), (4, .int v4), (5, .int v5)]) C 3 rfl (by rw [ev3_2]; rfl) (by rw [hnl]; decide) rfl dX10_pairs_158 ?_
        refine go_goto C 4 rfl dX10_pairs_161 ?_
        refine go_sub [1, 2, 3, 0] rfl ?_
        exact hK4 _ _ _ _ hw
      · replace hw := hw.2 hc
        refine go_aload_n C 0 rfl rfl dX10_pairs_85 ?_
        refine go_get (v := .ref (G.2.2.1 53)) C (shX10 G) ltX10 lkX10_9 rfl dX10_pairs_86 ?_
        refine go_iload_n C 3 rfl rfl dX10_pairs_89 ?_
        refine go_iald C (saX10_rises G) laX10_rises hw.1 dX10_pairs_90 ?_
        replace hw := hw.2
        refine go_aload_n C 0 rfl rfl dX10_pairs_91 ?_
        refine go_get (v := .ref (G.2.2.1 53)) C (shX10 G) ltX10 lkX10_9 rfl dX10_pairs_92 ?_
        refine go_iload C 5 rfl dX10_pairs_95 ?_
        refine go_iald C (saX10_rises G) laX10_rises hw.1 dX10_pairs_97 ?_
        replace hw := hw.2
        refine go_callS (as := [.int (gI σ 53 v3.toNatClampNeg), .int (gI σ 53 v5.toNatClampNeg)]) C hR cwX10_77 (Nat.le_trans (by decide) hd) (by decide) rfl rfl (by decide) dX10_pairs_98 (spJ6_compare_7cf53 (Nat.le_refl _) hw) (fun v_ τ_ hw => ?_)
        obtain ⟨r_3, rfl, hw⟩ := hw
        obtain ⟨σ_4, rfl⟩ : ∃ z, z = τ_ := ⟨_, rfl⟩
        refine go_istore (lv2 := [(6, .int r_3), (0, .ref (G.2.2.1 52)), (1, .int v1), (2, .int v2), (3, .int v3), (4, .int v4), (5, .int v5)]) C (by rw [hnl]; decide) rfl dX10_pairs_101 ?_
        refine go_aload_n C 1 rfl rfl dX10_pairs_103 ?_
        refine go_get (v := .ref (G.2.2.1 54)) C (shX10 G) ltX10 lkX10_15 rfl dX10_pairs_104 ?_
        refine go_iload_n C 4 rfl rfl dX10_pairs_107 ?_
        refine go_iald C (saX10_falls G) laX10_falls hw.1 dX10_pairs_108 ?_
        replace hw := hw.2
        refine go_aload_n C 1 rfl rfl dX10_pairs_109 ?_
        refine go_get (v := .ref (G.2.2.1 54)) C (shX10 G) ltX10 lkX10_15 rfl dX10_pairs_110 ?_
        refine go_iload C 6 rfl dX10_pairs_113 ?_
        refine go_iald C (saX10_falls G) laX10_falls hw.1 dX10_pairs_115 ?_
        replace hw := hw.2
        refine go_callS (as := [.int (gI σ_4 54 v3.toNatClampNeg), .int (gI σ_4 54 v5.toNatClampNeg)]) C hR cwX10_77 (Nat.le_trans (by decide) hd) (by decide) rfl rfl (by decide) dX10_pairs_116 (spJ6_compare_7cf53 (Nat.le_refl _) hw) (fun v_ τ_ hw => ?_)
        obtain ⟨r_5, rfl, hw⟩ := hw
        obtain ⟨σ_6, rfl⟩ : ∃ z, z = τ_ := ⟨_, rfl⟩
        refine go_istore (lv2 := [(7, .int r_5), (6, .int r_3), (0, .ref (G.2.2.1 52)), (1, .int v1), (2, .int v2), (3, .int v3), (4, .int v4), (5, .int v5)]) C (by rw [hnl]; decide) rfl dX10_pairs_119 ?_
        refine go_aload_n C 2 rfl rfl dX10_pairs_121 ?_
        refine go_get (v := .ref (G.2.2.1 53)) C (shX10 G) ltX10 lkX10_9 rfl dX10_pairs_122 ?_
        refine go_iload C 7 rfl dX10_pairs_125 ?_
        refine go_iald C (saX10_rises G) laX10_rises hw.1 dX10_pairs_127 ?_
        replace hw := hw.2
        refine go_iconst (v := (-1)) C rfl dX10_pairs_128 ?_
        refine go_icmp_eq C 152 rfl dX10_pairs_129 (fun hc => ?_) (fun hc => ?_)
        · replace hw := hw.1 hc
          obtain ⟨v5_7, ev5_7⟩ : ∃ z : Int32, z = v5 + 1 := ⟨_, rfl⟩
          replace hw := hw v5_7 ev5_7
          refine go_iinc (v := v5_7) (lv2 := [(5, .int v5_7), (7, .int r_5), (6, .int r_3), (0, .ref (G.2.2.1 52)), (1, .int v1), (2, .int v2), (3, .int v3), (4, .int v4)]) C 7 rfl (by rw [ev5_7]; rfl) (by rw [hnl]; decide) rfl dX10_pairs_152 ?_
          refine go_goto C 73 rfl dX10_pairs_155 ?_
          refine go_sub [3, 4, 5, 6, 7, 0] rfl ?_
          exact ih _ _ _ _ _ _ hw
        · replace hw := hw.2 hc
          refine go_iload C 1 rfl dX10_pairs_132 ?_
          refine go_iload C 0 rfl dX10_pairs_134 ?_
          refine go_imul C dX10_pairs_136 ?_
          refine go_iload_n C 3 rfl rfl dX10_pairs_137 ?_
          refine go_if_eq C 145 rfl dX10_pairs_138 (fun hc => ?_) (fun hc => ?_)
          · replace hw := hw.1 hc
            refine go_iconst (v := (-1)) C rfl dX10_pairs_145 ?_
            refine go_sub [2, 3, 4, 5, 6, 7] rfl ?_
            exact (gbX10_pairs_146 C hr hR hnl hd ih) _ _ _ _ _ _ _ _ hw
          · replace hw := hw.2 hc
            refine go_iconst (v := 1) C rfl dX10_pairs_141 ?_
            refine go_goto C 146 rfl dX10_pairs_142 ?_
            refine go_sub [2, 3, 4, 5, 6, 7] rfl ?_
            exact (gbX10_pairs_146 C hr hR hnl hd ih) _ _ _ _ _ _ _ _ hw
set_option maxRecDepth 20000 in
set_option maxHeartbeats 4000000 in
theorem gbX10_pairs_45 {X : XT} {G : GT} {l : Launch} {d : Nat}  {post : Int32 → St → Prop} (C : Cx X G cX10_pairs RX10) (hr : Rt X G (some .int) (fun v τ => ∃ r : Int32, v = some (.int r) ∧ post r τ)) (hR : Rm X l d) (hnl : X.2.2.2.2.2.2.2.2.2.2.1 = 8)  (hd : 4 ≤ d)  {K4 : Int32 → Int32 → Int32 → St → Prop} (hK4 : ∀ (v1 : Int32) (v2 : Int32) (v3 : Int32) (σ : St), K4 v1 v2 v3 σ → Go X G 4 [(0, .ref (G.2.2.1 52)), (1, .int v1), (2, .int v2), (3, .int v3)] [] σ)
    : ∀ (v1 : Int32) (v2 : Int32) (v3 : Int32) (v4 : Int32) (s0 : Int32) (s1 : Int32) (σ : St), wbX10_pairs_45  K4 post v1 v2 v3 v4 s0 s1 σ → Go X G 45 [(0, .ref (G.2.2.1 52)), (1, .int v1), (2, .int v2), (3, .int v3), (4, .int v4)] [.int s0, .int s1, .ref (G.2.2.1 53)] σ := by
  intro v1 v2 v3 v4 s0 s1 σ hw
  have hw : vp_in s1 16 ∧ (
  ∀ σ_1 : St, σ_1 = sI σ 53 s1.toNatClampNeg s0 →
  ((¬ v4 = (-1) →
    wpX10_slope v3 v4 1 σ_1 (fun r_2 σ_3 =>
    vp_in v3 16 ∧ (
    ∀ σ_4 : St, σ_4 = sI σ_3 54 v3.toNatClampNeg r_2 →
    ∃ n, wbX10_pairs_73 K4 post n v1 v2 v3 v4 0 σ_4))) ∧
  (v4 = (-1) →
    vp_in v3 16 ∧ (
    ∀ σ_5 : St, σ_5 = sI σ_1 54 v3.toNatClampNeg (-1) →
    ∃ n, wbX10_pairs_73 K4 post n v1 v2 v3 v4 0 σ_5)))) := hw
  refine go_iast C (saX10_rises G) laX10_rises hw.1 dX10_pairs_45 (go_nm fun σ_1 eσ_1 => ?_)
  replace hw := hw.2 σ_1 eσ_1
  refine go_aload_n C 0 rfl rfl dX10_pairs_46 ?_
  refine go_get (v := .ref (G.2.2.1 54)) C (shX10 G) ltX10 lkX10_15 rfl dX10_pairs_47 ?_
  refine go_iload_n C 3 rfl rfl dX10_pairs_50 ?_
  refine go_iload C 4 rfl dX10_pairs_51 ?_
  refine go_iconst (v := (-1)) C rfl dX10_pairs_53 ?_
  refine go_icmp_ne C 61 rfl dX10_pairs_54 (fun hc => ?_) (fun hc => ?_)
  · replace hw := hw.1 hc
    refine go_aload_n C 0 rfl rfl dX10_pairs_61 ?_
    refine go_iload_n C 3 rfl rfl dX10_pairs_62 ?_
    refine go_iload C 4 rfl dX10_pairs_63 ?_
    refine go_iconst (v := 1) C rfl dX10_pairs_65 ?_
    refine go_callV (as := [.int v3, .int v4, .int 1]) C hR (shX10 G) ltX10 cwX10_73 (Nat.le_trans (by decide) hd) (by decide) rfl rfl (by decide) dX10_pairs_66 (spX10_slope (Nat.le_refl _) hw) (fun v_ τ_ hw => ?_)
    obtain ⟨r_2, rfl, hw⟩ := hw
    obtain ⟨σ_3, rfl⟩ : ∃ z, z = τ_ := ⟨_, rfl⟩
    refine go_iast C (saX10_falls G) laX10_falls hw.1 dX10_pairs_69 (go_nm fun σ_4 eσ_4 => ?_)
    replace hw := hw.2 σ_4 eσ_4
    refine go_iconst (v := 0) C rfl dX10_pairs_70 ?_
    refine go_istore (lv2 := [(5, .int 0), (0, .ref (G.2.2.1 52)), (1, .int v1), (2, .int v2), (3, .int v3), (4, .int v4)]) C (by rw [hnl]; decide) rfl dX10_pairs_71 ?_
    refine go_sub [1, 2, 3, 4, 5, 0] rfl ?_
    obtain ⟨n_0, hw⟩ := hw
    exact (gbX10_pairs_73 C hr hR hnl hd hK4) n_0 _ _ _ _ _ _ hw
  · replace hw := hw.2 hc
    refine go_iconst (v := (-1)) C rfl dX10_pairs_57 ?_
    refine go_goto C 69 rfl dX10_pairs_58 ?_
    refine go_iast C (saX10_falls G) laX10_falls hw.1 dX10_pairs_69 (go_nm fun σ_5 eσ_5 => ?_)
    replace hw := hw.2 σ_5 eσ_5
    refine go_iconst (v := 0) C rfl dX10_pairs_70 ?_
    refine go_istore (lv2 := [(5, .int 0), (0, .ref (G.2.2.1 52)), (1, .int v1), (2, .int v2), (3, .int v3), (4, .int v4)]) C (by rw [hnl]; decide) rfl dX10_pairs_71 ?_
    refine go_sub [1, 2, 3, 4, 5, 0] rfl ?_
    obtain ⟨n_0, hw⟩ := hw
    exact (gbX10_pairs_73 C hr hR hnl hd hK4) n_0 _ _ _ _ _ _ hw
set_option maxRecDepth 20000 in
set_option maxHeartbeats 4000000 in
theorem gbX10_pairs_4 {X : XT} {G : GT} {l : Launch} {d : Nat}  {post : Int32 → St → Prop} (C : Cx X G cX10_pairs RX10) (hr : Rt X G (some .int) (fun v τ => ∃ r : Int32, v = some (.int r) ∧ post r τ)) (hR : Rm X l d) (hnl : X.2.2.2.2.2.2.2.2.2.2.1 = 8)  (hd : 4 ≤ d)   
    : ∀ (n : Nat) (v1 : Int32) (v2 : Int32) (v3 : Int32) (σ : St), wbX10_pairs_4   post n v1 v2 v3 σ → Go X G 4 [(0, .ref (G.2.2.1 52)), (1, .int v1), (2, .int v2), (3, .int v3)] [] σ := by
  intro n
  induction n with
  | zero => intro v1 v2 v3 σ hw; exact hw.elim
  | succ n ih =>
    intro v1 v2 v3 σ hw
    have hw : (((gI σ 1 0) ≤ v3 →
      post v2 σ) ∧
    (¬ (gI σ 1 0) ≤ v3 →
      wpX10_peak v3 σ (fun r_1 σ_2 =>
      ((¬ r_1 = (-1) →
        wpX10_slope v3 r_1 (-1) σ_2 (fun r_3 σ_4 =>
        wbX10_pairs_45 (wbX10_pairs_4 post n) post v1 v2 v3 r_1 r_3 v3 σ_4)) ∧
      (r_1 = (-1) →
        wbX10_pairs_45 (wbX10_pairs_4 post n) post v1 v2 v3 r_1 (-1) v3 σ_2))))) := hw
    refine go_iload_n C 3 rfl rfl dX10_pairs_4 ?_
    refine go_aload_n C 0 rfl rfl dX10_pairs_5 ?_
    refine go_get (v := .ref (G.2.2.1 1)) C (shX10 G) ltX10 lkX10_33 rfl dX10_pairs_6 ?_
    refine go_get (v := .int (gI σ 1 0)) C (shX5 G) ltX5 lkX10_64 rfl dX10_pairs_9 ?_
    refine go_icmp_ge C 164 rfl dX10_pairs_12 (fun hc => ?_) (fun hc => ?_)
    · replace hw := hw.1 hc
      refine go_iload_n C 2 rfl rfl dX10_pairs_164 ?_
      exact go_iret C hr ⟨_, rfl, hw⟩ dX10_pairs_165
    · replace hw := hw.2 hc
      refine go_aload_n C 0 rfl rfl dX10_pairs_15 ?_
      refine go_iload_n C 3 rfl rfl dX10_pairs_16 ?_
      refine go_callV (as := [.int v3]) C hR (shX10 G) ltX10 cwX10_69 (Nat.le_trans (by decide) hd) (by decide) rfl rfl (by decide) dX10_pairs_17 (spX10_peak (Nat.le_refl _) hw) (fun v_ τ_ hw => ?_)
      obtain ⟨r_1, rfl, hw⟩ := hw
      obtain ⟨σ_2, rfl⟩ : ∃ z, z = τ_ := ⟨_, rfl⟩
      refine go_istore (lv2 := [(4, .int r_1), (0, .ref (G.2.2.1 52)), (1, .int v1), (2, .int v2), (3, .int v3)]) C (by rw [hnl]; decide) rfl dX10_pairs_20 ?_
      refine go_aload_n C 1 rfl rfl dX10_pairs_22 ?_
      refine go_get (v := .ref (G.2.2.1 53)) C (shX10 G) ltX10 lkX10_9 rfl dX10_pairs_23 ?_
      refine go_iload_n C 4 rfl rfl dX10_pairs_26 ?_
      refine go_iload C 0 rfl dX10_pairs_27 ?_
      refine go_iconst (v := (-1)) C rfl dX10_pairs_29 ?_
      refine go_icmp_ne C 37 rfl dX10_pairs_30 (fun hc => ?_) (fun hc => ?_)
      · replace hw := hw.1 hc
        refine go_aload_n C 1 rfl rfl dX10_pairs_37 ?_
        refine go_iload_n C 4 rfl rfl dX10_pairs_38 ?_
        refine go_iload C 0 rfl dX10_pairs_39 ?_
        refine go_iconst (v := (-1)) C rfl dX10_pairs_41 ?_
        refine go_callV (as := [.int v3, .int r_1, .int (-1)]) C hR (shX10 G) ltX10 cwX10_73 (Nat.le_trans (by decide) hd) (by decide) rfl rfl (by decide) dX10_pairs_42 (spX10_slope (Nat.le_refl _) hw) (fun v_ τ_ hw => ?_)
        obtain ⟨r_3, rfl, hw⟩ := hw
        obtain ⟨σ_4, rfl⟩ : ∃ z, z = τ_ := ⟨_, rfl⟩
        refine go_sub [1, 2, 3, 4, 0] rfl ?_
        exact (gbX10_pairs_45 C hr hR hnl hd ih) _ _ _ _ _ _ _ hw
      · replace hw := hw.2 hc
        refine go_iconst (v := (-1)) C rfl dX10_pairs_33 ?_
        refine go_goto C 45 rfl dX10_pairs_34 ?_
        refine go_sub [1, 2, 3, 4, 0] rfl ?_
        exact (gbX10_pairs_45 C hr hR hnl hd ih) _ _ _ _ _ _ _ hw
set_option maxRecDepth 20000 in
set_option maxHeartbeats 4000000 in
theorem spX10_pairs {l : Launch} {G : GT} {d : Nat}  (hd : 4 ≤ d)   {a1 : Int32} {σ : St} {post : Int32 → St → Prop} (hw : wpX10_pairs  a1 σ post) : Sp l G d yX10_pairs cX10_pairs 8 (some .int) [.ref (G.2.2.1 52), .int a1] σ (fun v τ => ∃ r : Int32, v = some (.int r) ∧ post r τ) := by
  refine Sp.of (by decide) (by decide) fun X C hr hR hnl => ?_
  show Go X G 0 [(0, .ref (G.2.2.1 52)), (1, .int a1)] [] σ
  have hw : ∃ n, wbX10_pairs_4 post n a1 0 0 σ := hw
  refine go_iconst (v := 0) C rfl dX10_pairs_0 ?_
  refine go_istore_n (lv2 := [(2, .int 0), (0, .ref (G.2.2.1 52)), (1, .int a1)]) C rfl (by rw [hnl]; decide) rfl dX10_pairs_1 ?_
  refine go_iconst (v := 0) C rfl dX10_pairs_2 ?_
  refine go_istore_n (lv2 := [(3, .int 0), (2, .int 0), (0, .ref (G.2.2.1 52)), (1, .int a1)]) C rfl (by rw [hnl]; decide) rfl dX10_pairs_3 ?_
  refine go_sub [2, 3, 1, 0] rfl ?_
  obtain ⟨n_0, hw⟩ := hw
  exact (gbX10_pairs_4 C hr hR hnl hd) n_0 _ _ _ _ hw
-- CradleNames$Trails.findThousandths()V
def wbX10_findThousandths_86  (K38 : Int32 → Int32 → Int32 → Int32 → St → Prop) (post : St → Prop) (v1 : Int32) (v2 : Int32) (v3 : Int32) (v4 : Int32) (v5 : Int32) (s0 : Int32) (s1 : Int32) (σ : St) : Prop :=
  vp_in s1 976 ∧ (
  ∀ σ_1 : St, σ_1 = sI σ 55 s1.toNatClampNeg s0 →
  ((¬ v3 = 0 →
    wpX0_between 0 4 v4 v1 v1 σ_1 (fun r_2 σ_3 =>
    ¬ v3 = 0 ∧ (
    vp_in v5 976 ∧ (
    ∀ σ_4 : St, σ_4 = sI σ_3 56 v5.toNatClampNeg ((r_2 * 1000) / v3) →
    ∀ v4_5 : Int32, v4_5 = v4 + 1 →
    K38 v1 v2 v3 v4_5 σ_4)))) ∧
  (v3 = 0 →
    vp_in v5 976 ∧ (
    ∀ σ_6 : St, σ_6 = sI σ_1 56 v5.toNatClampNeg 0 →
    ∀ v4_7 : Int32, v4_7 = v4 + 1 →
    K38 v1 v2 v3 v4_7 σ_6))))
def wbX10_findThousandths_38  (K2 : Int32 → St → Prop) (post : St → Prop) : Nat → Int32 → Int32 → Int32 → Int32 → St → Prop
  | 0, _, _, _, _, _ => False
  | n + 1, v1, v2, v3, v4, σ =>
    ((16 ≤ v4 →
      ∀ v1_1 : Int32, v1_1 = v1 + 1 →
      K2 v1_1 σ) ∧
    (¬ 16 ≤ v4 →
      ∀ v5_2 : Int32, v5_2 = ((v1 * 16) + v4) →
      ((¬ v2 = 0 →
        wpX0_between 0 3 v4 v1 v1 σ (fun r_3 σ_4 =>
        ¬ v2 = 0 ∧ (
        wbX10_findThousandths_86 (wbX10_findThousandths_38 K2 post n) post v1 v2 v3 v4 v5_2 ((r_3 * 1000) / v2) v5_2 σ_4))) ∧
      (v2 = 0 →
        wbX10_findThousandths_86 (wbX10_findThousandths_38 K2 post n) post v1 v2 v3 v4 v5_2 0 v5_2 σ))))
def wbX10_findThousandths_2   (post : St → Prop) : Nat → Int32 → St → Prop
  | 0, _, _ => False
  | n + 1, v1, σ =>
    (((gI σ 9 0) ≤ v1 →
      post σ) ∧
    (¬ (gI σ 9 0) ≤ v1 →
      wpX0_groupTotal 0 3 v1 v1 σ (fun r_1 σ_2 =>
      wpX0_groupTotal 0 4 v1 v1 σ_2 (fun r_3 σ_4 =>
      ∃ n, wbX10_findThousandths_38 (wbX10_findThousandths_2 post n) post n v1 r_1 r_3 0 σ_4))))
def wpX10_findThousandths   (σ : St) (post : St → Prop) : Prop :=
  ∃ n, wbX10_findThousandths_2 post n 0 σ
set_option maxRecDepth 20000 in
set_option maxHeartbeats 4000000 in
theorem gbX10_findThousandths_86 {X : XT} {G : GT} {l : Launch} {d : Nat}  {post : St → Prop} (C : Cx X G cX10_findThousandths RX10) (hr : Rt X G none (fun v τ => v = none ∧ post τ)) (hR : Rm X l d) (hnl : X.2.2.2.2.2.2.2.2.2.2.1 = 6)  (hd : 3 ≤ d)  {K38 : Int32 → Int32 → Int32 → Int32 → St → Prop} (hK38 : ∀ (v1 : Int32) (v2 : Int32) (v3 : Int32) (v4 : Int32) (σ : St), K38 v1 v2 v3 v4 σ → Go X G 38 [(0, .ref (G.2.2.1 52)), (1, .int v1), (2, .int v2), (3, .int v3), (4, .int v4)] [] σ)
    : ∀ (v1 : Int32) (v2 : Int32) (v3 : Int32) (v4 : Int32) (v5 : Int32) (s0 : Int32) (s1 : Int32) (σ : St), wbX10_findThousandths_86  K38 post v1 v2 v3 v4 v5 s0 s1 σ → Go X G 86 [(0, .ref (G.2.2.1 52)), (1, .int v1), (2, .int v2), (3, .int v3), (4, .int v4), (5, .int v5)] [.int s0, .int s1, .ref (G.2.2.1 55)] σ := by
  intro v1 v2 v3 v4 v5 s0 s1 σ hw
  have hw : vp_in s1 976 ∧ (
  ∀ σ_1 : St, σ_1 = sI σ 55 s1.toNatClampNeg s0 →
  ((¬ v3 = 0 →
    wpX0_between 0 4 v4 v1 v1 σ_1 (fun r_2 σ_3 =>
    ¬ v3 = 0 ∧ (
    vp_in v5 976 ∧ (
    ∀ σ_4 : St, σ_4 = sI σ_3 56 v5.toNatClampNeg ((r_2 * 1000) / v3) →
    ∀ v4_5 : Int32, v4_5 = v4 + 1 →
    K38 v1 v2 v3 v4_5 σ_4)))) ∧
  (v3 = 0 →
    vp_in v5 976 ∧ (
    ∀ σ_6 : St, σ_6 = sI σ_1 56 v5.toNatClampNeg 0 →
    ∀ v4_7 : Int32, v4_7 = v4 + 1 →
    K38 v1 v2 v3 v4_7 σ_6)))) := hw
  refine go_iast C (saX10_upper G) laX10_upper hw.1 dX10_findThousandths_86 (go_nm fun σ_1 eσ_1 => ?_)
  replace hw := hw.2 σ_1 eσ_1
  refine go_aload_n C 0 rfl rfl dX10_findThousandths_87 ?_
  refine go_get (v := .ref (G.2.2.1 56)) C (shX10 G) ltX10 lkX10_21 rfl dX10_findThousandths_88 ?_
  refine go_iload C 5 rfl dX10_findThousandths_91 ?_
  refine go_iload_n C 3 rfl rfl dX10_findThousandths_93 ?_
  refine go_if_ne C 101 rfl dX10_findThousandths_94 (fun hc => ?_) (fun hc => ?_)
  · replace hw := hw.1 hc
    refine go_aload_n C 0 rfl rfl dX10_findThousandths_101 ?_
    refine go_get (v := .ref (G.2.2.1 (21 + 4 * 0))) C (shX10 G) ltX10 lkX10_41 rfl dX10_findThousandths_102 ?_
    refine go_iconst (v := 4) C rfl dX10_findThousandths_105 ?_
    refine go_iload C 4 rfl dX10_findThousandths_106 ?_
    refine go_iload_n C 1 rfl rfl dX10_findThousandths_108 ?_
    refine go_iload_n C 1 rfl rfl dX10_findThousandths_109 ?_
    refine go_callV (as := [.int 4, .int v4, .int v1, .int v1]) C hR (shX0 G (show 0 < 2 by decide)) (ltX0 (show 0 < 2 by decide)) cwX10_45 (Nat.le_trans (by decide) hd) (by decide) rfl rfl (by decide) dX10_findThousandths_110 (spX0_between (Nat.le_refl _) (show 0 < 2 by decide) hw) (fun v_ τ_ hw => ?_)
    obtain ⟨r_2, rfl, hw⟩ := hw
    obtain ⟨σ_3, rfl⟩ : ∃ z, z = τ_ := ⟨_, rfl⟩
    refine go_sipush (v := 1000) C rfl dX10_findThousandths_113 ?_
    refine go_imul C dX10_findThousandths_116 ?_
    refine go_iload_n C 3 rfl rfl dX10_findThousandths_117 ?_
    refine go_idiv C hw.1 dX10_findThousandths_118 ?_
    replace hw := hw.2
    refine go_iast C (saX10_lower G) laX10_lower hw.1 dX10_findThousandths_119 (go_nm fun σ_4 eσ_4 => ?_)
    replace hw := hw.2 σ_4 eσ_4
    obtain ⟨v4_5, ev4_5⟩ : ∃ z : Int32, z = v4 + 1 := ⟨_, rfl⟩
    replace hw := hw v4_5 ev4_5
    refine go_iinc (v := v4_5) (lv2 := [(4, .int v4_5), (0, .ref (G.2.2.1 52)), (1, .int v1), (2, .int v2), (3, .int v3), (5, .int v5)]) C 4 rfl (by rw [ev4_5]; rfl) (by rw [hnl]; decide) rfl dX10_findThousandths_120 ?_
    refine go_goto C 38 rfl dX10_findThousandths_123 ?_
    refine go_sub [1, 2, 3, 4, 0] rfl ?_
    exact hK38 _ _ _ _ _ hw
  · replace hw := hw.2 hc
    refine go_iconst (v := 0) C rfl dX10_findThousandths_97 ?_
    refine go_goto C 119 rfl dX10_findThousandths_98 ?_
    refine go_iast C (saX10_lower G) laX10_lower hw.1 dX10_findThousandths_119 (go_nm fun σ_6 eσ_6 => ?_)
    replace hw := hw.2 σ_6 eσ_6
    obtain ⟨v4_7, ev4_7⟩ : ∃ z : Int32, z = v4 + 1 := ⟨_, rfl⟩
    replace hw := hw v4_7 ev4_7
    refine go_iinc (v := v4_7) (lv2 := [(4, .int v4_7), (0, .ref (G.2.2.1 52)), (1, .int v1), (2, .int v2), (3, .int v3), (5, .int v5)]) C 4 rfl (by rw [ev4_7]; rfl) (by rw [hnl]; decide) rfl dX10_findThousandths_120 ?_
    refine go_goto C 38 rfl dX10_findThousandths_123 ?_
    refine go_sub [1, 2, 3, 4, 0] rfl ?_
    exact hK38 _ _ _ _ _ hw
set_option maxRecDepth 20000 in
set_option maxHeartbeats 4000000 in
theorem gbX10_findThousandths_38 {X : XT} {G : GT} {l : Launch} {d : Nat}  {post : St → Prop} (C : Cx X G cX10_findThousandths RX10) (hr : Rt X G none (fun v τ => v = none ∧ post τ)) (hR : Rm X l d) (hnl : X.2.2.2.2.2.2.2.2.2.2.1 = 6)  (hd : 3 ≤ d)  {K2 : Int32 → St → Prop} (hK2 : ∀ (v1 : Int32) (σ : St), K2 v1 σ → Go X G 2 [(0, .ref (G.2.2.1 52)), (1, .int v1)] [] σ)
    : ∀ (n : Nat) (v1 : Int32) (v2 : Int32) (v3 : Int32) (v4 : Int32) (σ : St), wbX10_findThousandths_38  K2 post n v1 v2 v3 v4 σ → Go X G 38 [(0, .ref (G.2.2.1 52)), (1, .int v1), (2, .int v2), (3, .int v3), (4, .int v4)] [] σ := by
  intro n
  induction n with
  | zero => intro v1 v2 v3 v4 σ hw; exact hw.elim
  | succ n ih =>
    intro v1 v2 v3 v4 σ hw
    have hw : ((16 ≤ v4 →
      ∀ v1_1 : Int32, v1_1 = v1 + 1 →
      K2 v1_1 σ) ∧
    (¬ 16 ≤ v4 →
      ∀ v5_2 : Int32, v5_2 = ((v1 * 16) + v4) →
      ((¬ v2 = 0 →
        wpX0_between 0 3 v4 v1 v1 σ (fun r_3 σ_4 =>
        ¬ v2 = 0 ∧ (
        wbX10_findThousandths_86 (wbX10_findThousandths_38 K2 post n) post v1 v2 v3 v4 v5_2 ((r_3 * 1000) / v2) v5_2 σ_4))) ∧
      (v2 = 0 →
        wbX10_findThousandths_86 (wbX10_findThousandths_38 K2 post n) post v1 v2 v3 v4 v5_2 0 v5_2 σ)))) := hw
    refine go_iload C 4 rfl dX10_findThousandths_38 ?_
    refine go_bipush (v := 16) C rfl dX10_findThousandths_40 ?_
    refine go_icmp_ge C 126 rfl dX10_findThousandths_42 (fun hc => ?_) (fun hc => ?_)
    · replace hw := hw.1 hc
      obtain ⟨v1_1, ev1_1⟩ : ∃ z : Int32, z = v1 + 1 := ⟨_, rfl⟩
      replace hw := hw v1_1 ev1_1
      refine go_iinc (v := v1_1) (lv2 := [(1, .int v1_1), (0, .ref (G.2.2.1 52)), (2, .int v2), (3, .int v3), (4, .int v4)]) C 1 rfl (by rw [ev1_1]; rfl) (by rw [hnl]; decide) rfl dX10_findThousandths_126 ?_
      refine go_goto C 2 rfl dX10_findThousandths_129 ?_
      refine go_sub [1, 0] rfl ?_
      exact hK2 _ _ hw
    · replace hw := hw.2 hc
      refine go_iload_n C 1 rfl rfl dX10_findThousandths_45 ?_
      refine go_bipush (v := 16) C rfl dX10_findThousandths_46 ?_
      refine go_imul C dX10_findThousandths_48 ?_
      refine go_iload C 4 rfl dX10_findThousandths_49 ?_
      refine go_iadd C dX10_findThousandths_51 ?_
      refine go_topi (fun v5_2 ev5_2 => ?_)
      replace hw := hw v5_2 ev5_2
      refine go_istore (lv2 := [(5, .int v5_2), (0, .ref (G.2.2.1 52)), (1, .int v1), (2, .int v2), (3, .int v3), (4, .int v4)]) C (by rw [hnl]; decide) rfl dX10_findThousandths_52 ?_
      refine go_aload_n C 1 rfl rfl dX10_findThousandths_54 ?_
      refine go_get (v := .ref (G.2.2.1 55)) C (shX10 G) ltX10 lkX10_18 rfl dX10_findThousandths_55 ?_
      refine go_iload C 0 rfl dX10_findThousandths_58 ?_
      refine go_iload_n C 3 rfl rfl dX10_findThousandths_60 ?_
      refine go_if_ne C 68 rfl dX10_findThousandths_61 (fun hc => ?_) (fun hc => ?_)
      · replace hw := hw.1 hc
        refine go_aload_n C 1 rfl rfl dX10_findThousandths_68 ?_
        refine go_get (v := .ref (G.2.2.1 (21 + 4 * 0))) C (shX10 G) ltX10 lkX10_41 rfl dX10_findThousandths_69 ?_
        refine go_iconst (v := 3) C rfl dX10_findThousandths_72 ?_
        refine go_iload C 5 rfl dX10_findThousandths_73 ?_
        refine go_iload_n C 2 rfl rfl dX10_findThousandths_75 ?_
        refine go_iload_n C 2 rfl rfl dX10_findThousandths_76 ?_
        refine go_callV (as := [.int 3, .int v4, .int v1, .int v1]) C hR (shX0 G (show 0 < 2 by decide)) (ltX0 (show 0 < 2 by decide)) cwX10_45 (Nat.le_trans (by decide) hd) (by decide) rfl rfl (by decide) dX10_findThousandths_77 (spX0_between (Nat.le_refl _) (show 0 < 2 by decide) hw) (fun v_ τ_ hw => ?_)
        obtain ⟨r_3, rfl, hw⟩ := hw
        obtain ⟨σ_4, rfl⟩ : ∃ z, z = τ_ := ⟨_, rfl⟩
        refine go_sipush (v := 1000) C rfl dX10_findThousandths_80 ?_
        refine go_imul C dX10_findThousandths_83 ?_
        refine go_iload_n C 3 rfl rfl dX10_findThousandths_84 ?_
        refine go_idiv C hw.1 dX10_findThousandths_85 ?_
        replace hw := hw.2
        refine go_sub [1, 2, 3, 4, 5, 0] rfl ?_
        exact (gbX10_findThousandths_86 C hr hR hnl hd ih) _ _ _ _ _ _ _ _ hw
      · replace hw := hw.2 hc
        refine go_iconst (v := 0) C rfl dX10_findThousandths_64 ?_
        refine go_goto C 86 rfl dX10_findThousandths_65 ?_
        refine go_sub [1, 2, 3, 4, 5, 0] rfl ?_
        exact (gbX10_findThousandths_86 C hr hR hnl hd ih) _ _ _ _ _ _ _ _ hw
set_option maxRecDepth 20000 in
set_option maxHeartbeats 4000000 in
theorem gbX10_findThousandths_2 {X : XT} {G : GT} {l : Launch} {d : Nat}  {post : St → Prop} (C : Cx X G cX10_findThousandths RX10) (hr : Rt X G none (fun v τ => v = none ∧ post τ)) (hR : Rm X l d) (hnl : X.2.2.2.2.2.2.2.2.2.2.1 = 6)  (hd : 3 ≤ d)   
    : ∀ (n : Nat) (v1 : Int32) (σ : St), wbX10_findThousandths_2   post n v1 σ → Go X G 2 [(0, .ref (G.2.2.1 52)), (1, .int v1)] [] σ := by
  intro n
  induction n with
  | zero => intro v1 σ hw; exact hw.elim
  | succ n ih =>
    intro v1 σ hw
    have hw : (((gI σ 9 0) ≤ v1 →
      post σ) ∧
    (¬ (gI σ 9 0) ≤ v1 →
      wpX0_groupTotal 0 3 v1 v1 σ (fun r_1 σ_2 =>
      wpX0_groupTotal 0 4 v1 v1 σ_2 (fun r_3 σ_4 =>
      ∃ n, wbX10_findThousandths_38 (wbX10_findThousandths_2 post n) post n v1 r_1 r_3 0 σ_4)))) := hw
    refine go_iload_n C 1 rfl rfl dX10_findThousandths_2 ?_
    refine go_aload_n C 0 rfl rfl dX10_findThousandths_3 ?_
    refine go_get (v := .ref (G.2.2.1 9)) C (shX10 G) ltX10 lkX10_37 rfl dX10_findThousandths_4 ?_
    refine go_get (v := .int (gI σ 9 0)) C (shX4 G) ltX4 lkX10_57 rfl dX10_findThousandths_7 ?_
    refine go_icmp_ge C 132 rfl dX10_findThousandths_10 (fun hc => ?_) (fun hc => ?_)
    · replace hw := hw.1 hc
      exact go_vret C hr hw dX10_findThousandths_132
    · replace hw := hw.2 hc
      refine go_aload_n C 0 rfl rfl dX10_findThousandths_13 ?_
      refine go_get (v := .ref (G.2.2.1 (21 + 4 * 0))) C (shX10 G) ltX10 lkX10_41 rfl dX10_findThousandths_14 ?_
      refine go_iconst (v := 3) C rfl dX10_findThousandths_17 ?_
      refine go_iload_n C 1 rfl rfl dX10_findThousandths_18 ?_
      refine go_iload_n C 1 rfl rfl dX10_findThousandths_19 ?_
      refine go_callV (as := [.int 3, .int v1, .int v1]) C hR (shX0 G (show 0 < 2 by decide)) (ltX0 (show 0 < 2 by decide)) cwX10_82 (Nat.le_trans (by decide) hd) (by decide) rfl rfl (by decide) dX10_findThousandths_20 (spX0_groupTotal (Nat.le_refl _) (show 0 < 2 by decide) hw) (fun v_ τ_ hw => ?_)
      obtain ⟨r_1, rfl, hw⟩ := hw
      obtain ⟨σ_2, rfl⟩ : ∃ z, z = τ_ := ⟨_, rfl⟩
      refine go_istore_n (lv2 := [(2, .int r_1), (0, .ref (G.2.2.1 52)), (1, .int v1)]) C rfl (by rw [hnl]; decide) rfl dX10_findThousandths_23 ?_
      refine go_aload_n C 1 rfl rfl dX10_findThousandths_24 ?_
      refine go_get (v := .ref (G.2.2.1 (21 + 4 * 0))) C (shX10 G) ltX10 lkX10_41 rfl dX10_findThousandths_25 ?_
      refine go_iconst (v := 4) C rfl dX10_findThousandths_28 ?_
      refine go_iload_n C 2 rfl rfl dX10_findThousandths_29 ?_
      refine go_iload_n C 2 rfl rfl dX10_findThousandths_30 ?_
      refine go_callV (as := [.int 4, .int v1, .int v1]) C hR (shX0 G (show 0 < 2 by decide)) (ltX0 (show 0 < 2 by decide)) cwX10_82 (Nat.le_trans (by decide) hd) (by decide) rfl rfl (by decide) dX10_findThousandths_31 (spX0_groupTotal (Nat.le_refl _) (show 0 < 2 by decide) hw) (fun v_ τ_ hw => ?_)
      obtain ⟨r_3, rfl, hw⟩ := hw
      obtain ⟨σ_4, rfl⟩ : ∃ z, z = τ_ := ⟨_, rfl⟩
      refine go_istore_n (lv2 := [(3, .int r_3), (2, .int r_1), (0, .ref (G.2.2.1 52)), (1, .int v1)]) C rfl (by rw [hnl]; decide) rfl dX10_findThousandths_34 ?_
      refine go_iconst (v := 0) C rfl dX10_findThousandths_35 ?_
      refine go_istore (lv2 := [(4, .int 0), (3, .int r_3), (2, .int r_1), (0, .ref (G.2.2.1 52)), (1, .int v1)]) C (by rw [hnl]; decide) rfl dX10_findThousandths_36 ?_
      refine go_sub [3, 4, 2, 1, 0] rfl ?_
      obtain ⟨n_0, hw⟩ := hw
      exact (gbX10_findThousandths_38 C hr hR hnl hd ih) n_0 _ _ _ _ _ hw
set_option maxRecDepth 20000 in
set_option maxHeartbeats 4000000 in
theorem spX10_findThousandths {l : Launch} {G : GT} {d : Nat}  (hd : 3 ≤ d)    {σ : St} {post : St → Prop} (hw : wpX10_findThousandths   σ post) : Sp l G d yX10_findThousandths cX10_findThousandths 6 none [.ref (G.2.2.1 52)] σ (fun v τ => v = none ∧ post τ) := by
  refine Sp.of (by decide) (by decide) fun X C hr hR hnl => ?_
  show Go X G 0 [(0, .ref (G.2.2.1 52))] [] σ
  have hw : ∃ n, wbX10_findThousandths_2 post n 0 σ := hw
  refine go_iconst (v := 0) C rfl dX10_findThousandths_0 ?_
  refine go_istore_n (lv2 := [(1, .int 0), (0, .ref (G.2.2.1 52))]) C rfl (by rw [hnl]; decide) rfl dX10_findThousandths_1 ?_
  refine go_sub [1, 0] rfl ?_
  obtain ⟨n_0, hw⟩ := hw
  exact (gbX10_findThousandths_2 C hr hR hnl hd) n_0 _ _ hw
-- java/lang/Math.abs(I)I
def wpJ9_abs_0f7a4  (a1 : Int32) (σ : St) (post : Int32 → St → Prop) : Prop :=
  ((0 ≤ a1 →
    post a1 σ) ∧
  (¬ 0 ≤ a1 →
    post (-a1) σ))
set_option maxRecDepth 20000 in
set_option maxHeartbeats 4000000 in
theorem spJ9_abs_0f7a4 {l : Launch} {G : GT} {d : Nat}  (hd : 1 ≤ d)   {a1 : Int32} {σ : St} {post : Int32 → St → Prop} (hw : wpJ9_abs_0f7a4  a1 σ post) : Sp l G d yJ9_abs_0f7a4 cJ9_abs_0f7a4 1 (some .int) [.int a1] σ (fun v τ => ∃ r : Int32, v = some (.int r) ∧ post r τ) := by
  refine Sp.of (by decide) (by decide) fun X C hr hR hnl => ?_
  show Go X G 0 [(0, .int a1)] [] σ
  have hw : ((0 ≤ a1 →
    post a1 σ) ∧
  (¬ 0 ≤ a1 →
    post (-a1) σ)) := hw
  refine go_iload_n C 0 rfl rfl dJ9_abs_0f7a4_0 ?_
  refine go_if_ge C 9 rfl dJ9_abs_0f7a4_1 (fun hc => ?_) (fun hc => ?_)
  · replace hw := hw.1 hc
    refine go_iload_n C 0 rfl rfl dJ9_abs_0f7a4_9 ?_
    exact go_iret C hr ⟨_, rfl, hw⟩ dJ9_abs_0f7a4_10
  · replace hw := hw.2 hc
    refine go_iload_n C 0 rfl rfl dJ9_abs_0f7a4_4 ?_
    refine go_ineg C dJ9_abs_0f7a4_5 ?_
    refine go_goto C 10 rfl dJ9_abs_0f7a4_6 ?_
    exact go_iret C hr ⟨_, rfl, hw⟩ dJ9_abs_0f7a4_10
-- CradleNames$Trails.apartBy(I)I
def wbX10_apartBy_25   (post : Int32 → St → Prop) : Nat → Int32 → Int32 → Int32 → Int32 → St → Prop
  | 0, _, _, _, _, _ => False
  | n + 1, v1, v2, v3, v4, σ =>
    (((v2 * 16) ≤ v4 →
      ¬ v2 = 0 ∧ (
      post (v3 / v2) σ)) ∧
    (¬ (v2 * 16) ≤ v4 →
      vp_in v4 976 ∧ (
      vp_in ((v1 * 16) + v4) 976 ∧ (
      wpJ9_abs_0f7a4 ((gI σ 55 v4.toNatClampNeg) - (gI σ 56 ((v1 * 16) + v4).toNatClampNeg)) σ (fun r_1 σ_2 =>
      ∀ v3_3 : Int32, v3_3 = (v3 + r_1) →
      ∀ v4_4 : Int32, v4_4 = v4 + 1 →
      wbX10_apartBy_25 post n v1 v2 v3_3 v4_4 σ_2)))))
def wpX10_apartBy  (a1 : Int32) (σ : St) (post : Int32 → St → Prop) : Prop :=
  ∀ v2_1 : Int32, v2_1 = ((gI σ 9 0) - a1) →
  ((v2_1 ≤ 0 →
    post (-1) σ) ∧
  (¬ v2_1 ≤ 0 →
    ((0 ≤ a1 →
      ∃ n, wbX10_apartBy_25 post n a1 v2_1 0 0 σ) ∧
    (¬ 0 ≤ a1 →
      post (-1) σ))))
set_option maxRecDepth 20000 in
set_option maxHeartbeats 4000000 in
theorem gbX10_apartBy_25 {X : XT} {G : GT} {l : Launch} {d : Nat}  {post : Int32 → St → Prop} (C : Cx X G cX10_apartBy RX10) (hr : Rt X G (some .int) (fun v τ => ∃ r : Int32, v = some (.int r) ∧ post r τ)) (hR : Rm X l d) (hnl : X.2.2.2.2.2.2.2.2.2.2.1 = 5)  (hd : 2 ≤ d)   
    : ∀ (n : Nat) (v1 : Int32) (v2 : Int32) (v3 : Int32) (v4 : Int32) (σ : St), wbX10_apartBy_25   post n v1 v2 v3 v4 σ → Go X G 25 [(0, .ref (G.2.2.1 52)), (1, .int v1), (2, .int v2), (3, .int v3), (4, .int v4)] [] σ := by
  intro n
  induction n with
  | zero => intro v1 v2 v3 v4 σ hw; exact hw.elim
  | succ n ih =>
    intro v1 v2 v3 v4 σ hw
    have hw : (((v2 * 16) ≤ v4 →
      ¬ v2 = 0 ∧ (
      post (v3 / v2) σ)) ∧
    (¬ (v2 * 16) ≤ v4 →
      vp_in v4 976 ∧ (
      vp_in ((v1 * 16) + v4) 976 ∧ (
      wpJ9_abs_0f7a4 ((gI σ 55 v4.toNatClampNeg) - (gI σ 56 ((v1 * 16) + v4).toNatClampNeg)) σ (fun r_1 σ_2 =>
      ∀ v3_3 : Int32, v3_3 = (v3 + r_1) →
      ∀ v4_4 : Int32, v4_4 = v4 + 1 →
      wbX10_apartBy_25 post n v1 v2 v3_3 v4_4 σ_2))))) := hw
    refine go_iload C 4 rfl dX10_apartBy_25 ?_
    refine go_iload_n C 2 rfl rfl dX10_apartBy_27 ?_
    refine go_bipush (v := 16) C rfl dX10_apartBy_28 ?_
    refine go_imul C dX10_apartBy_30 ?_
    refine go_icmp_ge C 66 rfl dX10_apartBy_31 (fun hc => ?_) (fun hc => ?_)
    · replace hw := hw.1 hc
      refine go_iload_n C 3 rfl rfl dX10_apartBy_66 ?_
      refine go_iload_n C 2 rfl rfl dX10_apartBy_67 ?_
      refine go_idiv C hw.1 dX10_apartBy_68 ?_
      replace hw := hw.2
      exact go_iret C hr ⟨_, rfl, hw⟩ dX10_apartBy_69
    · replace hw := hw.2 hc
      refine go_iload_n C 3 rfl rfl dX10_apartBy_34 ?_
      refine go_aload_n C 0 rfl rfl dX10_apartBy_35 ?_
      refine go_get (v := .ref (G.2.2.1 55)) C (shX10 G) ltX10 lkX10_18 rfl dX10_apartBy_36 ?_
      refine go_iload C 4 rfl dX10_apartBy_39 ?_
      refine go_iald C (saX10_upper G) laX10_upper hw.1 dX10_apartBy_41 ?_
      replace hw := hw.2
      refine go_aload_n C 0 rfl rfl dX10_apartBy_42 ?_
      refine go_get (v := .ref (G.2.2.1 56)) C (shX10 G) ltX10 lkX10_21 rfl dX10_apartBy_43 ?_
      refine go_iload_n C 1 rfl rfl dX10_apartBy_46 ?_
      refine go_bipush (v := 16) C rfl dX10_apartBy_47 ?_
      refine go_imul C dX10_apartBy_49 ?_
      refine go_iload C 4 rfl dX10_apartBy_50 ?_
      refine go_iadd C dX10_apartBy_52 ?_
      refine go_iald C (saX10_lower G) laX10_lower hw.1 dX10_apartBy_53 ?_
      replace hw := hw.2
      refine go_isub C dX10_apartBy_54 ?_
      refine go_callS (as := [.int ((gI σ 55 v4.toNatClampNeg) - (gI σ 56 ((v1 * 16) + v4).toNatClampNeg))]) C hR cwX10_85 (Nat.le_trans (by decide) hd) (by decide) rfl rfl (by decide) dX10_apartBy_55 (spJ9_abs_0f7a4 (Nat.le_refl _) hw) (fun v_ τ_ hw => ?_)
      obtain ⟨r_1, rfl, hw⟩ := hw
      obtain ⟨σ_2, rfl⟩ : ∃ z, z = τ_ := ⟨_, rfl⟩
      refine go_iadd C dX10_apartBy_58 ?_
      refine go_topi (fun v3_3 ev3_3 => ?_)
      replace hw := hw v3_3 ev3_3
      refine go_istore_n (lv2 := [(3, .int v3_3), (0, .ref (G.2.2.1 52)), (1, .int v1), (2, .int v2), (4, .int v4)]) C rfl (by rw [hnl]; decide) rfl dX10_apartBy_59 ?_
      obtain ⟨v4_4, ev4_4⟩ : ∃ z : Int32, z = v4 + 1 := ⟨_, rfl⟩
      replace hw := hw v4_4 ev4_4
      refine go_iinc (v := v4_4) (lv2 := [(4, .int v4_4), (3, .int v3_3), (0, .ref (G.2.2.1 52)), (1, .int v1), (2, .int v2)]) C 4 rfl (by rw [ev4_4]; rfl) (by rw [hnl]; decide) rfl dX10_apartBy_60 ?_
      refine go_goto C 25 rfl dX10_apartBy_63 ?_
      refine go_sub [2, 3, 4, 1, 0] rfl ?_
      exact ih _ _ _ _ _ hw
set_option maxRecDepth 20000 in
set_option maxHeartbeats 4000000 in
theorem spX10_apartBy {l : Launch} {G : GT} {d : Nat}  (hd : 2 ≤ d)   {a1 : Int32} {σ : St} {post : Int32 → St → Prop} (hw : wpX10_apartBy  a1 σ post) : Sp l G d yX10_apartBy cX10_apartBy 5 (some .int) [.ref (G.2.2.1 52), .int a1] σ (fun v τ => ∃ r : Int32, v = some (.int r) ∧ post r τ) := by
  refine Sp.of (by decide) (by decide) fun X C hr hR hnl => ?_
  show Go X G 0 [(0, .ref (G.2.2.1 52)), (1, .int a1)] [] σ
  have hw : ∀ v2_1 : Int32, v2_1 = ((gI σ 9 0) - a1) →
  ((v2_1 ≤ 0 →
    post (-1) σ) ∧
  (¬ v2_1 ≤ 0 →
    ((0 ≤ a1 →
      ∃ n, wbX10_apartBy_25 post n a1 v2_1 0 0 σ) ∧
    (¬ 0 ≤ a1 →
      post (-1) σ)))) := hw
  refine go_aload_n C 0 rfl rfl dX10_apartBy_0 ?_
  refine go_get (v := .ref (G.2.2.1 9)) C (shX10 G) ltX10 lkX10_37 rfl dX10_apartBy_1 ?_
  refine go_get (v := .int (gI σ 9 0)) C (shX4 G) ltX4 lkX10_57 rfl dX10_apartBy_4 ?_
  refine go_iload_n C 1 rfl rfl dX10_apartBy_7 ?_
  refine go_isub C dX10_apartBy_8 ?_
  refine go_topi (fun v2_1 ev2_1 => ?_)
  replace hw := hw v2_1 ev2_1
  refine go_istore_n (lv2 := [(2, .int v2_1), (0, .ref (G.2.2.1 52)), (1, .int a1)]) C rfl (by rw [hnl]; decide) rfl dX10_apartBy_9 ?_
  refine go_iload_n C 0 rfl rfl dX10_apartBy_10 ?_
  refine go_if_le C 18 rfl dX10_apartBy_11 (fun hc => ?_) (fun hc => ?_)
  · replace hw := hw.1 hc
    refine go_iconst (v := (-1)) C rfl dX10_apartBy_18 ?_
    exact go_iret C hr ⟨_, rfl, hw⟩ dX10_apartBy_19
  · replace hw := hw.2 hc
    refine go_iload_n C 2 rfl rfl dX10_apartBy_14 ?_
    refine go_if_ge C 20 rfl dX10_apartBy_15 (fun hc => ?_) (fun hc => ?_)
    · replace hw := hw.1 hc
      refine go_iconst (v := 0) C rfl dX10_apartBy_20 ?_
      refine go_istore_n (lv2 := [(3, .int 0), (2, .int v2_1), (0, .ref (G.2.2.1 52)), (1, .int a1)]) C rfl (by rw [hnl]; decide) rfl dX10_apartBy_21 ?_
      refine go_iconst (v := 0) C rfl dX10_apartBy_22 ?_
      refine go_istore (lv2 := [(4, .int 0), (3, .int 0), (2, .int v2_1), (0, .ref (G.2.2.1 52)), (1, .int a1)]) C (by rw [hnl]; decide) rfl dX10_apartBy_23 ?_
      refine go_sub [3, 4, 2, 1, 0] rfl ?_
      obtain ⟨n_0, hw⟩ := hw
      exact (gbX10_apartBy_25 C hr hR hnl hd) n_0 _ _ _ _ _ hw
    · replace hw := hw.2 hc
      refine go_iconst (v := (-1)) C rfl dX10_apartBy_18 ?_
      exact go_iret C hr ⟨_, rfl, hw⟩ dX10_apartBy_19
-- CradleNames$Trails.leastLag()I
def wbX10_leastLag_6   (post : Int32 → St → Prop) : Nat → Int32 → Int32 → Int32 → St → Prop
  | 0, _, _, _, _ => False
  | n + 1, v1, v2, v3, σ =>
    ((20 < v3 →
      post v1 σ) ∧
    (¬ 20 < v3 →
      (((gI σ 9 0) ≤ v3 →
        post v1 σ) ∧
      (¬ (gI σ 9 0) ≤ v3 →
        wpX10_apartBy v3 σ (fun r_1 σ_2 =>
        ((v1 = (-1) →
          ∀ v3_3 : Int32, v3_3 = v3 + 1 →
          wbX10_leastLag_6 post n v3 r_1 v3_3 σ_2) ∧
        (¬ v1 = (-1) →
          ((v2 ≤ r_1 →
            ∀ v3_4 : Int32, v3_4 = v3 + 1 →
            wbX10_leastLag_6 post n v1 v2 v3_4 σ_2) ∧
          (¬ v2 ≤ r_1 →
            ∀ v3_5 : Int32, v3_5 = v3 + 1 →
            wbX10_leastLag_6 post n v3 r_1 v3_5 σ_2)))))))))
def wpX10_leastLag   (σ : St) (post : Int32 → St → Prop) : Prop :=
  ∃ n, wbX10_leastLag_6 post n (-1) 0 0 σ
set_option maxRecDepth 20000 in
set_option maxHeartbeats 4000000 in
theorem gbX10_leastLag_6 {X : XT} {G : GT} {l : Launch} {d : Nat}  {post : Int32 → St → Prop} (C : Cx X G cX10_leastLag RX10) (hr : Rt X G (some .int) (fun v τ => ∃ r : Int32, v = some (.int r) ∧ post r τ)) (hR : Rm X l d) (hnl : X.2.2.2.2.2.2.2.2.2.2.1 = 5)  (hd : 3 ≤ d)   
    : ∀ (n : Nat) (v1 : Int32) (v2 : Int32) (v3 : Int32) (σ : St), wbX10_leastLag_6   post n v1 v2 v3 σ → Go X G 6 [(0, .ref (G.2.2.1 52)), (1, .int v1), (2, .int v2), (3, .int v3)] [] σ := by
  intro n
  induction n with
  | zero => intro v1 v2 v3 σ hw; exact hw.elim
  | succ n ih =>
    intro v1 v2 v3 σ hw
    have hw : ((20 < v3 →
      post v1 σ) ∧
    (¬ 20 < v3 →
      (((gI σ 9 0) ≤ v3 →
        post v1 σ) ∧
      (¬ (gI σ 9 0) ≤ v3 →
        wpX10_apartBy v3 σ (fun r_1 σ_2 =>
        ((v1 = (-1) →
          ∀ v3_3 : Int32, v3_3 = v3 + 1 →
          wbX10_leastLag_6 post n v3 r_1 v3_3 σ_2) ∧
        (¬ v1 = (-1) →
          ((v2 ≤ r_1 →
            ∀ v3_4 : Int32, v3_4 = v3 + 1 →
            wbX10_leastLag_6 post n v1 v2 v3_4 σ_2) ∧
          (¬ v2 ≤ r_1 →
            ∀ v3_5 : Int32, v3_5 = v3 + 1 →
            wbX10_leastLag_6 post n v3 r_1 v3_5 σ_2))))))))) := hw
    refine go_iload_n C 3 rfl rfl dX10_leastLag_6 ?_
    refine go_bipush (v := 20) C rfl dX10_leastLag_7 ?_
    refine go_icmp_gt C 52 rfl dX10_leastLag_9 (fun hc => ?_) (fun hc => ?_)
    · replace hw := hw.1 hc
      refine go_iload_n C 1 rfl rfl dX10_leastLag_52 ?_
      exact go_iret C hr ⟨_, rfl, hw⟩ dX10_leastLag_53
    · replace hw := hw.2 hc
      refine go_iload_n C 3 rfl rfl dX10_leastLag_12 ?_
      refine go_aload_n C 0 rfl rfl dX10_leastLag_13 ?_
      refine go_get (v := .ref (G.2.2.1 9)) C (shX10 G) ltX10 lkX10_37 rfl dX10_leastLag_14 ?_
      refine go_get (v := .int (gI σ 9 0)) C (shX4 G) ltX4 lkX10_57 rfl dX10_leastLag_17 ?_
      refine go_icmp_ge C 52 rfl dX10_leastLag_20 (fun hc => ?_) (fun hc => ?_)
      · replace hw := hw.1 hc
        refine go_iload_n C 1 rfl rfl dX10_leastLag_52 ?_
        exact go_iret C hr ⟨_, rfl, hw⟩ dX10_leastLag_53
      · replace hw := hw.2 hc
        refine go_aload_n C 0 rfl rfl dX10_leastLag_23 ?_
        refine go_iload_n C 3 rfl rfl dX10_leastLag_24 ?_
        refine go_callV (as := [.int v3]) C hR (shX10 G) ltX10 cwX10_90 (Nat.le_trans (by decide) hd) (by decide) rfl rfl (by decide) dX10_leastLag_25 (spX10_apartBy (Nat.le_refl _) hw) (fun v_ τ_ hw => ?_)
        obtain ⟨r_1, rfl, hw⟩ := hw
        obtain ⟨σ_2, rfl⟩ : ∃ z, z = τ_ := ⟨_, rfl⟩
        refine go_istore (lv2 := [(4, .int r_1), (0, .ref (G.2.2.1 52)), (1, .int v1), (2, .int v2), (3, .int v3)]) C (by rw [hnl]; decide) rfl dX10_leastLag_28 ?_
        refine go_iload_n C 2 rfl rfl dX10_leastLag_30 ?_
        refine go_iconst (v := (-1)) C rfl dX10_leastLag_31 ?_
        refine go_icmp_eq C 41 rfl dX10_leastLag_32 (fun hc => ?_) (fun hc => ?_)
        · replace hw := hw.1 hc
          refine go_iload_n C 4 rfl rfl dX10_leastLag_41 ?_
          refine go_istore_n (lv2 := [(1, .int v3), (4, .int r_1), (0, .ref (G.2.2.1 52)), (2, .int v2), (3, .int v3)]) C rfl (by rw [hnl]; decide) rfl dX10_leastLag_42 ?_
          refine go_iload C 1 rfl dX10_leastLag_43 ?_
          refine go_istore_n (lv2 := [(2, .int r_1), (1, .int v3), (4, .int r_1), (0, .ref (G.2.2.1 52)), (3, .int v3)]) C rfl (by rw [hnl]; decide) rfl dX10_leastLag_45 ?_
          obtain ⟨v3_3, ev3_3⟩ : ∃ z : Int32, z = v3 + 1 := ⟨_, rfl⟩
          replace hw := hw v3_3 ev3_3
          refine go_iinc (v := v3_3) (lv2 := [(3, .int v3_3), (2, .int r_1), (1, .int v3), (4, .int r_1), (0, .ref (G.2.2.1 52))]) C 4 rfl (by rw [ev3_3]; rfl) (by rw [hnl]; decide) rfl dX10_leastLag_46 ?_
          refine go_goto C 6 rfl dX10_leastLag_49 ?_
          refine go_sub [4, 2, 1, 0] rfl ?_
          exact ih _ _ _ _ hw
        · replace hw := hw.2 hc
          refine go_iload C 0 rfl dX10_leastLag_35 ?_
          refine go_iload_n C 3 rfl rfl dX10_leastLag_37 ?_
          refine go_icmp_ge C 46 rfl dX10_leastLag_38 (fun hc => ?_) (fun hc => ?_)
          · replace hw := hw.1 hc
            obtain ⟨v3_4, ev3_4⟩ : ∃ z : Int32, z = v3 + 1 := ⟨_, rfl⟩
            replace hw := hw v3_4 ev3_4
            refine go_iinc (v := v3_4) (lv2 := [(3, .int v3_4), (4, .int r_1), (0, .ref (G.2.2.1 52)), (1, .int v1), (2, .int v2)]) C 4 rfl (by rw [ev3_4]; rfl) (by rw [hnl]; decide) rfl dX10_leastLag_46 ?_
            refine go_goto C 6 rfl dX10_leastLag_49 ?_
            refine go_sub [2, 3, 4, 0] rfl ?_
            exact ih _ _ _ _ hw
          · replace hw := hw.2 hc
            refine go_iload_n C 4 rfl rfl dX10_leastLag_41 ?_
            refine go_istore_n (lv2 := [(1, .int v3), (4, .int r_1), (0, .ref (G.2.2.1 52)), (2, .int v2), (3, .int v3)]) C rfl (by rw [hnl]; decide) rfl dX10_leastLag_42 ?_
            refine go_iload C 1 rfl dX10_leastLag_43 ?_
            refine go_istore_n (lv2 := [(2, .int r_1), (1, .int v3), (4, .int r_1), (0, .ref (G.2.2.1 52)), (3, .int v3)]) C rfl (by rw [hnl]; decide) rfl dX10_leastLag_45 ?_
            obtain ⟨v3_5, ev3_5⟩ : ∃ z : Int32, z = v3 + 1 := ⟨_, rfl⟩
            replace hw := hw v3_5 ev3_5
            refine go_iinc (v := v3_5) (lv2 := [(3, .int v3_5), (2, .int r_1), (1, .int v3), (4, .int r_1), (0, .ref (G.2.2.1 52))]) C 4 rfl (by rw [ev3_5]; rfl) (by rw [hnl]; decide) rfl dX10_leastLag_46 ?_
            refine go_goto C 6 rfl dX10_leastLag_49 ?_
            refine go_sub [4, 2, 1, 0] rfl ?_
            exact ih _ _ _ _ hw
set_option maxRecDepth 20000 in
set_option maxHeartbeats 4000000 in
theorem spX10_leastLag {l : Launch} {G : GT} {d : Nat}  (hd : 3 ≤ d)    {σ : St} {post : Int32 → St → Prop} (hw : wpX10_leastLag   σ post) : Sp l G d yX10_leastLag cX10_leastLag 5 (some .int) [.ref (G.2.2.1 52)] σ (fun v τ => ∃ r : Int32, v = some (.int r) ∧ post r τ) := by
  refine Sp.of (by decide) (by decide) fun X C hr hR hnl => ?_
  show Go X G 0 [(0, .ref (G.2.2.1 52))] [] σ
  have hw : ∃ n, wbX10_leastLag_6 post n (-1) 0 0 σ := hw
  refine go_iconst (v := (-1)) C rfl dX10_leastLag_0 ?_
  refine go_istore_n (lv2 := [(1, .int (-1)), (0, .ref (G.2.2.1 52))]) C rfl (by rw [hnl]; decide) rfl dX10_leastLag_1 ?_
  refine go_iconst (v := 0) C rfl dX10_leastLag_2 ?_
  refine go_istore_n (lv2 := [(2, .int 0), (1, .int (-1)), (0, .ref (G.2.2.1 52))]) C rfl (by rw [hnl]; decide) rfl dX10_leastLag_3 ?_
  refine go_iconst (v := 0) C rfl dX10_leastLag_4 ?_
  refine go_istore_n (lv2 := [(3, .int 0), (2, .int 0), (1, .int (-1)), (0, .ref (G.2.2.1 52))]) C rfl (by rw [hnl]; decide) rfl dX10_leastLag_5 ?_
  refine go_sub [3, 2, 1, 0] rfl ?_
  obtain ⟨n_0, hw⟩ := hw
  exact (gbX10_leastLag_6 C hr hR hnl hd) n_0 _ _ _ _ hw
-- CradleNames$Trails.risenOfEnding(II)I
def wbX10_risenOfEnding_5   (post : Int32 → St → Prop) : Nat → Int32 → Int32 → Int32 → Int32 → St → Prop
  | 0, _, _, _, _, _ => False
  | n + 1, v1, v2, v3, v4, σ =>
    (((gI σ 1 0) ≤ v4 →
      post v3 σ) ∧
    (¬ (gI σ 1 0) ≤ v4 →
      wpX5_sameEnding v4 v1 σ (fun r_1 σ_2 =>
      ((r_1 = 0 →
        ∀ v4_3 : Int32, v4_3 = v4 + 1 →
        wbX10_risenOfEnding_5 post n v1 v2 v3 v4_3 σ_2) ∧
      (¬ r_1 = 0 →
        wpX10_in v4 v2 σ_2 (fun r_4 σ_5 =>
        wpX10_in v4 (v2 - 1) σ_5 (fun r_6 σ_7 =>
        ((r_4 ≤ r_6 →
          ∀ v4_8 : Int32, v4_8 = v4 + 1 →
          wbX10_risenOfEnding_5 post n v1 v2 v3 v4_8 σ_7) ∧
        (¬ r_4 ≤ r_6 →
          ∀ v3_9 : Int32, v3_9 = v3 + 1 →
          ∀ v4_10 : Int32, v4_10 = v4 + 1 →
          wbX10_risenOfEnding_5 post n v1 v2 v3_9 v4_10 σ_7)))))))))
def wpX10_risenOfEnding  (a1 : Int32) (a2 : Int32) (σ : St) (post : Int32 → St → Prop) : Prop :=
  ∃ n, wbX10_risenOfEnding_5 post n a1 a2 0 0 σ
set_option maxRecDepth 20000 in
set_option maxHeartbeats 4000000 in
theorem gbX10_risenOfEnding_5 {X : XT} {G : GT} {l : Launch} {d : Nat}  {post : Int32 → St → Prop} (C : Cx X G cX10_risenOfEnding RX10) (hr : Rt X G (some .int) (fun v τ => ∃ r : Int32, v = some (.int r) ∧ post r τ)) (hR : Rm X l d) (hnl : X.2.2.2.2.2.2.2.2.2.2.1 = 5)  (hd : 3 ≤ d)   
    : ∀ (n : Nat) (v1 : Int32) (v2 : Int32) (v3 : Int32) (v4 : Int32) (σ : St), wbX10_risenOfEnding_5   post n v1 v2 v3 v4 σ → Go X G 5 [(0, .ref (G.2.2.1 52)), (1, .int v1), (2, .int v2), (3, .int v3), (4, .int v4)] [] σ := by
  intro n
  induction n with
  | zero => intro v1 v2 v3 v4 σ hw; exact hw.elim
  | succ n ih =>
    intro v1 v2 v3 v4 σ hw
    have hw : (((gI σ 1 0) ≤ v4 →
      post v3 σ) ∧
    (¬ (gI σ 1 0) ≤ v4 →
      wpX5_sameEnding v4 v1 σ (fun r_1 σ_2 =>
      ((r_1 = 0 →
        ∀ v4_3 : Int32, v4_3 = v4 + 1 →
        wbX10_risenOfEnding_5 post n v1 v2 v3 v4_3 σ_2) ∧
      (¬ r_1 = 0 →
        wpX10_in v4 v2 σ_2 (fun r_4 σ_5 =>
        wpX10_in v4 (v2 - 1) σ_5 (fun r_6 σ_7 =>
        ((r_4 ≤ r_6 →
          ∀ v4_8 : Int32, v4_8 = v4 + 1 →
          wbX10_risenOfEnding_5 post n v1 v2 v3 v4_8 σ_7) ∧
        (¬ r_4 ≤ r_6 →
          ∀ v3_9 : Int32, v3_9 = v3 + 1 →
          ∀ v4_10 : Int32, v4_10 = v4 + 1 →
          wbX10_risenOfEnding_5 post n v1 v2 v3_9 v4_10 σ_7))))))))) := hw
    refine go_iload C 4 rfl dX10_risenOfEnding_5 ?_
    refine go_aload_n C 0 rfl rfl dX10_risenOfEnding_7 ?_
    refine go_get (v := .ref (G.2.2.1 1)) C (shX10 G) ltX10 lkX10_33 rfl dX10_risenOfEnding_8 ?_
    refine go_get (v := .int (gI σ 1 0)) C (shX5 G) ltX5 lkX10_64 rfl dX10_risenOfEnding_11 ?_
    refine go_icmp_ge C 58 rfl dX10_risenOfEnding_14 (fun hc => ?_) (fun hc => ?_)
    · replace hw := hw.1 hc
      refine go_iload_n C 3 rfl rfl dX10_risenOfEnding_58 ?_
      exact go_iret C hr ⟨_, rfl, hw⟩ dX10_risenOfEnding_59
    · replace hw := hw.2 hc
      refine go_aload_n C 0 rfl rfl dX10_risenOfEnding_17 ?_
      refine go_get (v := .ref (G.2.2.1 1)) C (shX10 G) ltX10 lkX10_33 rfl dX10_risenOfEnding_18 ?_
      refine go_iload C 4 rfl dX10_risenOfEnding_21 ?_
      refine go_iload_n C 1 rfl rfl dX10_risenOfEnding_23 ?_
      refine go_callV (as := [.int v4, .int v1]) C hR (shX5 G) ltX5 cwX10_93 (Nat.le_trans (by decide) hd) (by decide) rfl rfl (by decide) dX10_risenOfEnding_24 (spX5_sameEnding (Nat.le_refl _) hw) (fun v_ τ_ hw => ?_)
      obtain ⟨r_1, rfl, hw⟩ := hw
      obtain ⟨σ_2, rfl⟩ : ∃ z, z = τ_ := ⟨_, rfl⟩
      refine go_if_eq C 52 rfl dX10_risenOfEnding_27 (fun hc => ?_) (fun hc => ?_)
      · replace hw := hw.1 hc
        obtain ⟨v4_3, ev4_3⟩ : ∃ z : Int32, z = v4 + 1 := ⟨_, rfl⟩
        replace hw := hw v4_3 ev4_3
        refine go_iinc (v := v4_3) (lv2 := [(4, .int v4_3), (0, .ref (G.2.2.1 52)), (1, .int v1), (2, .int v2), (3, .int v3)]) C 4 rfl (by rw [ev4_3]; rfl) (by rw [hnl]; decide) rfl dX10_risenOfEnding_52 ?_
        refine go_goto C 5 rfl dX10_risenOfEnding_55 ?_
        refine go_sub [1, 2, 3, 4, 0] rfl ?_
        exact ih _ _ _ _ _ hw
      · replace hw := hw.2 hc
        refine go_aload_n C 0 rfl rfl dX10_risenOfEnding_30 ?_
        refine go_iload C 4 rfl dX10_risenOfEnding_31 ?_
        refine go_iload_n C 2 rfl rfl dX10_risenOfEnding_33 ?_
        refine go_callV (as := [.int v4, .int v2]) C hR (shX10 G) ltX10 cwX10_60 (Nat.le_trans (by decide) hd) (by decide) rfl rfl (by decide) dX10_risenOfEnding_34 (spX10_in (Nat.le_refl _) hw) (fun v_ τ_ hw => ?_)
        obtain ⟨r_4, rfl, hw⟩ := hw
        obtain ⟨σ_5, rfl⟩ : ∃ z, z = τ_ := ⟨_, rfl⟩
        refine go_aload_n C 0 rfl rfl dX10_risenOfEnding_37 ?_
        refine go_iload C 4 rfl dX10_risenOfEnding_38 ?_
        refine go_iload_n C 2 rfl rfl dX10_risenOfEnding_40 ?_
        refine go_iconst (v := 1) C rfl dX10_risenOfEnding_41 ?_
        refine go_isub C dX10_risenOfEnding_42 ?_
        refine go_callV (as := [.int v4, .int (v2 - 1)]) C hR (shX10 G) ltX10 cwX10_60 (Nat.le_trans (by decide) hd) (by decide) rfl rfl (by decide) dX10_risenOfEnding_43 (spX10_in (Nat.le_refl _) hw) (fun v_ τ_ hw => ?_)
        obtain ⟨r_6, rfl, hw⟩ := hw
        obtain ⟨σ_7, rfl⟩ : ∃ z, z = τ_ := ⟨_, rfl⟩
        refine go_icmp_le C 52 rfl dX10_risenOfEnding_46 (fun hc => ?_) (fun hc => ?_)
        · replace hw := hw.1 hc
          obtain ⟨v4_8, ev4_8⟩ : ∃ z : Int32, z = v4 + 1 := ⟨_, rfl⟩
          replace hw := hw v4_8 ev4_8
          refine go_iinc (v := v4_8) (lv2 := [(4, .int v4_8), (0, .ref (G.2.2.1 52)), (1, .int v1), (2, .int v2), (3, .int v3)]) C 4 rfl (by rw [ev4_8]; rfl) (by rw [hnl]; decide) rfl dX10_risenOfEnding_52 ?_
          refine go_goto C 5 rfl dX10_risenOfEnding_55 ?_
          refine go_sub [1, 2, 3, 4, 0] rfl ?_
          exact ih _ _ _ _ _ hw
        · replace hw := hw.2 hc
          obtain ⟨v3_9, ev3_9⟩ : ∃ z : Int32, z = v3 + 1 := ⟨_, rfl⟩
          replace hw := hw v3_9 ev3_9
          refine go_iinc (v := v3_9) (lv2 := [(3, .int v3_9), (0, .ref (G.2.2.1 52)), (1, .int v1), (2, .int v2), (4, .int v4)]) C 3 rfl (by rw [ev3_9]; rfl) (by rw [hnl]; decide) rfl dX10_risenOfEnding_49 ?_
          obtain ⟨v4_10, ev4_10⟩ : ∃ z : Int32, z = v4 + 1 := ⟨_, rfl⟩
          replace hw := hw v4_10 ev4_10
          refine go_iinc (v := v4_10) (lv2 := [(4, .int v4_10), (3, .int v3_9), (0, .ref (G.2.2.1 52)), (1, .int v1), (2, .int v2)]) C 4 rfl (by rw [ev4_10]; rfl) (by rw [hnl]; decide) rfl dX10_risenOfEnding_52 ?_
          refine go_goto C 5 rfl dX10_risenOfEnding_55 ?_
          refine go_sub [2, 3, 4, 1, 0] rfl ?_
          exact ih _ _ _ _ _ hw
set_option maxRecDepth 20000 in
set_option maxHeartbeats 4000000 in
theorem spX10_risenOfEnding {l : Launch} {G : GT} {d : Nat}  (hd : 3 ≤ d)   {a1 : Int32} {a2 : Int32} {σ : St} {post : Int32 → St → Prop} (hw : wpX10_risenOfEnding  a1 a2 σ post) : Sp l G d yX10_risenOfEnding cX10_risenOfEnding 5 (some .int) [.ref (G.2.2.1 52), .int a1, .int a2] σ (fun v τ => ∃ r : Int32, v = some (.int r) ∧ post r τ) := by
  refine Sp.of (by decide) (by decide) fun X C hr hR hnl => ?_
  show Go X G 0 [(0, .ref (G.2.2.1 52)), (1, .int a1), (2, .int a2)] [] σ
  have hw : ∃ n, wbX10_risenOfEnding_5 post n a1 a2 0 0 σ := hw
  refine go_iconst (v := 0) C rfl dX10_risenOfEnding_0 ?_
  refine go_istore_n (lv2 := [(3, .int 0), (0, .ref (G.2.2.1 52)), (1, .int a1), (2, .int a2)]) C rfl (by rw [hnl]; decide) rfl dX10_risenOfEnding_1 ?_
  refine go_iconst (v := 0) C rfl dX10_risenOfEnding_2 ?_
  refine go_istore (lv2 := [(4, .int 0), (3, .int 0), (0, .ref (G.2.2.1 52)), (1, .int a1), (2, .int a2)]) C (by rw [hnl]; decide) rfl dX10_risenOfEnding_3 ?_
  refine go_sub [2, 3, 4, 1, 0] rfl ?_
  obtain ⟨n_0, hw⟩ := hw
  exact (gbX10_risenOfEnding_5 C hr hR hnl hd) n_0 _ _ _ _ _ hw
-- CradleNames$Trails.girlsMore(II)I
def wpX10_girlsMore  (a1 : Int32) (a2 : Int32) (σ : St) (post : Int32 → St → Prop) : Prop :=
  wpX0_between 0 5 a1 a2 a2 σ (fun r_1 σ_2 =>
  wpX10_in a1 a2 σ_2 (fun r_3 σ_4 =>
  post ((2 * r_1) - r_3) σ_4))
set_option maxRecDepth 20000 in
set_option maxHeartbeats 4000000 in
theorem spX10_girlsMore {l : Launch} {G : GT} {d : Nat}  (hd : 3 ≤ d)   {a1 : Int32} {a2 : Int32} {σ : St} {post : Int32 → St → Prop} (hw : wpX10_girlsMore  a1 a2 σ post) : Sp l G d yX10_girlsMore cX10_girlsMore 3 (some .int) [.ref (G.2.2.1 52), .int a1, .int a2] σ (fun v τ => ∃ r : Int32, v = some (.int r) ∧ post r τ) := by
  refine Sp.of (by decide) (by decide) fun X C hr hR hnl => ?_
  show Go X G 0 [(0, .ref (G.2.2.1 52)), (1, .int a1), (2, .int a2)] [] σ
  have hw : wpX0_between 0 5 a1 a2 a2 σ (fun r_1 σ_2 =>
  wpX10_in a1 a2 σ_2 (fun r_3 σ_4 =>
  post ((2 * r_1) - r_3) σ_4)) := hw
  refine go_iconst (v := 2) C rfl dX10_girlsMore_0 ?_
  refine go_aload_n C 0 rfl rfl dX10_girlsMore_1 ?_
  refine go_get (v := .ref (G.2.2.1 (21 + 4 * 0))) C (shX10 G) ltX10 lkX10_41 rfl dX10_girlsMore_2 ?_
  refine go_iconst (v := 5) C rfl dX10_girlsMore_5 ?_
  refine go_iload_n C 1 rfl rfl dX10_girlsMore_6 ?_
  refine go_iload_n C 2 rfl rfl dX10_girlsMore_7 ?_
  refine go_iload_n C 2 rfl rfl dX10_girlsMore_8 ?_
  refine go_callV (as := [.int 5, .int a1, .int a2, .int a2]) C hR (shX0 G (show 0 < 2 by decide)) (ltX0 (show 0 < 2 by decide)) cwX10_45 (Nat.le_trans (by decide) hd) (by decide) rfl rfl (by decide) dX10_girlsMore_9 (spX0_between (Nat.le_refl _) (show 0 < 2 by decide) hw) (fun v_ τ_ hw => ?_)
  obtain ⟨r_1, rfl, hw⟩ := hw
  obtain ⟨σ_2, rfl⟩ : ∃ z, z = τ_ := ⟨_, rfl⟩
  refine go_imul C dX10_girlsMore_12 ?_
  refine go_aload_n C 0 rfl rfl dX10_girlsMore_13 ?_
  refine go_iload_n C 1 rfl rfl dX10_girlsMore_14 ?_
  refine go_iload_n C 2 rfl rfl dX10_girlsMore_15 ?_
  refine go_callV (as := [.int a1, .int a2]) C hR (shX10 G) ltX10 cwX10_60 (Nat.le_trans (by decide) hd) (by decide) rfl rfl (by decide) dX10_girlsMore_16 (spX10_in (Nat.le_refl _) hw) (fun v_ τ_ hw => ?_)
  obtain ⟨r_3, rfl, hw⟩ := hw
  obtain ⟨σ_4, rfl⟩ : ∃ z, z = τ_ := ⟨_, rfl⟩
  refine go_isub C dX10_girlsMore_19 ?_
  exact go_iret C hr ⟨_, rfl, hw⟩ dX10_girlsMore_20
-- CradleNames$Trails.crossing(I)I
def wbX10_crossing_48  (K5 : Int32 → Int32 → Int32 → St → Prop) (post : Int32 → St → Prop) (v1 : Int32) (v2 : Int32) (v3 : Int32) (v4 : Int32) (σ : St) : Prop :=
  ((¬ v2 = 0 →
    ∀ v3_1 : Int32, v3_1 = v3 + 1 →
    K5 v1 1 v3_1 σ) ∧
  (v2 = 0 →
    ((0 ≤ v4 →
      ∀ v3_2 : Int32, v3_2 = v3 + 1 →
      K5 v1 0 v3_2 σ) ∧
    (¬ 0 ≤ v4 →
      ∀ v3_3 : Int32, v3_3 = v3 + 1 →
      K5 v1 1 v3_3 σ))))
def wbX10_crossing_5   (post : Int32 → St → Prop) : Nat → Int32 → Int32 → Int32 → St → Prop
  | 0, _, _, _, _ => False
  | n + 1, v1, v2, v3, σ =>
    (((gI σ 9 0) ≤ v3 →
      post (-1) σ) ∧
    (¬ (gI σ 9 0) ≤ v3 →
      wpX10_girlsMore v1 v3 σ (fun r_1 σ_2 =>
      ((v3 < 0 →
        wbX10_crossing_48 (wbX10_crossing_5 post n) post v1 v2 v3 r_1 σ_2) ∧
      (¬ v3 < 0 →
        ((v2 = 0 →
          wbX10_crossing_48 (wbX10_crossing_5 post n) post v1 v2 v3 r_1 σ_2) ∧
        (¬ v2 = 0 →
          ((r_1 < 0 →
            wbX10_crossing_48 (wbX10_crossing_5 post n) post v1 v2 v3 r_1 σ_2) ∧
          (¬ r_1 < 0 →
            wpX10_in v1 v3 σ_2 (fun r_3 σ_4 =>
            ((r_3 ≤ 0 →
              wbX10_crossing_48 (wbX10_crossing_5 post n) post v1 v2 v3 r_1 σ_4) ∧
            (¬ r_3 ≤ 0 →
              post v3 σ_4))))))))))))
def wpX10_crossing  (a1 : Int32) (σ : St) (post : Int32 → St → Prop) : Prop :=
  ∃ n, wbX10_crossing_5 post n a1 0 (-40) σ
set_option maxRecDepth 20000 in
set_option maxHeartbeats 4000000 in
theorem gbX10_crossing_48 {X : XT} {G : GT} {l : Launch} {d : Nat}  {post : Int32 → St → Prop} (C : Cx X G cX10_crossing RX10) (hr : Rt X G (some .int) (fun v τ => ∃ r : Int32, v = some (.int r) ∧ post r τ)) (hR : Rm X l d) (hnl : X.2.2.2.2.2.2.2.2.2.2.1 = 5)  (hd : 4 ≤ d)  {K5 : Int32 → Int32 → Int32 → St → Prop} (hK5 : ∀ (v1 : Int32) (v2 : Int32) (v3 : Int32) (σ : St), K5 v1 v2 v3 σ → Go X G 5 [(0, .ref (G.2.2.1 52)), (1, .int v1), (2, .int v2), (3, .int v3)] [] σ)
    : ∀ (v1 : Int32) (v2 : Int32) (v3 : Int32) (v4 : Int32) (σ : St), wbX10_crossing_48  K5 post v1 v2 v3 v4 σ → Go X G 48 [(0, .ref (G.2.2.1 52)), (1, .int v1), (2, .int v2), (3, .int v3), (4, .int v4)] [] σ := by
  intro v1 v2 v3 v4 σ hw
  have hw : ((¬ v2 = 0 →
    ∀ v3_1 : Int32, v3_1 = v3 + 1 →
    K5 v1 1 v3_1 σ) ∧
  (v2 = 0 →
    ((0 ≤ v4 →
      ∀ v3_2 : Int32, v3_2 = v3 + 1 →
      K5 v1 0 v3_2 σ) ∧
    (¬ 0 ≤ v4 →
      ∀ v3_3 : Int32, v3_3 = v3 + 1 →
      K5 v1 1 v3_3 σ)))) := hw
  refine go_iload_n C 2 rfl rfl dX10_crossing_48 ?_
  refine go_if_ne C 57 rfl dX10_crossing_49 (fun hc => ?_) (fun hc => ?_)
  · replace hw := hw.1 hc
    refine go_iconst (v := 1) C rfl dX10_crossing_57 ?_
    refine go_goto C 62 rfl dX10_crossing_58 ?_
    refine go_istore_n (lv2 := [(2, .int 1), (0, .ref (G.2.2.1 52)), (1, .int v1), (3, .int v3), (4, .int v4)]) C rfl (by rw [hnl]; decide) rfl dX10_crossing_62 ?_
    obtain ⟨v3_1, ev3_1⟩ : ∃ z : Int32, z = v3 + 1 := ⟨_, rfl⟩
    replace hw := hw v3_1 ev3_1
    refine go_iinc (v := v3_1) (lv2 := [(3, .int v3_1), (2, .int 1), (0, .ref (G.2.2.1 52)), (1, .int v1), (4, .int v4)]) C 3 rfl (by rw [ev3_1]; rfl) (by rw [hnl]; decide) rfl dX10_crossing_63 ?_
    refine go_goto C 5 rfl dX10_crossing_66 ?_
    refine go_sub [2, 3, 1, 0] rfl ?_
    exact hK5 _ _ _ _ hw
  · replace hw := hw.2 hc
    refine go_iload C 4 rfl dX10_crossing_52 ?_
    refine go_if_ge C 61 rfl dX10_crossing_54 (fun hc => ?_) (fun hc => ?_)
    · replace hw := hw.1 hc
      refine go_iconst (v := 0) C rfl dX10_crossing_61 ?_
      refine go_istore_n (lv2 := [(2, .int 0), (0, .ref (G.2.2.1 52)), (1, .int v1), (3, .int v3), (4, .int v4)]) C rfl (by rw [hnl]; decide) rfl dX10_crossing_62 ?_
      obtain ⟨v3_2, ev3_2⟩ : ∃ z : Int32, z = v3 + 1 := ⟨_, rfl⟩
      replace hw := hw v3_2 ev3_2
      refine go_iinc (v := v3_2) (lv2 := [(3, .int v3_2), (2, .int 0), (0, .ref (G.2.2.1 52)), (1, .int v1), (4, .int v4)]) C 3 rfl (by rw [ev3_2]; rfl) (by rw [hnl]; decide) rfl dX10_crossing_63 ?_
      refine go_goto C 5 rfl dX10_crossing_66 ?_
      refine go_sub [2, 3, 1, 0] rfl ?_
      exact hK5 _ _ _ _ hw
    · replace hw := hw.2 hc
      refine go_iconst (v := 1) C rfl dX10_crossing_57 ?_
      refine go_goto C 62 rfl dX10_crossing_58 ?_
      refine go_istore_n (lv2 := [(2, .int 1), (0, .ref (G.2.2.1 52)), (1, .int v1), (3, .int v3), (4, .int v4)]) C rfl (by rw [hnl]; decide) rfl dX10_crossing_62 ?_
      obtain ⟨v3_3, ev3_3⟩ : ∃ z : Int32, z = v3 + 1 := ⟨_, rfl⟩
      replace hw := hw v3_3 ev3_3
      refine go_iinc (v := v3_3) (lv2 := [(3, .int v3_3), (2, .int 1), (0, .ref (G.2.2.1 52)), (1, .int v1), (4, .int v4)]) C 3 rfl (by rw [ev3_3]; rfl) (by rw [hnl]; decide) rfl dX10_crossing_63 ?_
      refine go_goto C 5 rfl dX10_crossing_66 ?_
      refine go_sub [2, 3, 1, 0] rfl ?_
      exact hK5 _ _ _ _ hw
set_option maxRecDepth 20000 in
set_option maxHeartbeats 4000000 in
theorem gbX10_crossing_5 {X : XT} {G : GT} {l : Launch} {d : Nat}  {post : Int32 → St → Prop} (C : Cx X G cX10_crossing RX10) (hr : Rt X G (some .int) (fun v τ => ∃ r : Int32, v = some (.int r) ∧ post r τ)) (hR : Rm X l d) (hnl : X.2.2.2.2.2.2.2.2.2.2.1 = 5)  (hd : 4 ≤ d)   
    : ∀ (n : Nat) (v1 : Int32) (v2 : Int32) (v3 : Int32) (σ : St), wbX10_crossing_5   post n v1 v2 v3 σ → Go X G 5 [(0, .ref (G.2.2.1 52)), (1, .int v1), (2, .int v2), (3, .int v3)] [] σ := by
  intro n
  induction n with
  | zero => intro v1 v2 v3 σ hw; exact hw.elim
  | succ n ih =>
    intro v1 v2 v3 σ hw
    have hw : (((gI σ 9 0) ≤ v3 →
      post (-1) σ) ∧
    (¬ (gI σ 9 0) ≤ v3 →
      wpX10_girlsMore v1 v3 σ (fun r_1 σ_2 =>
      ((v3 < 0 →
        wbX10_crossing_48 (wbX10_crossing_5 post n) post v1 v2 v3 r_1 σ_2) ∧
      (¬ v3 < 0 →
        ((v2 = 0 →
          wbX10_crossing_48 (wbX10_crossing_5 post n) post v1 v2 v3 r_1 σ_2) ∧
        (¬ v2 = 0 →
          ((r_1 < 0 →
            wbX10_crossing_48 (wbX10_crossing_5 post n) post v1 v2 v3 r_1 σ_2) ∧
          (¬ r_1 < 0 →
            wpX10_in v1 v3 σ_2 (fun r_3 σ_4 =>
            ((r_3 ≤ 0 →
              wbX10_crossing_48 (wbX10_crossing_5 post n) post v1 v2 v3 r_1 σ_4) ∧
            (¬ r_3 ≤ 0 →
              post v3 σ_4)))))))))))) := hw
    refine go_iload_n C 3 rfl rfl dX10_crossing_5 ?_
    refine go_aload_n C 0 rfl rfl dX10_crossing_6 ?_
    refine go_get (v := .ref (G.2.2.1 9)) C (shX10 G) ltX10 lkX10_37 rfl dX10_crossing_7 ?_
    refine go_get (v := .int (gI σ 9 0)) C (shX4 G) ltX4 lkX10_57 rfl dX10_crossing_10 ?_
    refine go_icmp_ge C 69 rfl dX10_crossing_13 (fun hc => ?_) (fun hc => ?_)
    · replace hw := hw.1 hc
      refine go_iconst (v := (-1)) C rfl dX10_crossing_69 ?_
      exact go_iret C hr ⟨_, rfl, hw⟩ dX10_crossing_70
    · replace hw := hw.2 hc
      refine go_aload_n C 0 rfl rfl dX10_crossing_16 ?_
      refine go_iload_n C 1 rfl rfl dX10_crossing_17 ?_
      refine go_iload_n C 3 rfl rfl dX10_crossing_18 ?_
      refine go_callV (as := [.int v1, .int v3]) C hR (shX10 G) ltX10 cwX10_97 (Nat.le_trans (by decide) hd) (by decide) rfl rfl (by decide) dX10_crossing_19 (spX10_girlsMore (Nat.le_refl _) hw) (fun v_ τ_ hw => ?_)
      obtain ⟨r_1, rfl, hw⟩ := hw
      obtain ⟨σ_2, rfl⟩ : ∃ z, z = τ_ := ⟨_, rfl⟩
      refine go_istore (lv2 := [(4, .int r_1), (0, .ref (G.2.2.1 52)), (1, .int v1), (2, .int v2), (3, .int v3)]) C (by rw [hnl]; decide) rfl dX10_crossing_22 ?_
      refine go_iload_n C 4 rfl rfl dX10_crossing_24 ?_
      refine go_if_lt C 48 rfl dX10_crossing_25 (fun hc => ?_) (fun hc => ?_)
      · replace hw := hw.1 hc
        refine go_sub [1, 2, 3, 4, 0] rfl ?_
        exact (gbX10_crossing_48 C hr hR hnl hd ih) _ _ _ _ _ hw
      · replace hw := hw.2 hc
        refine go_iload_n C 3 rfl rfl dX10_crossing_28 ?_
        refine go_if_eq C 48 rfl dX10_crossing_29 (fun hc => ?_) (fun hc => ?_)
        · replace hw := hw.1 hc
          refine go_sub [1, 2, 3, 4, 0] rfl ?_
          exact (gbX10_crossing_48 C hr hR hnl hd ih) _ _ _ _ _ hw
        · replace hw := hw.2 hc
          refine go_iload C 0 rfl dX10_crossing_32 ?_
          refine go_if_lt C 48 rfl dX10_crossing_34 (fun hc => ?_) (fun hc => ?_)
          · replace hw := hw.1 hc
            refine go_sub [1, 2, 3, 4, 0] rfl ?_
            exact (gbX10_crossing_48 C hr hR hnl hd ih) _ _ _ _ _ hw
          · replace hw := hw.2 hc
            refine go_aload_n C 1 rfl rfl dX10_crossing_37 ?_
            refine go_iload_n C 2 rfl rfl dX10_crossing_38 ?_
            refine go_iload_n C 4 rfl rfl dX10_crossing_39 ?_
            refine go_callV (as := [.int v1, .int v3]) C hR (shX10 G) ltX10 cwX10_60 (Nat.le_trans (by decide) hd) (by decide) rfl rfl (by decide) dX10_crossing_40 (spX10_in (Nat.le_refl _) hw) (fun v_ τ_ hw => ?_)
            obtain ⟨r_3, rfl, hw⟩ := hw
            obtain ⟨σ_4, rfl⟩ : ∃ z, z = τ_ := ⟨_, rfl⟩
            refine go_if_le C 48 rfl dX10_crossing_43 (fun hc => ?_) (fun hc => ?_)
            · replace hw := hw.1 hc
              refine go_sub [1, 2, 3, 4, 0] rfl ?_
              exact (gbX10_crossing_48 C hr hR hnl hd ih) _ _ _ _ _ hw
            · replace hw := hw.2 hc
              refine go_iload_n C 4 rfl rfl dX10_crossing_46 ?_
              exact go_iret C hr ⟨_, rfl, hw⟩ dX10_crossing_47
set_option maxRecDepth 20000 in
set_option maxHeartbeats 4000000 in
theorem spX10_crossing {l : Launch} {G : GT} {d : Nat}  (hd : 4 ≤ d)   {a1 : Int32} {σ : St} {post : Int32 → St → Prop} (hw : wpX10_crossing  a1 σ post) : Sp l G d yX10_crossing cX10_crossing 5 (some .int) [.ref (G.2.2.1 52), .int a1] σ (fun v τ => ∃ r : Int32, v = some (.int r) ∧ post r τ) := by
  refine Sp.of (by decide) (by decide) fun X C hr hR hnl => ?_
  show Go X G 0 [(0, .ref (G.2.2.1 52)), (1, .int a1)] [] σ
  have hw : ∃ n, wbX10_crossing_5 post n a1 0 (-40) σ := hw
  refine go_iconst (v := 0) C rfl dX10_crossing_0 ?_
  refine go_istore_n (lv2 := [(2, .int 0), (0, .ref (G.2.2.1 52)), (1, .int a1)]) C rfl (by rw [hnl]; decide) rfl dX10_crossing_1 ?_
  refine go_bipush (v := (-40)) C rfl dX10_crossing_2 ?_
  refine go_istore_n (lv2 := [(3, .int (-40)), (2, .int 0), (0, .ref (G.2.2.1 52)), (1, .int a1)]) C rfl (by rw [hnl]; decide) rfl dX10_crossing_4 ?_
  refine go_sub [2, 3, 1, 0] rfl ?_
  obtain ⟨n_0, hw⟩ := hw
  exact (gbX10_crossing_5 C hr hR hnl hd) n_0 _ _ _ _ hw
-- CradleNames$Trails.boysAgain(II)Z
def wbX10_boysAgain_4   (post : Int32 → St → Prop) : Nat → Int32 → Int32 → St → Prop
  | 0, _, _, _ => False
  | n + 1, v1, v3, σ =>
    (((gI σ 9 0) ≤ v3 →
      post 0 σ) ∧
    (¬ (gI σ 9 0) ≤ v3 →
      wpX10_girlsMore v1 v3 σ (fun r_1 σ_2 =>
      ((0 ≤ r_1 →
        ∀ v3_3 : Int32, v3_3 = v3 + 1 →
        wbX10_boysAgain_4 post n v1 v3_3 σ_2) ∧
      (¬ 0 ≤ r_1 →
        post 1 σ_2)))))
def wpX10_boysAgain  (a1 : Int32) (a2 : Int32) (σ : St) (post : Int32 → St → Prop) : Prop :=
  ∀ v3_1 : Int32, v3_1 = (a2 + 1) →
  ∃ n, wbX10_boysAgain_4 post n a1 v3_1 σ
set_option maxRecDepth 20000 in
set_option maxHeartbeats 4000000 in
theorem gbX10_boysAgain_4 {X : XT} {G : GT} {l : Launch} {d : Nat}  {post : Int32 → St → Prop} (C : Cx X G cX10_boysAgain RX10) (hr : Rt X G (some .boolean) (fun v τ => ∃ r : Int32, v = some (.int r) ∧ post r τ)) (hR : Rm X l d) (hnl : X.2.2.2.2.2.2.2.2.2.2.1 = 4)  (hd : 4 ≤ d)   
    : ∀ (n : Nat) (v1 : Int32) (v3 : Int32) (σ : St), wbX10_boysAgain_4   post n v1 v3 σ → Go X G 4 [(0, .ref (G.2.2.1 52)), (1, .int v1), (3, .int v3)] [] σ := by
  intro n
  induction n with
  | zero => intro v1 v3 σ hw; exact hw.elim
  | succ n ih =>
    intro v1 v3 σ hw
    have hw : (((gI σ 9 0) ≤ v3 →
      post 0 σ) ∧
    (¬ (gI σ 9 0) ≤ v3 →
      wpX10_girlsMore v1 v3 σ (fun r_1 σ_2 =>
      ((0 ≤ r_1 →
        ∀ v3_3 : Int32, v3_3 = v3 + 1 →
        wbX10_boysAgain_4 post n v1 v3_3 σ_2) ∧
      (¬ 0 ≤ r_1 →
        post 1 σ_2))))) := hw
    refine go_iload_n C 2 rfl rfl dX10_boysAgain_4 ?_
    refine go_aload_n C 0 rfl rfl dX10_boysAgain_5 ?_
    refine go_get (v := .ref (G.2.2.1 9)) C (shX10 G) ltX10 lkX10_37 rfl dX10_boysAgain_6 ?_
    refine go_get (v := .int (gI σ 9 0)) C (shX4 G) ltX4 lkX10_57 rfl dX10_boysAgain_9 ?_
    refine go_icmp_ge C 32 rfl dX10_boysAgain_12 (fun hc => ?_) (fun hc => ?_)
    · replace hw := hw.1 hc
      refine go_iconst (v := 0) C rfl dX10_boysAgain_32 ?_
      exact go_zret C hr rfl ⟨_, rfl, hw⟩ dX10_boysAgain_33
    · replace hw := hw.2 hc
      refine go_aload_n C 0 rfl rfl dX10_boysAgain_15 ?_
      refine go_iload_n C 1 rfl rfl dX10_boysAgain_16 ?_
      refine go_iload_n C 2 rfl rfl dX10_boysAgain_17 ?_
      refine go_callV (as := [.int v1, .int v3]) C hR (shX10 G) ltX10 cwX10_97 (Nat.le_trans (by decide) hd) (by decide) rfl rfl (by decide) dX10_boysAgain_18 (spX10_girlsMore (Nat.le_refl _) hw) (fun v_ τ_ hw => ?_)
      obtain ⟨r_1, rfl, hw⟩ := hw
      obtain ⟨σ_2, rfl⟩ : ∃ z, z = τ_ := ⟨_, rfl⟩
      refine go_if_ge C 26 rfl dX10_boysAgain_21 (fun hc => ?_) (fun hc => ?_)
      · replace hw := hw.1 hc
        obtain ⟨v3_3, ev3_3⟩ : ∃ z : Int32, z = v3 + 1 := ⟨_, rfl⟩
        replace hw := hw v3_3 ev3_3
        refine go_iinc (v := v3_3) (lv2 := [(3, .int v3_3), (0, .ref (G.2.2.1 52)), (1, .int v1)]) C 2 rfl (by rw [ev3_3]; rfl) (by rw [hnl]; decide) rfl dX10_boysAgain_26 ?_
        refine go_goto C 4 rfl dX10_boysAgain_29 ?_
        refine go_sub [1, 2, 0] rfl ?_
        exact ih _ _ _ hw
      · replace hw := hw.2 hc
        refine go_iconst (v := 1) C rfl dX10_boysAgain_24 ?_
        exact go_zret C hr rfl ⟨_, rfl, hw⟩ dX10_boysAgain_25
set_option maxRecDepth 20000 in
set_option maxHeartbeats 4000000 in
theorem spX10_boysAgain {l : Launch} {G : GT} {d : Nat}  (hd : 4 ≤ d)   {a1 : Int32} {a2 : Int32} {σ : St} {post : Int32 → St → Prop} (hw : wpX10_boysAgain  a1 a2 σ post) : Sp l G d yX10_boysAgain cX10_boysAgain 4 (some .boolean) [.ref (G.2.2.1 52), .int a1, .int a2] σ (fun v τ => ∃ r : Int32, v = some (.int r) ∧ post r τ) := by
  refine Sp.of (by decide) (by decide) fun X C hr hR hnl => ?_
  show Go X G 0 [(0, .ref (G.2.2.1 52)), (1, .int a1), (2, .int a2)] [] σ
  have hw : ∀ v3_1 : Int32, v3_1 = (a2 + 1) →
  ∃ n, wbX10_boysAgain_4 post n a1 v3_1 σ := hw
  refine go_iload_n C 2 rfl rfl dX10_boysAgain_0 ?_
  refine go_iconst (v := 1) C rfl dX10_boysAgain_1 ?_
  refine go_iadd C dX10_boysAgain_2 ?_
  refine go_topi (fun v3_1 ev3_1 => ?_)
  replace hw := hw v3_1 ev3_1
  refine go_istore_n (lv2 := [(3, .int v3_1), (0, .ref (G.2.2.1 52)), (1, .int a1), (2, .int a2)]) C rfl (by rw [hnl]; decide) rfl dX10_boysAgain_3 ?_
  refine go_sub [1, 2, 0] rfl ?_
  obtain ⟨n_0, hw⟩ := hw
  exact (gbX10_boysAgain_4 C hr hR hnl hd) n_0 _ _ _ hw
-- CradleNames$Trails.emptyAhead(II)I
def wbX10_emptyAhead_7   (post : Int32 → St → Prop) : Nat → Int32 → Int32 → Int32 → St → Prop
  | 0, _, _, _, _ => False
  | n + 1, v1, v3, v4, σ =>
    ((v4 < (-40) →
      post v3 σ) ∧
    (¬ v4 < (-40) →
      wpX10_in v1 v4 σ (fun r_1 σ_2 =>
      ((¬ r_1 = 0 →
        post v3 σ_2) ∧
      (r_1 = 0 →
        ∀ v3_3 : Int32, v3_3 = v3 + 1 →
        ∀ v4_4 : Int32, v4_4 = v4 + (-1) →
        wbX10_emptyAhead_7 post n v1 v3_3 v4_4 σ_2)))))
def wpX10_emptyAhead  (a1 : Int32) (a2 : Int32) (σ : St) (post : Int32 → St → Prop) : Prop :=
  ∀ v4_1 : Int32, v4_1 = (a2 - 1) →
  ∃ n, wbX10_emptyAhead_7 post n a1 0 v4_1 σ
set_option maxRecDepth 20000 in
set_option maxHeartbeats 4000000 in
theorem gbX10_emptyAhead_7 {X : XT} {G : GT} {l : Launch} {d : Nat}  {post : Int32 → St → Prop} (C : Cx X G cX10_emptyAhead RX10) (hr : Rt X G (some .int) (fun v τ => ∃ r : Int32, v = some (.int r) ∧ post r τ)) (hR : Rm X l d) (hnl : X.2.2.2.2.2.2.2.2.2.2.1 = 5)  (hd : 3 ≤ d)   
    : ∀ (n : Nat) (v1 : Int32) (v3 : Int32) (v4 : Int32) (σ : St), wbX10_emptyAhead_7   post n v1 v3 v4 σ → Go X G 7 [(0, .ref (G.2.2.1 52)), (1, .int v1), (3, .int v3), (4, .int v4)] [] σ := by
  intro n
  induction n with
  | zero => intro v1 v3 v4 σ hw; exact hw.elim
  | succ n ih =>
    intro v1 v3 v4 σ hw
    have hw : ((v4 < (-40) →
      post v3 σ) ∧
    (¬ v4 < (-40) →
      wpX10_in v1 v4 σ (fun r_1 σ_2 =>
      ((¬ r_1 = 0 →
        post v3 σ_2) ∧
      (r_1 = 0 →
        ∀ v3_3 : Int32, v3_3 = v3 + 1 →
        ∀ v4_4 : Int32, v4_4 = v4 + (-1) →
        wbX10_emptyAhead_7 post n v1 v3_3 v4_4 σ_2))))) := hw
    refine go_iload C 3 rfl dX10_emptyAhead_7 ?_
    refine go_bipush (v := (-40)) C rfl dX10_emptyAhead_9 ?_
    refine go_icmp_lt C 33 rfl dX10_emptyAhead_11 (fun hc => ?_) (fun hc => ?_)
    · replace hw := hw.1 hc
      refine go_iload_n C 2 rfl rfl dX10_emptyAhead_33 ?_
      exact go_iret C hr ⟨_, rfl, hw⟩ dX10_emptyAhead_34
    · replace hw := hw.2 hc
      refine go_aload_n C 0 rfl rfl dX10_emptyAhead_14 ?_
      refine go_iload_n C 1 rfl rfl dX10_emptyAhead_15 ?_
      refine go_iload C 3 rfl dX10_emptyAhead_16 ?_
      refine go_callV (as := [.int v1, .int v4]) C hR (shX10 G) ltX10 cwX10_60 (Nat.le_trans (by decide) hd) (by decide) rfl rfl (by decide) dX10_emptyAhead_18 (spX10_in (Nat.le_refl _) hw) (fun v_ τ_ hw => ?_)
      obtain ⟨r_1, rfl, hw⟩ := hw
      obtain ⟨σ_2, rfl⟩ : ∃ z, z = τ_ := ⟨_, rfl⟩
      refine go_if_ne C 33 rfl dX10_emptyAhead_21 (fun hc => ?_) (fun hc => ?_)
      · replace hw := hw.1 hc
        refine go_iload_n C 2 rfl rfl dX10_emptyAhead_33 ?_
        exact go_iret C hr ⟨_, rfl, hw⟩ dX10_emptyAhead_34
      · replace hw := hw.2 hc
        obtain ⟨v3_3, ev3_3⟩ : ∃ z : Int32, z = v3 + 1 := ⟨_, rfl⟩
        replace hw := hw v3_3 ev3_3
        refine go_iinc (v := v3_3) (lv2 := [(3, .int v3_3), (0, .ref (G.2.2.1 52)), (1, .int v1), (4, .int v4)]) C 2 rfl (by rw [ev3_3]; rfl) (by rw [hnl]; decide) rfl dX10_emptyAhead_24 ?_
        obtain ⟨v4_4, ev4_4⟩ : ∃ z : Int32, z = v4 + (-1) := ⟨_, rfl⟩
        replace hw := hw v4_4 ev4_4
        refine go_iinc (v := v4_4) (lv2 := [(4, .int v4_4), (3, .int v3_3), (0, .ref (G.2.2.1 52)), (1, .int v1)]) C 3 rfl (by rw [ev4_4]; rfl) (by rw [hnl]; decide) rfl dX10_emptyAhead_27 ?_
        refine go_goto C 7 rfl dX10_emptyAhead_30 ?_
        refine go_sub [2, 3, 1, 0] rfl ?_
        exact ih _ _ _ _ hw
set_option maxRecDepth 20000 in
set_option maxHeartbeats 4000000 in
theorem spX10_emptyAhead {l : Launch} {G : GT} {d : Nat}  (hd : 3 ≤ d)   {a1 : Int32} {a2 : Int32} {σ : St} {post : Int32 → St → Prop} (hw : wpX10_emptyAhead  a1 a2 σ post) : Sp l G d yX10_emptyAhead cX10_emptyAhead 5 (some .int) [.ref (G.2.2.1 52), .int a1, .int a2] σ (fun v τ => ∃ r : Int32, v = some (.int r) ∧ post r τ) := by
  refine Sp.of (by decide) (by decide) fun X C hr hR hnl => ?_
  show Go X G 0 [(0, .ref (G.2.2.1 52)), (1, .int a1), (2, .int a2)] [] σ
  have hw : ∀ v4_1 : Int32, v4_1 = (a2 - 1) →
  ∃ n, wbX10_emptyAhead_7 post n a1 0 v4_1 σ := hw
  refine go_iconst (v := 0) C rfl dX10_emptyAhead_0 ?_
  refine go_istore_n (lv2 := [(3, .int 0), (0, .ref (G.2.2.1 52)), (1, .int a1), (2, .int a2)]) C rfl (by rw [hnl]; decide) rfl dX10_emptyAhead_1 ?_
  refine go_iload_n C 3 rfl rfl dX10_emptyAhead_2 ?_
  refine go_iconst (v := 1) C rfl dX10_emptyAhead_3 ?_
  refine go_isub C dX10_emptyAhead_4 ?_
  refine go_topi (fun v4_1 ev4_1 => ?_)
  replace hw := hw v4_1 ev4_1
  refine go_istore (lv2 := [(4, .int v4_1), (3, .int 0), (0, .ref (G.2.2.1 52)), (1, .int a1), (2, .int a2)]) C (by rw [hnl]; decide) rfl dX10_emptyAhead_5 ?_
  refine go_sub [2, 3, 1, 0] rfl ?_
  obtain ⟨n_0, hw⟩ := hw
  exact (gbX10_emptyAhead_7 C hr hR hnl hd) n_0 _ _ _ _ hw
-- CradleNames$Trails.comesBack(II)I
def wbX10_comesBack_44  (K2 : Int32 → Int32 → Int32 → St → Prop) (post : Int32 → St → Prop) (v1 : Int32) (v2 : Int32) (v3 : Int32) (v4 : Int32) (s0 : Int32) (σ : St) : Prop :=
  ((v4 < v2 →
    ∀ v3_1 : Int32, v3_1 = v3 + 1 →
    K2 v1 v2 v3_1 σ) ∧
  (¬ v4 < v2 →
    ((s0 = 0 →
      ∀ v3_2 : Int32, v3_2 = v3 + 1 →
      K2 v1 v2 v3_2 σ) ∧
    (¬ s0 = 0 →
      post v3 σ))))
def wbX10_comesBack_2   (post : Int32 → St → Prop) : Nat → Int32 → Int32 → Int32 → St → Prop
  | 0, _, _, _, _ => False
  | n + 1, v1, v2, v3, σ =>
    (((gI σ 9 0) ≤ v3 →
      post (-1) σ) ∧
    (¬ (gI σ 9 0) ≤ v3 →
      wpX10_in v1 v3 σ (fun r_1 σ_2 =>
      ((r_1 ≤ 0 →
        ∀ v3_3 : Int32, v3_3 = v3 + 1 →
        wbX10_comesBack_2 post n v1 v2 v3_3 σ_2) ∧
      (¬ r_1 ≤ 0 →
        wpX10_emptyAhead v1 v3 σ_2 (fun r_4 σ_5 =>
        (((v3 - r_4) ≤ (-40) →
          wbX10_comesBack_44 (wbX10_comesBack_2 post n) post v1 v2 v3 r_4 0 σ_5) ∧
        (¬ (v3 - r_4) ≤ (-40) →
          wbX10_comesBack_44 (wbX10_comesBack_2 post n) post v1 v2 v3 r_4 1 σ_5))))))))
def wpX10_comesBack  (a1 : Int32) (a2 : Int32) (σ : St) (post : Int32 → St → Prop) : Prop :=
  ∃ n, wbX10_comesBack_2 post n a1 a2 0 σ
set_option maxRecDepth 20000 in
set_option maxHeartbeats 4000000 in
theorem gbX10_comesBack_44 {X : XT} {G : GT} {l : Launch} {d : Nat}  {post : Int32 → St → Prop} (C : Cx X G cX10_comesBack RX10) (hr : Rt X G (some .int) (fun v τ => ∃ r : Int32, v = some (.int r) ∧ post r τ)) (hR : Rm X l d) (hnl : X.2.2.2.2.2.2.2.2.2.2.1 = 6)  (hd : 4 ≤ d)  {K2 : Int32 → Int32 → Int32 → St → Prop} (hK2 : ∀ (v1 : Int32) (v2 : Int32) (v3 : Int32) (σ : St), K2 v1 v2 v3 σ → Go X G 2 [(0, .ref (G.2.2.1 52)), (1, .int v1), (2, .int v2), (3, .int v3)] [] σ)
    : ∀ (v1 : Int32) (v2 : Int32) (v3 : Int32) (v4 : Int32) (s0 : Int32) (σ : St), wbX10_comesBack_44  K2 post v1 v2 v3 v4 s0 σ → Go X G 44 [(0, .ref (G.2.2.1 52)), (1, .int v1), (2, .int v2), (3, .int v3), (4, .int v4)] [.int s0] σ := by
  intro v1 v2 v3 v4 s0 σ hw
  have hw : ((v4 < v2 →
    ∀ v3_1 : Int32, v3_1 = v3 + 1 →
    K2 v1 v2 v3_1 σ) ∧
  (¬ v4 < v2 →
    ((s0 = 0 →
      ∀ v3_2 : Int32, v3_2 = v3 + 1 →
      K2 v1 v2 v3_2 σ) ∧
    (¬ s0 = 0 →
      post v3 σ)))) := hw
  refine go_istore (lv2 := [(5, .int s0), (0, .ref (G.2.2.1 52)), (1, .int v1), (2, .int v2), (3, .int v3), (4, .int v4)]) C (by rw [hnl]; decide) rfl dX10_comesBack_44 ?_
  refine go_iload C 5 rfl dX10_comesBack_46 ?_
  refine go_iload_n C 3 rfl rfl dX10_comesBack_48 ?_
  refine go_icmp_lt C 59 rfl dX10_comesBack_49 (fun hc => ?_) (fun hc => ?_)
  · replace hw := hw.1 hc
    obtain ⟨v3_1, ev3_1⟩ : ∃ z : Int32, z = v3 + 1 := ⟨_, rfl⟩
    replace hw := hw v3_1 ev3_1
    refine go_iinc (v := v3_1) (lv2 := [(3, .int v3_1), (5, .int s0), (0, .ref (G.2.2.1 52)), (1, .int v1), (2, .int v2), (4, .int v4)]) C 4 rfl (by rw [ev3_1]; rfl) (by rw [hnl]; decide) rfl dX10_comesBack_59 ?_
    refine go_goto C 2 rfl dX10_comesBack_62 ?_
    refine go_sub [2, 3, 4, 0] rfl ?_
    exact hK2 _ _ _ _ hw
  · replace hw := hw.2 hc
    refine go_iload C 0 rfl dX10_comesBack_52 ?_
    refine go_if_eq C 59 rfl dX10_comesBack_54 (fun hc => ?_) (fun hc => ?_)
    · replace hw := hw.1 hc
      obtain ⟨v3_2, ev3_2⟩ : ∃ z : Int32, z = v3 + 1 := ⟨_, rfl⟩
      replace hw := hw v3_2 ev3_2
      refine go_iinc (v := v3_2) (lv2 := [(3, .int v3_2), (5, .int s0), (0, .ref (G.2.2.1 52)), (1, .int v1), (2, .int v2), (4, .int v4)]) C 4 rfl (by rw [ev3_2]; rfl) (by rw [hnl]; decide) rfl dX10_comesBack_59 ?_
      refine go_goto C 2 rfl dX10_comesBack_62 ?_
      refine go_sub [2, 3, 4, 0] rfl ?_
      exact hK2 _ _ _ _ hw
    · replace hw := hw.2 hc
      refine go_iload_n C 4 rfl rfl dX10_comesBack_57 ?_
      exact go_iret C hr ⟨_, rfl, hw⟩ dX10_comesBack_58
set_option maxRecDepth 20000 in
set_option maxHeartbeats 4000000 in
theorem gbX10_comesBack_2 {X : XT} {G : GT} {l : Launch} {d : Nat}  {post : Int32 → St → Prop} (C : Cx X G cX10_comesBack RX10) (hr : Rt X G (some .int) (fun v τ => ∃ r : Int32, v = some (.int r) ∧ post r τ)) (hR : Rm X l d) (hnl : X.2.2.2.2.2.2.2.2.2.2.1 = 6)  (hd : 4 ≤ d)   
    : ∀ (n : Nat) (v1 : Int32) (v2 : Int32) (v3 : Int32) (σ : St), wbX10_comesBack_2   post n v1 v2 v3 σ → Go X G 2 [(0, .ref (G.2.2.1 52)), (1, .int v1), (2, .int v2), (3, .int v3)] [] σ := by
  intro n
  induction n with
  | zero => intro v1 v2 v3 σ hw; exact hw.elim
  | succ n ih =>
    intro v1 v2 v3 σ hw
    have hw : (((gI σ 9 0) ≤ v3 →
      post (-1) σ) ∧
    (¬ (gI σ 9 0) ≤ v3 →
      wpX10_in v1 v3 σ (fun r_1 σ_2 =>
      ((r_1 ≤ 0 →
        ∀ v3_3 : Int32, v3_3 = v3 + 1 →
        wbX10_comesBack_2 post n v1 v2 v3_3 σ_2) ∧
      (¬ r_1 ≤ 0 →
        wpX10_emptyAhead v1 v3 σ_2 (fun r_4 σ_5 =>
        (((v3 - r_4) ≤ (-40) →
          wbX10_comesBack_44 (wbX10_comesBack_2 post n) post v1 v2 v3 r_4 0 σ_5) ∧
        (¬ (v3 - r_4) ≤ (-40) →
          wbX10_comesBack_44 (wbX10_comesBack_2 post n) post v1 v2 v3 r_4 1 σ_5)))))))) := hw
    refine go_iload_n C 3 rfl rfl dX10_comesBack_2 ?_
    refine go_aload_n C 0 rfl rfl dX10_comesBack_3 ?_
    refine go_get (v := .ref (G.2.2.1 9)) C (shX10 G) ltX10 lkX10_37 rfl dX10_comesBack_4 ?_
    refine go_get (v := .int (gI σ 9 0)) C (shX4 G) ltX4 lkX10_57 rfl dX10_comesBack_7 ?_
    refine go_icmp_ge C 65 rfl dX10_comesBack_10 (fun hc => ?_) (fun hc => ?_)
    · replace hw := hw.1 hc
      refine go_iconst (v := (-1)) C rfl dX10_comesBack_65 ?_
      exact go_iret C hr ⟨_, rfl, hw⟩ dX10_comesBack_66
    · replace hw := hw.2 hc
      refine go_aload_n C 0 rfl rfl dX10_comesBack_13 ?_
      refine go_iload_n C 1 rfl rfl dX10_comesBack_14 ?_
      refine go_iload_n C 3 rfl rfl dX10_comesBack_15 ?_
      refine go_callV (as := [.int v1, .int v3]) C hR (shX10 G) ltX10 cwX10_60 (Nat.le_trans (by decide) hd) (by decide) rfl rfl (by decide) dX10_comesBack_16 (spX10_in (Nat.le_refl _) hw) (fun v_ τ_ hw => ?_)
      obtain ⟨r_1, rfl, hw⟩ := hw
      obtain ⟨σ_2, rfl⟩ : ∃ z, z = τ_ := ⟨_, rfl⟩
      refine go_if_le C 59 rfl dX10_comesBack_19 (fun hc => ?_) (fun hc => ?_)
      · replace hw := hw.1 hc
        obtain ⟨v3_3, ev3_3⟩ : ∃ z : Int32, z = v3 + 1 := ⟨_, rfl⟩
        replace hw := hw v3_3 ev3_3
        refine go_iinc (v := v3_3) (lv2 := [(3, .int v3_3), (0, .ref (G.2.2.1 52)), (1, .int v1), (2, .int v2)]) C 3 rfl (by rw [ev3_3]; rfl) (by rw [hnl]; decide) rfl dX10_comesBack_59 ?_
        refine go_goto C 2 rfl dX10_comesBack_62 ?_
        refine go_sub [1, 2, 3, 0] rfl ?_
        exact ih _ _ _ _ hw
      · replace hw := hw.2 hc
        refine go_aload_n C 0 rfl rfl dX10_comesBack_22 ?_
        refine go_iload_n C 1 rfl rfl dX10_comesBack_23 ?_
        refine go_iload_n C 3 rfl rfl dX10_comesBack_24 ?_
        refine go_callV (as := [.int v1, .int v3]) C hR (shX10 G) ltX10 cwX10_100 (Nat.le_trans (by decide) hd) (by decide) rfl rfl (by decide) dX10_comesBack_25 (spX10_emptyAhead (Nat.le_refl _) hw) (fun v_ τ_ hw => ?_)
        obtain ⟨r_4, rfl, hw⟩ := hw
        obtain ⟨σ_5, rfl⟩ : ∃ z, z = τ_ := ⟨_, rfl⟩
        refine go_istore (lv2 := [(4, .int r_4), (0, .ref (G.2.2.1 52)), (1, .int v1), (2, .int v2), (3, .int v3)]) C (by rw [hnl]; decide) rfl dX10_comesBack_28 ?_
        refine go_iload_n C 4 rfl rfl dX10_comesBack_30 ?_
        refine go_iload C 0 rfl dX10_comesBack_31 ?_
        refine go_isub C dX10_comesBack_33 ?_
        refine go_bipush (v := (-40)) C rfl dX10_comesBack_34 ?_
        refine go_icmp_le C 43 rfl dX10_comesBack_36 (fun hc => ?_) (fun hc => ?_)
        · replace hw := hw.1 hc
          refine go_iconst (v := 0) C rfl dX10_comesBack_43 ?_
          refine go_sub [1, 2, 3, 4, 0] rfl ?_
          exact (gbX10_comesBack_44 C hr hR hnl hd ih) _ _ _ _ _ _ hw
        · replace hw := hw.2 hc
          refine go_iconst (v := 1) C rfl dX10_comesBack_39 ?_
          refine go_goto C 44 rfl dX10_comesBack_40 ?_
          refine go_sub [1, 2, 3, 4, 0] rfl ?_
          exact (gbX10_comesBack_44 C hr hR hnl hd ih) _ _ _ _ _ _ hw
set_option maxRecDepth 20000 in
set_option maxHeartbeats 4000000 in
theorem spX10_comesBack {l : Launch} {G : GT} {d : Nat}  (hd : 4 ≤ d)   {a1 : Int32} {a2 : Int32} {σ : St} {post : Int32 → St → Prop} (hw : wpX10_comesBack  a1 a2 σ post) : Sp l G d yX10_comesBack cX10_comesBack 6 (some .int) [.ref (G.2.2.1 52), .int a1, .int a2] σ (fun v τ => ∃ r : Int32, v = some (.int r) ∧ post r τ) := by
  refine Sp.of (by decide) (by decide) fun X C hr hR hnl => ?_
  show Go X G 0 [(0, .ref (G.2.2.1 52)), (1, .int a1), (2, .int a2)] [] σ
  have hw : ∃ n, wbX10_comesBack_2 post n a1 a2 0 σ := hw
  refine go_iconst (v := 0) C rfl dX10_comesBack_0 ?_
  refine go_istore_n (lv2 := [(3, .int 0), (0, .ref (G.2.2.1 52)), (1, .int a1), (2, .int a2)]) C rfl (by rw [hnl]; decide) rfl dX10_comesBack_1 ?_
  refine go_sub [1, 2, 3, 0] rfl ?_
  obtain ⟨n_0, hw⟩ := hw
  exact (gbX10_comesBack_2 C hr hR hnl hd) n_0 _ _ _ _ hw
-- CradleNames$Trails.unlike(III)J
def wbX10_unlike_12 (FX10_unlike : Int32 → Int32 → Int32 → St → (Int64 → St → Prop) → Prop)  (post : Int64 → St → Prop) : Nat → Int32 → Int32 → Int64 → Int32 → St → Prop
  | 0, _, _, _, _, _ => False
  | n + 1, v2, v3, v4, v6, σ =>
    ((((gI σ 52 10) - v2) < v6 →
      post v4 σ) ∧
    (¬ ((gI σ 52 10) - v2) < v6 →
      ((¬ ((v3 >>> (v6 &&& 31)) &&& 1) = 0 →
        ∀ v6_1 : Int32, v6_1 = v6 + 1 →
        wbX10_unlike_12 FX10_unlike post n v2 v3 v4 v6_1 σ) ∧
      (((v3 >>> (v6 &&& 31)) &&& 1) = 0 →
        vp_in v6 16 ∧ (
        vp_in v6 16 ∧ (
        FX10_unlike (v6 + 1) (v2 - 1) (v3 ||| (gI σ 59 v6.toNatClampNeg)) σ (fun r_2 σ_3 =>
        ∀ v4_4 : Int64, v4_4 = (v4 + ((gI σ 58 v6.toNatClampNeg).toInt64 * r_2)) →
        ∀ v6_5 : Int32, v6_5 = v6 + 1 →
        wbX10_unlike_12 FX10_unlike post n v2 v3 v4_4 v6_5 σ_3)))))))
def wpX10_unlike (FX10_unlike : Int32 → Int32 → Int32 → St → (Int64 → St → Prop) → Prop) (a1 : Int32) (a2 : Int32) (a3 : Int32) (σ : St) (post : Int64 → St → Prop) : Prop :=
  ((0 < a2 →
    ∃ n, wbX10_unlike_12 FX10_unlike post n a2 a3 0 a1 σ) ∧
  (¬ 0 < a2 →
    post 1 σ))
def wrX10_unlike : Nat → Int32 → Int32 → Int32 → St → (Int64 → St → Prop) → Prop
  | 0, _, _, _, _, _ => False
  | n + 1, a1, a2, a3, σ, post => wpX10_unlike (wrX10_unlike n) a1 a2 a3 σ post
set_option maxRecDepth 20000 in
set_option maxHeartbeats 4000000 in
theorem gbX10_unlike_12 {X : XT} {G : GT} {l : Launch} {d : Nat}  {post : Int64 → St → Prop} (C : Cx X G cX10_unlike RX10) (hr : Rt X G (some .long) (fun v τ => ∃ r : Int64, v = some (.long r) ∧ post r τ)) (hR : Rm X l d) (hnl : X.2.2.2.2.2.2.2.2.2.2.1 = 7) {FX10_unlike : Int32 → Int32 → Int32 → St → (Int64 → St → Prop) → Prop} {dF : Nat} (h5 : 5 ≤ dF) (hFX10_unlike : ∀ (a1 : Int32) (a2 : Int32) (a3 : Int32) (σ : St) (post : Int64 → St → Prop), FX10_unlike a1 a2 a3 σ post → Sp l G dF yX10_unlike cX10_unlike 7 (some .long) [.ref (G.2.2.1 52), .int a1, .int a2, .int a3] σ (fun v τ => ∃ r : Int64, v = some (.long r) ∧ post r τ)) (hd : dF + 1 ≤ d)   
    : ∀ (n : Nat) (v2 : Int32) (v3 : Int32) (v4 : Int64) (v6 : Int32) (σ : St), wbX10_unlike_12 FX10_unlike  post n v2 v3 v4 v6 σ → Go X G 12 [(0, .ref (G.2.2.1 52)), (2, .int v2), (3, .int v3), (4, .long v4), (6, .int v6)] [] σ := by
  intro n
  induction n with
  | zero => intro v2 v3 v4 v6 σ hw; exact hw.elim
  | succ n ih =>
    intro v2 v3 v4 v6 σ hw
    have hw : ((((gI σ 52 10) - v2) < v6 →
      post v4 σ) ∧
    (¬ ((gI σ 52 10) - v2) < v6 →
      ((¬ ((v3 >>> (v6 &&& 31)) &&& 1) = 0 →
        ∀ v6_1 : Int32, v6_1 = v6 + 1 →
        wbX10_unlike_12 FX10_unlike post n v2 v3 v4 v6_1 σ) ∧
      (((v3 >>> (v6 &&& 31)) &&& 1) = 0 →
        vp_in v6 16 ∧ (
        vp_in v6 16 ∧ (
        FX10_unlike (v6 + 1) (v2 - 1) (v3 ||| (gI σ 59 v6.toNatClampNeg)) σ (fun r_2 σ_3 =>
        ∀ v4_4 : Int64, v4_4 = (v4 + ((gI σ 58 v6.toNatClampNeg).toInt64 * r_2)) →
        ∀ v6_5 : Int32, v6_5 = v6 + 1 →
        wbX10_unlike_12 FX10_unlike post n v2 v3 v4_4 v6_5 σ_3))))))) := hw
    refine go_iload C 4 rfl dX10_unlike_12 ?_
    refine go_aload_n C 0 rfl rfl dX10_unlike_14 ?_
    refine go_get (v := .int (gI σ 52 10)) C (shX10 G) ltX10 lkX10_103 rfl dX10_unlike_15 ?_
    refine go_iload_n C 1 rfl rfl dX10_unlike_18 ?_
    refine go_isub C dX10_unlike_19 ?_
    refine go_icmp_gt C 72 rfl dX10_unlike_20 (fun hc => ?_) (fun hc => ?_)
    · replace hw := hw.1 hc
      refine go_lload C 3 rfl dX10_unlike_72 ?_
      exact go_lret C hr ⟨_, rfl, hw⟩ dX10_unlike_74
    · replace hw := hw.2 hc
      refine go_iload_n C 2 rfl rfl dX10_unlike_23 ?_
      refine go_iload C 4 rfl dX10_unlike_24 ?_
      refine go_ishr C dX10_unlike_26 ?_
      refine go_iconst (v := 1) C rfl dX10_unlike_27 ?_
      refine go_iand C dX10_unlike_28 ?_
      refine go_if_ne C 66 rfl dX10_unlike_29 (fun hc => ?_) (fun hc => ?_)
      · replace hw := hw.1 hc
        obtain ⟨v6_1, ev6_1⟩ : ∃ z : Int32, z = v6 + 1 := ⟨_, rfl⟩
        replace hw := hw v6_1 ev6_1
        refine go_iinc (v := v6_1) (lv2 := [(6, .int v6_1), (0, .ref (G.2.2.1 52)), (2, .int v2), (3, .int v3), (4, .long v4)]) C 4 rfl (by rw [ev6_1]; rfl) (by rw [hnl]; decide) rfl dX10_unlike_66 ?_
        refine go_goto C 12 rfl dX10_unlike_69 ?_
        refine go_sub [1, 2, 3, 4, 0] rfl ?_
        exact ih _ _ _ _ _ hw
      · replace hw := hw.2 hc
        refine go_lload C 3 rfl dX10_unlike_32 ?_
        refine go_aload_n C 0 rfl rfl dX10_unlike_34 ?_
        refine go_get (v := .ref (G.2.2.1 58)) C (shX10 G) ltX10 lkX10_27 rfl dX10_unlike_35 ?_
        refine go_iload C 4 rfl dX10_unlike_38 ?_
        refine go_iald C (saX10_counts G) laX10_counts hw.1 dX10_unlike_40 ?_
        replace hw := hw.2
        refine go_i2l C dX10_unlike_41 ?_
        refine go_aload_n C 0 rfl rfl dX10_unlike_42 ?_
        refine go_iload C 4 rfl dX10_unlike_43 ?_
        refine go_iconst (v := 1) C rfl dX10_unlike_45 ?_
        refine go_iadd C dX10_unlike_46 ?_
        refine go_iload_n C 1 rfl rfl dX10_unlike_47 ?_
        refine go_iconst (v := 1) C rfl dX10_unlike_48 ?_
        refine go_isub C dX10_unlike_49 ?_
        refine go_iload_n C 2 rfl rfl dX10_unlike_50 ?_
        refine go_aload_n C 0 rfl rfl dX10_unlike_51 ?_
        refine go_get (v := .ref (G.2.2.1 59)) C (shX10 G) ltX10 lkX10_30 rfl dX10_unlike_52 ?_
        refine go_iload C 4 rfl dX10_unlike_55 ?_
        refine go_iald C (saX10_kin G) laX10_kin hw.1 dX10_unlike_57 ?_
        replace hw := hw.2
        refine go_ior C dX10_unlike_58 ?_
        refine go_callV (as := [.int (v6 + 1), .int (v2 - 1), .int (v3 ||| (gI σ 59 v6.toNatClampNeg))]) C hR (shX10 G) ltX10 cwX10_109 (by omega) (by decide) rfl rfl (by decide) dX10_unlike_59 (hFX10_unlike _ _ _ _ _ hw) (fun v_ τ_ hw => ?_)
        obtain ⟨r_2, rfl, hw⟩ := hw
        obtain ⟨σ_3, rfl⟩ : ∃ z, z = τ_ := ⟨_, rfl⟩
        refine go_lmul C dX10_unlike_62 ?_
        refine go_ladd C dX10_unlike_63 ?_
        refine go_topl (fun v4_4 ev4_4 => ?_)
        replace hw := hw v4_4 ev4_4
        refine go_lstore (lv2 := [(4, .long v4_4), (0, .ref (G.2.2.1 52)), (2, .int v2), (3, .int v3), (6, .int v6)]) C (by rw [hnl]; decide) rfl dX10_unlike_64 ?_
        obtain ⟨v6_5, ev6_5⟩ : ∃ z : Int32, z = v6 + 1 := ⟨_, rfl⟩
        replace hw := hw v6_5 ev6_5
        refine go_iinc (v := v6_5) (lv2 := [(6, .int v6_5), (4, .long v4_4), (0, .ref (G.2.2.1 52)), (2, .int v2), (3, .int v3)]) C 4 rfl (by rw [ev6_5]; rfl) (by rw [hnl]; decide) rfl dX10_unlike_66 ?_
        refine go_goto C 12 rfl dX10_unlike_69 ?_
        refine go_sub [2, 3, 4, 1, 0] rfl ?_
        exact ih _ _ _ _ _ hw
set_option maxRecDepth 20000 in
set_option maxHeartbeats 4000000 in
theorem spX10_unlike {l : Launch} {G : GT} {d : Nat} {FX10_unlike : Int32 → Int32 → Int32 → St → (Int64 → St → Prop) → Prop} {dF : Nat} (h5 : 5 ≤ dF) (hFX10_unlike : ∀ (a1 : Int32) (a2 : Int32) (a3 : Int32) (σ : St) (post : Int64 → St → Prop), FX10_unlike a1 a2 a3 σ post → Sp l G dF yX10_unlike cX10_unlike 7 (some .long) [.ref (G.2.2.1 52), .int a1, .int a2, .int a3] σ (fun v τ => ∃ r : Int64, v = some (.long r) ∧ post r τ)) (hd : dF + 1 ≤ d)   {a1 : Int32} {a2 : Int32} {a3 : Int32} {σ : St} {post : Int64 → St → Prop} (hw : wpX10_unlike FX10_unlike a1 a2 a3 σ post) : Sp l G d yX10_unlike cX10_unlike 7 (some .long) [.ref (G.2.2.1 52), .int a1, .int a2, .int a3] σ (fun v τ => ∃ r : Int64, v = some (.long r) ∧ post r τ) := by
  refine Sp.of (by decide) (by decide) fun X C hr hR hnl => ?_
  show Go X G 0 [(0, .ref (G.2.2.1 52)), (1, .int a1), (2, .int a2), (3, .int a3)] [] σ
  have hw : ((0 < a2 →
    ∃ n, wbX10_unlike_12 FX10_unlike post n a2 a3 0 a1 σ) ∧
  (¬ 0 < a2 →
    post 1 σ)) := hw
  refine go_iload_n C 2 rfl rfl dX10_unlike_0 ?_
  refine go_if_gt C 6 rfl dX10_unlike_1 (fun hc => ?_) (fun hc => ?_)
  · replace hw := hw.1 hc
    refine go_lconst (v := 0) C rfl dX10_unlike_6 ?_
    refine go_lstore (lv2 := [(4, .long 0), (0, .ref (G.2.2.1 52)), (1, .int a1), (2, .int a2), (3, .int a3)]) C (by rw [hnl]; decide) rfl dX10_unlike_7 ?_
    refine go_iload_n C 2 rfl rfl dX10_unlike_9 ?_
    refine go_istore (lv2 := [(6, .int a1), (4, .long 0), (0, .ref (G.2.2.1 52)), (1, .int a1), (2, .int a2), (3, .int a3)]) C (by rw [hnl]; decide) rfl dX10_unlike_10 ?_
    refine go_sub [2, 4, 5, 1, 0] rfl ?_
    obtain ⟨n_0, hw⟩ := hw
    exact (gbX10_unlike_12 C hr hR hnl h5 hFX10_unlike hd) n_0 _ _ _ _ _ hw
  · replace hw := hw.2 hc
    refine go_lconst (v := 1) C rfl dX10_unlike_4 ?_
    exact go_lret C hr ⟨_, rfl, hw⟩ dX10_unlike_5
theorem srX10_unlike {l : Launch} {G : GT} : ∀ (n : Nat) (a1 : Int32) (a2 : Int32) (a3 : Int32) (σ : St) (post : Int64 → St → Prop), wrX10_unlike n a1 a2 a3 σ post → Sp l G (5 + 4 * n) yX10_unlike cX10_unlike 7 (some .long) [.ref (G.2.2.1 52), .int a1, .int a2, .int a3] σ (fun v τ => ∃ r : Int64, v = some (.long r) ∧ post r τ)
  | 0, _, _, _, _, _, hw => hw.elim
  | n + 1, _, _, _, _, _, hw => spX10_unlike (by omega) (srX10_unlike n) (by omega)  hw
-- CradleNames$Trails.kinOf(I)I
def wbX10_kinOf_4   (post : Int32 → St → Prop) : Nat → Int32 → Int32 → Int32 → St → Prop
  | 0, _, _, _, _ => False
  | n + 1, v1, v2, v3, σ =>
    (((gI σ 52 10) ≤ v3 →
      post v2 σ) ∧
    (¬ (gI σ 52 10) ≤ v3 →
      vp_in v1 16 ∧ (
      vp_in v3 16 ∧ (
      wpX5_akin (gI σ 57 v1.toNatClampNeg) (gI σ 57 v3.toNatClampNeg) σ (fun r_1 σ_2 =>
      ((r_1 = 0 →
        ∀ v3_3 : Int32, v3_3 = v3 + 1 →
        wbX10_kinOf_4 post n v1 v2 v3_3 σ_2) ∧
      (¬ r_1 = 0 →
        ∀ v2_4 : Int32, v2_4 = (v2 ||| (1 <<< (v3 &&& 31))) →
        ∀ v3_5 : Int32, v3_5 = v3 + 1 →
        wbX10_kinOf_4 post n v1 v2_4 v3_5 σ_2)))))))
def wpX10_kinOf  (a1 : Int32) (σ : St) (post : Int32 → St → Prop) : Prop :=
  ∃ n, wbX10_kinOf_4 post n a1 0 0 σ
set_option maxRecDepth 20000 in
set_option maxHeartbeats 4000000 in
theorem gbX10_kinOf_4 {X : XT} {G : GT} {l : Launch} {d : Nat}  {post : Int32 → St → Prop} (C : Cx X G cX10_kinOf RX10) (hr : Rt X G (some .int) (fun v τ => ∃ r : Int32, v = some (.int r) ∧ post r τ)) (hR : Rm X l d) (hnl : X.2.2.2.2.2.2.2.2.2.2.1 = 4)  (hd : 3 ≤ d)   
    : ∀ (n : Nat) (v1 : Int32) (v2 : Int32) (v3 : Int32) (σ : St), wbX10_kinOf_4   post n v1 v2 v3 σ → Go X G 4 [(0, .ref (G.2.2.1 52)), (1, .int v1), (2, .int v2), (3, .int v3)] [] σ := by
  intro n
  induction n with
  | zero => intro v1 v2 v3 σ hw; exact hw.elim
  | succ n ih =>
    intro v1 v2 v3 σ hw
    have hw : (((gI σ 52 10) ≤ v3 →
      post v2 σ) ∧
    (¬ (gI σ 52 10) ≤ v3 →
      vp_in v1 16 ∧ (
      vp_in v3 16 ∧ (
      wpX5_akin (gI σ 57 v1.toNatClampNeg) (gI σ 57 v3.toNatClampNeg) σ (fun r_1 σ_2 =>
      ((r_1 = 0 →
        ∀ v3_3 : Int32, v3_3 = v3 + 1 →
        wbX10_kinOf_4 post n v1 v2 v3_3 σ_2) ∧
      (¬ r_1 = 0 →
        ∀ v2_4 : Int32, v2_4 = (v2 ||| (1 <<< (v3 &&& 31))) →
        ∀ v3_5 : Int32, v3_5 = v3 + 1 →
        wbX10_kinOf_4 post n v1 v2_4 v3_5 σ_2))))))) := hw
    refine go_iload_n C 3 rfl rfl dX10_kinOf_4 ?_
    refine go_aload_n C 0 rfl rfl dX10_kinOf_5 ?_
    refine go_get (v := .int (gI σ 52 10)) C (shX10 G) ltX10 lkX10_103 rfl dX10_kinOf_6 ?_
    refine go_icmp_ge C 46 rfl dX10_kinOf_9 (fun hc => ?_) (fun hc => ?_)
    · replace hw := hw.1 hc
      refine go_iload_n C 2 rfl rfl dX10_kinOf_46 ?_
      exact go_iret C hr ⟨_, rfl, hw⟩ dX10_kinOf_47
    · replace hw := hw.2 hc
      refine go_aload_n C 0 rfl rfl dX10_kinOf_12 ?_
      refine go_get (v := .ref (G.2.2.1 1)) C (shX10 G) ltX10 lkX10_33 rfl dX10_kinOf_13 ?_
      refine go_aload_n C 0 rfl rfl dX10_kinOf_16 ?_
      refine go_get (v := .ref (G.2.2.1 57)) C (shX10 G) ltX10 lkX10_24 rfl dX10_kinOf_17 ?_
      refine go_iload_n C 1 rfl rfl dX10_kinOf_20 ?_
      refine go_iald C (saX10_who G) laX10_who hw.1 dX10_kinOf_21 ?_
      replace hw := hw.2
      refine go_aload_n C 0 rfl rfl dX10_kinOf_22 ?_
      refine go_get (v := .ref (G.2.2.1 57)) C (shX10 G) ltX10 lkX10_24 rfl dX10_kinOf_23 ?_
      refine go_iload_n C 3 rfl rfl dX10_kinOf_26 ?_
      refine go_iald C (saX10_who G) laX10_who hw.1 dX10_kinOf_27 ?_
      replace hw := hw.2
      refine go_callV (as := [.int (gI σ 57 v1.toNatClampNeg), .int (gI σ 57 v3.toNatClampNeg)]) C hR (shX5 G) ltX5 cwX10_115 (Nat.le_trans (by decide) hd) (by decide) rfl rfl (by decide) dX10_kinOf_28 (spX5_akin (Nat.le_refl _) hw) (fun v_ τ_ hw => ?_)
      obtain ⟨r_1, rfl, hw⟩ := hw
      obtain ⟨σ_2, rfl⟩ : ∃ z, z = τ_ := ⟨_, rfl⟩
      refine go_if_eq C 40 rfl dX10_kinOf_31 (fun hc => ?_) (fun hc => ?_)
      · replace hw := hw.1 hc
        obtain ⟨v3_3, ev3_3⟩ : ∃ z : Int32, z = v3 + 1 := ⟨_, rfl⟩
        replace hw := hw v3_3 ev3_3
        refine go_iinc (v := v3_3) (lv2 := [(3, .int v3_3), (0, .ref (G.2.2.1 52)), (1, .int v1), (2, .int v2)]) C 3 rfl (by rw [ev3_3]; rfl) (by rw [hnl]; decide) rfl dX10_kinOf_40 ?_
        refine go_goto C 4 rfl dX10_kinOf_43 ?_
        refine go_sub [1, 2, 3, 0] rfl ?_
        exact ih _ _ _ _ hw
      · replace hw := hw.2 hc
        refine go_iload_n C 2 rfl rfl dX10_kinOf_34 ?_
        refine go_iconst (v := 1) C rfl dX10_kinOf_35 ?_
        refine go_iload_n C 3 rfl rfl dX10_kinOf_36 ?_
        refine go_ishl C dX10_kinOf_37 ?_
        refine go_ior C dX10_kinOf_38 ?_
        refine go_topi (fun v2_4 ev2_4 => ?_)
        replace hw := hw v2_4 ev2_4
        refine go_istore_n (lv2 := [(2, .int v2_4), (0, .ref (G.2.2.1 52)), (1, .int v1), (3, .int v3)]) C rfl (by rw [hnl]; decide) rfl dX10_kinOf_39 ?_
        obtain ⟨v3_5, ev3_5⟩ : ∃ z : Int32, z = v3 + 1 := ⟨_, rfl⟩
        replace hw := hw v3_5 ev3_5
        refine go_iinc (v := v3_5) (lv2 := [(3, .int v3_5), (2, .int v2_4), (0, .ref (G.2.2.1 52)), (1, .int v1)]) C 3 rfl (by rw [ev3_5]; rfl) (by rw [hnl]; decide) rfl dX10_kinOf_40 ?_
        refine go_goto C 4 rfl dX10_kinOf_43 ?_
        refine go_sub [2, 3, 1, 0] rfl ?_
        exact ih _ _ _ _ hw
set_option maxRecDepth 20000 in
set_option maxHeartbeats 4000000 in
theorem spX10_kinOf {l : Launch} {G : GT} {d : Nat}  (hd : 3 ≤ d)   {a1 : Int32} {σ : St} {post : Int32 → St → Prop} (hw : wpX10_kinOf  a1 σ post) : Sp l G d yX10_kinOf cX10_kinOf 4 (some .int) [.ref (G.2.2.1 52), .int a1] σ (fun v τ => ∃ r : Int32, v = some (.int r) ∧ post r τ) := by
  refine Sp.of (by decide) (by decide) fun X C hr hR hnl => ?_
  show Go X G 0 [(0, .ref (G.2.2.1 52)), (1, .int a1)] [] σ
  have hw : ∃ n, wbX10_kinOf_4 post n a1 0 0 σ := hw
  refine go_iconst (v := 0) C rfl dX10_kinOf_0 ?_
  refine go_istore_n (lv2 := [(2, .int 0), (0, .ref (G.2.2.1 52)), (1, .int a1)]) C rfl (by rw [hnl]; decide) rfl dX10_kinOf_1 ?_
  refine go_iconst (v := 0) C rfl dX10_kinOf_2 ?_
  refine go_istore_n (lv2 := [(3, .int 0), (2, .int 0), (0, .ref (G.2.2.1 52)), (1, .int a1)]) C rfl (by rw [hnl]; decide) rfl dX10_kinOf_3 ?_
  refine go_sub [2, 3, 1, 0] rfl ?_
  obtain ⟨n_0, hw⟩ := hw
  exact (gbX10_kinOf_4 C hr hR hnl hd) n_0 _ _ _ _ hw
-- CradleNames$Trails.sharing(IIIZ)I
def wbX10_sharing_143   (post : Int32 → St → Prop) : Nat → Int32 → Int32 → Int64 → Int32 → St → Prop
  | 0, _, _, _, _, _ => False
  | n + 1, v3, v5, v6, v8, σ =>
    ((v3 ≤ v8 →
      ((0 < v6 →
        wrX10_unlike 12 0 v3 0 σ (fun r_1 σ_2 =>
        ¬ v6 = 0 ∧ (
        post ((((v6 - r_1) * 1000000) / v6).toInt32) σ_2))) ∧
      (¬ 0 < v6 →
        post (-1) σ))) ∧
    (¬ v3 ≤ v8 →
      ¬ (v8 + 1).toInt64 = 0 ∧ (
      ∀ v6_3 : Int64, v6_3 = ((v6 * (v5 - v8).toInt64) / (v8 + 1).toInt64) →
      ∀ v8_4 : Int32, v8_4 = v8 + 1 →
      wbX10_sharing_143 post n v3 v5 v6_3 v8_4 σ)))
def wbX10_sharing_100   (post : Int32 → St → Prop) : Nat → Int32 → Int32 → Int32 → Int32 → St → Prop
  | 0, _, _, _, _, _ => False
  | n + 1, v3, v4, v5, v6, σ =>
    (((gI σ 52 10) ≤ v6 →
      ∃ n, wbX10_sharing_143 post n v3 v5 1 0 σ) ∧
    (¬ (gI σ 52 10) ≤ v6 →
      ((v4 = 0 →
        vp_in v6 16 ∧ (
        ∀ σ_1 : St, σ_1 = sI σ 59 v6.toNatClampNeg 0 →
        ∀ v6_2 : Int32, v6_2 = v6 + 1 →
        wbX10_sharing_100 post n v3 v4 v5 v6_2 σ_1)) ∧
      (¬ v4 = 0 →
        wpX10_kinOf v6 σ (fun r_3 σ_4 =>
        vp_in v6 16 ∧ (
        ∀ σ_5 : St, σ_5 = sI σ_4 59 v6.toNatClampNeg r_3 →
        ∀ v6_6 : Int32, v6_6 = v6 + 1 →
        wbX10_sharing_100 post n v3 v4 v5 v6_6 σ_5))))))
def wbX10_sharing_11   (post : Int32 → St → Prop) : Nat → Int32 → Int32 → Int32 → Int32 → Int32 → Int32 → St → Prop
  | 0, _, _, _, _, _, _, _ => False
  | n + 1, v1, v2, v3, v4, v5, v6, σ =>
    (((gI σ 1 0) ≤ v6 →
      ((v3 ≤ v5 →
        ∃ n, wbX10_sharing_100 post n v3 v4 v5 0 σ) ∧
      (¬ v3 ≤ v5 →
        post (-1) σ))) ∧
    (¬ (gI σ 1 0) ≤ v6 →
      wpX0_between 0 (0 + v1) v6 v2 v2 σ (fun r_1 σ_2 =>
      ((r_1 ≤ 0 →
        ∀ v6_3 : Int32, v6_3 = v6 + 1 →
        wbX10_sharing_11 post n v1 v2 v3 v4 v5 v6_3 σ_2) ∧
      (¬ r_1 ≤ 0 →
        vp_in (gI σ_2 52 10) 16 ∧ (
        ∀ σ_4 : St, σ_4 = sI σ_2 57 (gI σ_2 52 10).toNatClampNeg v6 →
        vp_in (gI σ_4 52 10) 16 ∧ (
        ∀ σ_5 : St, σ_5 = sI σ_4 58 (gI σ_4 52 10).toNatClampNeg r_1 →
        ∀ v5_6 : Int32, v5_6 = (v5 + r_1) →
        ∀ σ_7 : St, σ_7 = sI σ_5 52 10 ((gI σ_5 52 10) + 1) →
        ∀ v6_8 : Int32, v6_8 = v6 + 1 →
        wbX10_sharing_11 post n v1 v2 v3 v4 v5_6 v6_8 σ_7)))))))
def wpX10_sharing  (a1 : Int32) (a2 : Int32) (a3 : Int32) (a4 : Int32) (σ : St) (post : Int32 → St → Prop) : Prop :=
  ∀ σ_1 : St, σ_1 = sI σ 52 10 0 →
  ∃ n, wbX10_sharing_11 post n a1 a2 a3 a4 0 0 σ_1
set_option maxRecDepth 20000 in
set_option maxHeartbeats 4000000 in
theorem gbX10_sharing_143 {X : XT} {G : GT} {l : Launch} {d : Nat}  {post : Int32 → St → Prop} (C : Cx X G cX10_sharing RX10) (hr : Rt X G (some .int) (fun v τ => ∃ r : Int32, v = some (.int r) ∧ post r τ)) (hR : Rm X l d) (hnl : X.2.2.2.2.2.2.2.2.2.2.1 = 9)  (hd : 54 ≤ d)   
    : ∀ (n : Nat) (v3 : Int32) (v5 : Int32) (v6 : Int64) (v8 : Int32) (σ : St), wbX10_sharing_143   post n v3 v5 v6 v8 σ → Go X G 143 [(0, .ref (G.2.2.1 52)), (3, .int v3), (5, .int v5), (6, .long v6), (8, .int v8)] [] σ := by
  intro n
  induction n with
  | zero => intro v3 v5 v6 v8 σ hw; exact hw.elim
  | succ n ih =>
    intro v3 v5 v6 v8 σ hw
    have hw : ((v3 ≤ v8 →
      ((0 < v6 →
        wrX10_unlike 12 0 v3 0 σ (fun r_1 σ_2 =>
        ¬ v6 = 0 ∧ (
        post ((((v6 - r_1) * 1000000) / v6).toInt32) σ_2))) ∧
      (¬ 0 < v6 →
        post (-1) σ))) ∧
    (¬ v3 ≤ v8 →
      ¬ (v8 + 1).toInt64 = 0 ∧ (
      ∀ v6_3 : Int64, v6_3 = ((v6 * (v5 - v8).toInt64) / (v8 + 1).toInt64) →
      ∀ v8_4 : Int32, v8_4 = v8 + 1 →
      wbX10_sharing_143 post n v3 v5 v6_3 v8_4 σ))) := hw
    refine go_iload C 4 rfl dX10_sharing_143 ?_
    refine go_iload_n C 1 rfl rfl dX10_sharing_145 ?_
    refine go_icmp_ge C 172 rfl dX10_sharing_146 (fun hc => ?_) (fun hc => ?_)
    · replace hw := hw.1 hc
      refine go_lload C 3 rfl dX10_sharing_172 ?_
      refine go_lconst (v := 0) C rfl dX10_sharing_174 ?_
      refine go_lc_gt C 183 rfl dX10_sharing_175 dX10_sharing_176 (fun hc => ?_) (fun hc => ?_)
      · replace hw := hw.1 hc
        refine go_lload C 3 rfl dX10_sharing_183 ?_
        refine go_aload_n C 0 rfl rfl dX10_sharing_185 ?_
        refine go_iconst (v := 0) C rfl dX10_sharing_186 ?_
        refine go_iload_n C 1 rfl rfl dX10_sharing_187 ?_
        refine go_iconst (v := 0) C rfl dX10_sharing_188 ?_
        refine go_callV (as := [.int 0, .int v3, .int 0]) C hR (shX10 G) ltX10 cwX10_109 (Nat.le_trans (by decide) hd) (by decide) rfl rfl (by decide) dX10_sharing_189 (srX10_unlike 12 _ _ _ _ _ hw) (fun v_ τ_ hw => ?_)
        obtain ⟨r_1, rfl, hw⟩ := hw
        obtain ⟨σ_2, rfl⟩ : ∃ z, z = τ_ := ⟨_, rfl⟩
        refine go_lsub C dX10_sharing_192 ?_
        refine go_ldc2 (v := 1000000) C kcX10_113 dX10_sharing_193 ?_
        refine go_lmul C dX10_sharing_196 ?_
        refine go_lload C 3 rfl dX10_sharing_197 ?_
        refine go_ldiv C hw.1 dX10_sharing_199 ?_
        replace hw := hw.2
        refine go_l2i C dX10_sharing_200 ?_
        exact go_iret C hr ⟨_, rfl, hw⟩ dX10_sharing_201
      · replace hw := hw.2 hc
        refine go_iconst (v := (-1)) C rfl dX10_sharing_179 ?_
        refine go_goto C 201 rfl dX10_sharing_180 ?_
        exact go_iret C hr ⟨_, rfl, hw⟩ dX10_sharing_201
    · replace hw := hw.2 hc
      refine go_lload C 3 rfl dX10_sharing_149 ?_
      refine go_iload C 2 rfl dX10_sharing_151 ?_
      refine go_iload C 4 rfl dX10_sharing_153 ?_
      refine go_isub C dX10_sharing_155 ?_
      refine go_i2l C dX10_sharing_156 ?_
      refine go_lmul C dX10_sharing_157 ?_
      refine go_iload C 4 rfl dX10_sharing_158 ?_
      refine go_iconst (v := 1) C rfl dX10_sharing_160 ?_
      refine go_iadd C dX10_sharing_161 ?_
      refine go_i2l C dX10_sharing_162 ?_
      refine go_ldiv C hw.1 dX10_sharing_163 ?_
      replace hw := hw.2
      refine go_topl (fun v6_3 ev6_3 => ?_)
      replace hw := hw v6_3 ev6_3
      refine go_lstore (lv2 := [(6, .long v6_3), (0, .ref (G.2.2.1 52)), (3, .int v3), (5, .int v5), (8, .int v8)]) C (by rw [hnl]; decide) rfl dX10_sharing_164 ?_
      obtain ⟨v8_4, ev8_4⟩ : ∃ z : Int32, z = v8 + 1 := ⟨_, rfl⟩
      replace hw := hw v8_4 ev8_4
      refine go_iinc (v := v8_4) (lv2 := [(8, .int v8_4), (6, .long v6_3), (0, .ref (G.2.2.1 52)), (3, .int v3), (5, .int v5)]) C 4 rfl (by rw [ev8_4]; rfl) (by rw [hnl]; decide) rfl dX10_sharing_166 ?_
      refine go_goto C 143 rfl dX10_sharing_169 ?_
      refine go_sub [2, 3, 4, 1, 0] rfl ?_
      exact ih _ _ _ _ _ hw
set_option maxRecDepth 20000 in
set_option maxHeartbeats 4000000 in
theorem gbX10_sharing_100 {X : XT} {G : GT} {l : Launch} {d : Nat}  {post : Int32 → St → Prop} (C : Cx X G cX10_sharing RX10) (hr : Rt X G (some .int) (fun v τ => ∃ r : Int32, v = some (.int r) ∧ post r τ)) (hR : Rm X l d) (hnl : X.2.2.2.2.2.2.2.2.2.2.1 = 9)  (hd : 54 ≤ d)   
    : ∀ (n : Nat) (v3 : Int32) (v4 : Int32) (v5 : Int32) (v6 : Int32) (σ : St), wbX10_sharing_100   post n v3 v4 v5 v6 σ → Go X G 100 [(0, .ref (G.2.2.1 52)), (3, .int v3), (4, .int v4), (5, .int v5), (6, .int v6)] [] σ := by
  intro n
  induction n with
  | zero => intro v3 v4 v5 v6 σ hw; exact hw.elim
  | succ n ih =>
    intro v3 v4 v5 v6 σ hw
    have hw : (((gI σ 52 10) ≤ v6 →
      ∃ n, wbX10_sharing_143 post n v3 v5 1 0 σ) ∧
    (¬ (gI σ 52 10) ≤ v6 →
      ((v4 = 0 →
        vp_in v6 16 ∧ (
        ∀ σ_1 : St, σ_1 = sI σ 59 v6.toNatClampNeg 0 →
        ∀ v6_2 : Int32, v6_2 = v6 + 1 →
        wbX10_sharing_100 post n v3 v4 v5 v6_2 σ_1)) ∧
      (¬ v4 = 0 →
        wpX10_kinOf v6 σ (fun r_3 σ_4 =>
        vp_in v6 16 ∧ (
        ∀ σ_5 : St, σ_5 = sI σ_4 59 v6.toNatClampNeg r_3 →
        ∀ v6_6 : Int32, v6_6 = v6 + 1 →
        wbX10_sharing_100 post n v3 v4 v5 v6_6 σ_5)))))) := hw
    refine go_iload C 4 rfl dX10_sharing_100 ?_
    refine go_aload_n C 0 rfl rfl dX10_sharing_102 ?_
    refine go_get (v := .int (gI σ 52 10)) C (shX10 G) ltX10 lkX10_103 rfl dX10_sharing_103 ?_
    refine go_icmp_ge C 137 rfl dX10_sharing_106 (fun hc => ?_) (fun hc => ?_)
    · replace hw := hw.1 hc
      refine go_lconst (v := 1) C rfl dX10_sharing_137 ?_
      refine go_lstore (lv2 := [(6, .long 1), (0, .ref (G.2.2.1 52)), (3, .int v3), (4, .int v4), (5, .int v5)]) C (by rw [hnl]; decide) rfl dX10_sharing_138 ?_
      refine go_iconst (v := 0) C rfl dX10_sharing_140 ?_
      refine go_istore (lv2 := [(8, .int 0), (6, .long 1), (0, .ref (G.2.2.1 52)), (3, .int v3), (4, .int v4), (5, .int v5)]) C (by rw [hnl]; decide) rfl dX10_sharing_141 ?_
      refine go_sub [2, 3, 5, 1, 0] rfl ?_
      obtain ⟨n_0, hw⟩ := hw
      exact (gbX10_sharing_143 C hr hR hnl hd) n_0 _ _ _ _ _ hw
    · replace hw := hw.2 hc
      refine go_aload_n C 0 rfl rfl dX10_sharing_109 ?_
      refine go_get (v := .ref (G.2.2.1 59)) C (shX10 G) ltX10 lkX10_30 rfl dX10_sharing_110 ?_
      refine go_iload C 4 rfl dX10_sharing_113 ?_
      refine go_iload C 2 rfl dX10_sharing_115 ?_
      refine go_if_eq C 129 rfl dX10_sharing_117 (fun hc => ?_) (fun hc => ?_)
      · replace hw := hw.1 hc
        refine go_iconst (v := 0) C rfl dX10_sharing_129 ?_
        refine go_iast C (saX10_kin G) laX10_kin hw.1 dX10_sharing_130 (go_nm fun σ_1 eσ_1 => ?_)
        replace hw := hw.2 σ_1 eσ_1
        obtain ⟨v6_2, ev6_2⟩ : ∃ z : Int32, z = v6 + 1 := ⟨_, rfl⟩
        replace hw := hw v6_2 ev6_2
        refine go_iinc (v := v6_2) (lv2 := [(6, .int v6_2), (0, .ref (G.2.2.1 52)), (3, .int v3), (4, .int v4), (5, .int v5)]) C 4 rfl (by rw [ev6_2]; rfl) (by rw [hnl]; decide) rfl dX10_sharing_131 ?_
        refine go_goto C 100 rfl dX10_sharing_134 ?_
        refine go_sub [1, 2, 3, 4, 0] rfl ?_
        exact ih _ _ _ _ _ hw
      · replace hw := hw.2 hc
        refine go_aload_n C 0 rfl rfl dX10_sharing_120 ?_
        refine go_iload C 4 rfl dX10_sharing_121 ?_
        refine go_callV (as := [.int v6]) C hR (shX10 G) ltX10 cwX10_106 (Nat.le_trans (by decide) hd) (by decide) rfl rfl (by decide) dX10_sharing_123 (spX10_kinOf (Nat.le_refl _) hw) (fun v_ τ_ hw => ?_)
        obtain ⟨r_3, rfl, hw⟩ := hw
        obtain ⟨σ_4, rfl⟩ : ∃ z, z = τ_ := ⟨_, rfl⟩
        refine go_goto C 130 rfl dX10_sharing_126 ?_
        refine go_iast C (saX10_kin G) laX10_kin hw.1 dX10_sharing_130 (go_nm fun σ_5 eσ_5 => ?_)
        replace hw := hw.2 σ_5 eσ_5
        obtain ⟨v6_6, ev6_6⟩ : ∃ z : Int32, z = v6 + 1 := ⟨_, rfl⟩
        replace hw := hw v6_6 ev6_6
        refine go_iinc (v := v6_6) (lv2 := [(6, .int v6_6), (0, .ref (G.2.2.1 52)), (3, .int v3), (4, .int v4), (5, .int v5)]) C 4 rfl (by rw [ev6_6]; rfl) (by rw [hnl]; decide) rfl dX10_sharing_131 ?_
        refine go_goto C 100 rfl dX10_sharing_134 ?_
        refine go_sub [1, 2, 3, 4, 0] rfl ?_
        exact ih _ _ _ _ _ hw
set_option maxRecDepth 20000 in
set_option maxHeartbeats 4000000 in
theorem gbX10_sharing_11 {X : XT} {G : GT} {l : Launch} {d : Nat}  {post : Int32 → St → Prop} (C : Cx X G cX10_sharing RX10) (hr : Rt X G (some .int) (fun v τ => ∃ r : Int32, v = some (.int r) ∧ post r τ)) (hR : Rm X l d) (hnl : X.2.2.2.2.2.2.2.2.2.2.1 = 9)  (hd : 54 ≤ d)   
    : ∀ (n : Nat) (v1 : Int32) (v2 : Int32) (v3 : Int32) (v4 : Int32) (v5 : Int32) (v6 : Int32) (σ : St), wbX10_sharing_11   post n v1 v2 v3 v4 v5 v6 σ → Go X G 11 [(0, .ref (G.2.2.1 52)), (1, .int v1), (2, .int v2), (3, .int v3), (4, .int v4), (5, .int v5), (6, .int v6)] [] σ := by
  intro n
  induction n with
  | zero => intro v1 v2 v3 v4 v5 v6 σ hw; exact hw.elim
  | succ n ih =>
    intro v1 v2 v3 v4 v5 v6 σ hw
    have hw : (((gI σ 1 0) ≤ v6 →
      ((v3 ≤ v5 →
        ∃ n, wbX10_sharing_100 post n v3 v4 v5 0 σ) ∧
      (¬ v3 ≤ v5 →
        post (-1) σ))) ∧
    (¬ (gI σ 1 0) ≤ v6 →
      wpX0_between 0 (0 + v1) v6 v2 v2 σ (fun r_1 σ_2 =>
      ((r_1 ≤ 0 →
        ∀ v6_3 : Int32, v6_3 = v6 + 1 →
        wbX10_sharing_11 post n v1 v2 v3 v4 v5 v6_3 σ_2) ∧
      (¬ r_1 ≤ 0 →
        vp_in (gI σ_2 52 10) 16 ∧ (
        ∀ σ_4 : St, σ_4 = sI σ_2 57 (gI σ_2 52 10).toNatClampNeg v6 →
        vp_in (gI σ_4 52 10) 16 ∧ (
        ∀ σ_5 : St, σ_5 = sI σ_4 58 (gI σ_4 52 10).toNatClampNeg r_1 →
        ∀ v5_6 : Int32, v5_6 = (v5 + r_1) →
        ∀ σ_7 : St, σ_7 = sI σ_5 52 10 ((gI σ_5 52 10) + 1) →
        ∀ v6_8 : Int32, v6_8 = v6 + 1 →
        wbX10_sharing_11 post n v1 v2 v3 v4 v5_6 v6_8 σ_7))))))) := hw
    refine go_iload C 6 rfl dX10_sharing_11 ?_
    refine go_aload_n C 0 rfl rfl dX10_sharing_13 ?_
    refine go_get (v := .ref (G.2.2.1 1)) C (shX10 G) ltX10 lkX10_33 rfl dX10_sharing_14 ?_
    refine go_get (v := .int (gI σ 1 0)) C (shX5 G) ltX5 lkX10_64 rfl dX10_sharing_17 ?_
    refine go_icmp_ge C 89 rfl dX10_sharing_20 (fun hc => ?_) (fun hc => ?_)
    · replace hw := hw.1 hc
      refine go_iload C 5 rfl dX10_sharing_89 ?_
      refine go_iload_n C 3 rfl rfl dX10_sharing_91 ?_
      refine go_icmp_ge C 97 rfl dX10_sharing_92 (fun hc => ?_) (fun hc => ?_)
      · replace hw := hw.1 hc
        refine go_iconst (v := 0) C rfl dX10_sharing_97 ?_
        refine go_istore (lv2 := [(6, .int 0), (0, .ref (G.2.2.1 52)), (1, .int v1), (2, .int v2), (3, .int v3), (4, .int v4), (5, .int v5)]) C (by rw [hnl]; decide) rfl dX10_sharing_98 ?_
        refine go_sub [1, 4, 5, 6, 0] rfl ?_
        obtain ⟨n_0, hw⟩ := hw
        exact (gbX10_sharing_100 C hr hR hnl hd) n_0 _ _ _ _ _ hw
      · replace hw := hw.2 hc
        refine go_iconst (v := (-1)) C rfl dX10_sharing_95 ?_
        exact go_iret C hr ⟨_, rfl, hw⟩ dX10_sharing_96
    · replace hw := hw.2 hc
      refine go_aload_n C 0 rfl rfl dX10_sharing_23 ?_
      refine go_get (v := .ref (G.2.2.1 (21 + 4 * 0))) C (shX10 G) ltX10 lkX10_41 rfl dX10_sharing_24 ?_
      refine go_iconst (v := 0) C rfl dX10_sharing_27 ?_
      refine go_iload_n C 1 rfl rfl dX10_sharing_28 ?_
      refine go_iadd C dX10_sharing_29 ?_
      refine go_iload C 6 rfl dX10_sharing_30 ?_
      refine go_iload_n C 2 rfl rfl dX10_sharing_32 ?_
      refine go_iload_n C 2 rfl rfl dX10_sharing_33 ?_
      refine go_callV (as := [.int (0 + v1), .int v6, .int v2, .int v2]) C hR (shX0 G (show 0 < 2 by decide)) (ltX0 (show 0 < 2 by decide)) cwX10_45 (Nat.le_trans (by decide) hd) (by decide) rfl rfl (by decide) dX10_sharing_34 (spX0_between (Nat.le_refl _) (show 0 < 2 by decide) hw) (fun v_ τ_ hw => ?_)
      obtain ⟨r_1, rfl, hw⟩ := hw
      obtain ⟨σ_2, rfl⟩ : ∃ z, z = τ_ := ⟨_, rfl⟩
      refine go_istore (lv2 := [(7, .int r_1), (0, .ref (G.2.2.1 52)), (1, .int v1), (2, .int v2), (3, .int v3), (4, .int v4), (5, .int v5), (6, .int v6)]) C (by rw [hnl]; decide) rfl dX10_sharing_37 ?_
      refine go_iload C 0 rfl dX10_sharing_39 ?_
      refine go_if_le C 83 rfl dX10_sharing_41 (fun hc => ?_) (fun hc => ?_)
      · replace hw := hw.1 hc
        obtain ⟨v6_3, ev6_3⟩ : ∃ z : Int32, z = v6 + 1 := ⟨_, rfl⟩
        replace hw := hw v6_3 ev6_3
        refine go_iinc (v := v6_3) (lv2 := [(6, .int v6_3), (7, .int r_1), (0, .ref (G.2.2.1 52)), (1, .int v1), (2, .int v2), (3, .int v3), (4, .int v4), (5, .int v5)]) C 7 rfl (by rw [ev6_3]; rfl) (by rw [hnl]; decide) rfl dX10_sharing_83 ?_
        refine go_goto C 11 rfl dX10_sharing_86 ?_
        refine go_sub [2, 3, 4, 5, 6, 7, 0] rfl ?_
        exact ih _ _ _ _ _ _ _ hw
      · replace hw := hw.2 hc
        refine go_aload_n C 1 rfl rfl dX10_sharing_44 ?_
        refine go_get (v := .ref (G.2.2.1 57)) C (shX10 G) ltX10 lkX10_24 rfl dX10_sharing_45 ?_
        refine go_aload_n C 1 rfl rfl dX10_sharing_48 ?_
        refine go_get (v := .int (gI σ_2 52 10)) C (shX10 G) ltX10 lkX10_103 rfl dX10_sharing_49 ?_
        refine go_iload C 7 rfl dX10_sharing_52 ?_
        refine go_iast C (saX10_who G) laX10_who hw.1 dX10_sharing_54 (go_nm fun σ_4 eσ_4 => ?_)
        replace hw := hw.2 σ_4 eσ_4
        refine go_aload_n C 1 rfl rfl dX10_sharing_55 ?_
        refine go_get (v := .ref (G.2.2.1 58)) C (shX10 G) ltX10 lkX10_27 rfl dX10_sharing_56 ?_
        refine go_aload_n C 1 rfl rfl dX10_sharing_59 ?_
        refine go_get (v := .int (gI σ_4 52 10)) C (shX10 G) ltX10 lkX10_103 rfl dX10_sharing_60 ?_
        refine go_iload C 0 rfl dX10_sharing_63 ?_
        refine go_iast C (saX10_counts G) laX10_counts hw.1 dX10_sharing_65 (go_nm fun σ_5 eσ_5 => ?_)
        replace hw := hw.2 σ_5 eσ_5
        refine go_iload C 6 rfl dX10_sharing_66 ?_
        refine go_iload C 0 rfl dX10_sharing_68 ?_
        refine go_iadd C dX10_sharing_70 ?_
        refine go_topi (fun v5_6 ev5_6 => ?_)
        replace hw := hw v5_6 ev5_6
        refine go_istore (lv2 := [(5, .int v5_6), (7, .int r_1), (0, .ref (G.2.2.1 52)), (1, .int v1), (2, .int v2), (3, .int v3), (4, .int v4), (6, .int v6)]) C (by rw [hnl]; decide) rfl dX10_sharing_71 ?_
        refine go_aload_n C 2 rfl rfl dX10_sharing_73 ?_
        refine go_dup C rfl dX10_sharing_74 ?_
        refine go_get (v := .int (gI σ_5 52 10)) C (shX10 G) ltX10 lkX10_103 rfl dX10_sharing_75 ?_
        refine go_iconst (v := 1) C rfl dX10_sharing_78 ?_
        refine go_iadd C dX10_sharing_79 ?_
        refine go_puti C (shX10 G) ltX10 lpX10_103 (show 10 < 11 by decide) (pxX10_10 G _ _) dX10_sharing_80 (go_nm fun σ_7 eσ_7 => ?_)
        replace hw := hw σ_7 eσ_7
        obtain ⟨v6_8, ev6_8⟩ : ∃ z : Int32, z = v6 + 1 := ⟨_, rfl⟩
        replace hw := hw v6_8 ev6_8
        refine go_iinc (v := v6_8) (lv2 := [(6, .int v6_8), (5, .int v5_6), (7, .int r_1), (0, .ref (G.2.2.1 52)), (1, .int v1), (2, .int v2), (3, .int v3), (4, .int v4)]) C 7 rfl (by rw [ev6_8]; rfl) (by rw [hnl]; decide) rfl dX10_sharing_83 ?_
        refine go_goto C 11 rfl dX10_sharing_86 ?_
        refine go_sub [3, 4, 5, 6, 7, 1, 0] rfl ?_
        exact ih _ _ _ _ _ _ _ hw
set_option maxRecDepth 20000 in
set_option maxHeartbeats 4000000 in
theorem spX10_sharing {l : Launch} {G : GT} {d : Nat}  (hd : 54 ≤ d)   {a1 : Int32} {a2 : Int32} {a3 : Int32} {a4 : Int32} {σ : St} {post : Int32 → St → Prop} (hw : wpX10_sharing  a1 a2 a3 a4 σ post) : Sp l G d yX10_sharing cX10_sharing 9 (some .int) [.ref (G.2.2.1 52), .int a1, .int a2, .int a3, .int a4] σ (fun v τ => ∃ r : Int32, v = some (.int r) ∧ post r τ) := by
  refine Sp.of (by decide) (by decide) fun X C hr hR hnl => ?_
  show Go X G 0 [(0, .ref (G.2.2.1 52)), (1, .int a1), (2, .int a2), (3, .int a3), (4, .int a4)] [] σ
  have hw : ∀ σ_1 : St, σ_1 = sI σ 52 10 0 →
  ∃ n, wbX10_sharing_11 post n a1 a2 a3 a4 0 0 σ_1 := hw
  refine go_iconst (v := 0) C rfl dX10_sharing_0 ?_
  refine go_istore (lv2 := [(5, .int 0), (0, .ref (G.2.2.1 52)), (1, .int a1), (2, .int a2), (3, .int a3), (4, .int a4)]) C (by rw [hnl]; decide) rfl dX10_sharing_1 ?_
  refine go_aload_n C 1 rfl rfl dX10_sharing_3 ?_
  refine go_iconst (v := 0) C rfl dX10_sharing_4 ?_
  refine go_puti C (shX10 G) ltX10 lpX10_103 (show 10 < 11 by decide) (pxX10_10 G _ _) dX10_sharing_5 (go_nm fun σ_1 eσ_1 => ?_)
  replace hw := hw σ_1 eσ_1
  refine go_iconst (v := 0) C rfl dX10_sharing_8 ?_
  refine go_istore (lv2 := [(6, .int 0), (5, .int 0), (0, .ref (G.2.2.1 52)), (1, .int a1), (2, .int a2), (3, .int a3), (4, .int a4)]) C (by rw [hnl]; decide) rfl dX10_sharing_9 ?_
  refine go_sub [2, 3, 4, 5, 6, 1, 0] rfl ?_
  obtain ⟨n_0, hw⟩ := hw
  exact (gbX10_sharing_11 C hr hR hnl hd) n_0 _ _ _ _ _ _ _ hw
-- CradleNames$Trails.akinLastYear(II)I
def wbX10_akinLastYear_16   (post : Int32 → St → Prop) : Nat → Int32 → Int32 → Int32 → Int32 → Int32 → St → Prop
  | 0, _, _, _, _, _, _ => False
  | n + 1, v1, v2, v3, v4, v5, σ =>
    (((gI σ 1 0) ≤ v5 →
      post v4 σ) ∧
    (¬ (gI σ 1 0) ≤ v5 →
      wpX5_akin v2 v5 σ (fun r_1 σ_2 =>
      ((r_1 = 0 →
        ∀ v5_3 : Int32, v5_3 = v5 + 1 →
        wbX10_akinLastYear_16 post n v1 v2 v3 v4 v5_3 σ_2) ∧
      (¬ r_1 = 0 →
        wpX0_between 0 (0 + v1) v5 v3 v3 σ_2 (fun r_4 σ_5 =>
        ∀ v4_6 : Int32, v4_6 = (v4 + r_4) →
        ∀ v5_7 : Int32, v5_7 = v5 + 1 →
        wbX10_akinLastYear_16 post n v1 v2 v3 v4_6 v5_7 σ_5))))))
def wpX10_akinLastYear  (a1 : Int32) (a2 : Int32) (σ : St) (post : Int32 → St → Prop) : Prop :=
  ∀ v3_1 : Int32, v3_1 = ((gI σ 9 0) - 1) →
  ∃ n, wbX10_akinLastYear_16 post n a1 a2 v3_1 0 0 σ
set_option maxRecDepth 20000 in
set_option maxHeartbeats 4000000 in
theorem gbX10_akinLastYear_16 {X : XT} {G : GT} {l : Launch} {d : Nat}  {post : Int32 → St → Prop} (C : Cx X G cX10_akinLastYear RX10) (hr : Rt X G (some .int) (fun v τ => ∃ r : Int32, v = some (.int r) ∧ post r τ)) (hR : Rm X l d) (hnl : X.2.2.2.2.2.2.2.2.2.2.1 = 6)  (hd : 3 ≤ d)   
    : ∀ (n : Nat) (v1 : Int32) (v2 : Int32) (v3 : Int32) (v4 : Int32) (v5 : Int32) (σ : St), wbX10_akinLastYear_16   post n v1 v2 v3 v4 v5 σ → Go X G 16 [(0, .ref (G.2.2.1 52)), (1, .int v1), (2, .int v2), (3, .int v3), (4, .int v4), (5, .int v5)] [] σ := by
  intro n
  induction n with
  | zero => intro v1 v2 v3 v4 v5 σ hw; exact hw.elim
  | succ n ih =>
    intro v1 v2 v3 v4 v5 σ hw
    have hw : (((gI σ 1 0) ≤ v5 →
      post v4 σ) ∧
    (¬ (gI σ 1 0) ≤ v5 →
      wpX5_akin v2 v5 σ (fun r_1 σ_2 =>
      ((r_1 = 0 →
        ∀ v5_3 : Int32, v5_3 = v5 + 1 →
        wbX10_akinLastYear_16 post n v1 v2 v3 v4 v5_3 σ_2) ∧
      (¬ r_1 = 0 →
        wpX0_between 0 (0 + v1) v5 v3 v3 σ_2 (fun r_4 σ_5 =>
        ∀ v4_6 : Int32, v4_6 = (v4 + r_4) →
        ∀ v5_7 : Int32, v5_7 = v5 + 1 →
        wbX10_akinLastYear_16 post n v1 v2 v3 v4_6 v5_7 σ_5)))))) := hw
    refine go_iload C 5 rfl dX10_akinLastYear_16 ?_
    refine go_aload_n C 0 rfl rfl dX10_akinLastYear_18 ?_
    refine go_get (v := .ref (G.2.2.1 1)) C (shX10 G) ltX10 lkX10_33 rfl dX10_akinLastYear_19 ?_
    refine go_get (v := .int (gI σ 1 0)) C (shX5 G) ltX5 lkX10_64 rfl dX10_akinLastYear_22 ?_
    refine go_icmp_ge C 66 rfl dX10_akinLastYear_25 (fun hc => ?_) (fun hc => ?_)
    · replace hw := hw.1 hc
      refine go_iload C 4 rfl dX10_akinLastYear_66 ?_
      exact go_iret C hr ⟨_, rfl, hw⟩ dX10_akinLastYear_68
    · replace hw := hw.2 hc
      refine go_aload_n C 0 rfl rfl dX10_akinLastYear_28 ?_
      refine go_get (v := .ref (G.2.2.1 1)) C (shX10 G) ltX10 lkX10_33 rfl dX10_akinLastYear_29 ?_
      refine go_iload_n C 2 rfl rfl dX10_akinLastYear_32 ?_
      refine go_iload C 5 rfl dX10_akinLastYear_33 ?_
      refine go_callV (as := [.int v2, .int v5]) C hR (shX5 G) ltX5 cwX10_115 (Nat.le_trans (by decide) hd) (by decide) rfl rfl (by decide) dX10_akinLastYear_35 (spX5_akin (Nat.le_refl _) hw) (fun v_ τ_ hw => ?_)
      obtain ⟨r_1, rfl, hw⟩ := hw
      obtain ⟨σ_2, rfl⟩ : ∃ z, z = τ_ := ⟨_, rfl⟩
      refine go_if_eq C 60 rfl dX10_akinLastYear_38 (fun hc => ?_) (fun hc => ?_)
      · replace hw := hw.1 hc
        obtain ⟨v5_3, ev5_3⟩ : ∃ z : Int32, z = v5 + 1 := ⟨_, rfl⟩
        replace hw := hw v5_3 ev5_3
        refine go_iinc (v := v5_3) (lv2 := [(5, .int v5_3), (0, .ref (G.2.2.1 52)), (1, .int v1), (2, .int v2), (3, .int v3), (4, .int v4)]) C 5 rfl (by rw [ev5_3]; rfl) (by rw [hnl]; decide) rfl dX10_akinLastYear_60 ?_
        refine go_goto C 16 rfl dX10_akinLastYear_63 ?_
        refine go_sub [1, 2, 3, 4, 5, 0] rfl ?_
        exact ih _ _ _ _ _ _ hw
      · replace hw := hw.2 hc
        refine go_iload C 4 rfl dX10_akinLastYear_41 ?_
        refine go_aload_n C 0 rfl rfl dX10_akinLastYear_43 ?_
        refine go_get (v := .ref (G.2.2.1 (21 + 4 * 0))) C (shX10 G) ltX10 lkX10_41 rfl dX10_akinLastYear_44 ?_
        refine go_iconst (v := 0) C rfl dX10_akinLastYear_47 ?_
        refine go_iload_n C 1 rfl rfl dX10_akinLastYear_48 ?_
        refine go_iadd C dX10_akinLastYear_49 ?_
        refine go_iload C 5 rfl dX10_akinLastYear_50 ?_
        refine go_iload_n C 3 rfl rfl dX10_akinLastYear_52 ?_
        refine go_iload_n C 3 rfl rfl dX10_akinLastYear_53 ?_
        refine go_callV (as := [.int (0 + v1), .int v5, .int v3, .int v3]) C hR (shX0 G (show 0 < 2 by decide)) (ltX0 (show 0 < 2 by decide)) cwX10_45 (Nat.le_trans (by decide) hd) (by decide) rfl rfl (by decide) dX10_akinLastYear_54 (spX0_between (Nat.le_refl _) (show 0 < 2 by decide) hw) (fun v_ τ_ hw => ?_)
        obtain ⟨r_4, rfl, hw⟩ := hw
        obtain ⟨σ_5, rfl⟩ : ∃ z, z = τ_ := ⟨_, rfl⟩
        refine go_iadd C dX10_akinLastYear_57 ?_
        refine go_topi (fun v4_6 ev4_6 => ?_)
        replace hw := hw v4_6 ev4_6
        refine go_istore (lv2 := [(4, .int v4_6), (0, .ref (G.2.2.1 52)), (1, .int v1), (2, .int v2), (3, .int v3), (5, .int v5)]) C (by rw [hnl]; decide) rfl dX10_akinLastYear_58 ?_
        obtain ⟨v5_7, ev5_7⟩ : ∃ z : Int32, z = v5 + 1 := ⟨_, rfl⟩
        replace hw := hw v5_7 ev5_7
        refine go_iinc (v := v5_7) (lv2 := [(5, .int v5_7), (4, .int v4_6), (0, .ref (G.2.2.1 52)), (1, .int v1), (2, .int v2), (3, .int v3)]) C 5 rfl (by rw [ev5_7]; rfl) (by rw [hnl]; decide) rfl dX10_akinLastYear_60 ?_
        refine go_goto C 16 rfl dX10_akinLastYear_63 ?_
        refine go_sub [2, 3, 4, 5, 1, 0] rfl ?_
        exact ih _ _ _ _ _ _ hw
set_option maxRecDepth 20000 in
set_option maxHeartbeats 4000000 in
theorem spX10_akinLastYear {l : Launch} {G : GT} {d : Nat}  (hd : 3 ≤ d)   {a1 : Int32} {a2 : Int32} {σ : St} {post : Int32 → St → Prop} (hw : wpX10_akinLastYear  a1 a2 σ post) : Sp l G d yX10_akinLastYear cX10_akinLastYear 6 (some .int) [.ref (G.2.2.1 52), .int a1, .int a2] σ (fun v τ => ∃ r : Int32, v = some (.int r) ∧ post r τ) := by
  refine Sp.of (by decide) (by decide) fun X C hr hR hnl => ?_
  show Go X G 0 [(0, .ref (G.2.2.1 52)), (1, .int a1), (2, .int a2)] [] σ
  have hw : ∀ v3_1 : Int32, v3_1 = ((gI σ 9 0) - 1) →
  ∃ n, wbX10_akinLastYear_16 post n a1 a2 v3_1 0 0 σ := hw
  refine go_aload_n C 0 rfl rfl dX10_akinLastYear_0 ?_
  refine go_get (v := .ref (G.2.2.1 9)) C (shX10 G) ltX10 lkX10_37 rfl dX10_akinLastYear_1 ?_
  refine go_get (v := .int (gI σ 9 0)) C (shX4 G) ltX4 lkX10_57 rfl dX10_akinLastYear_4 ?_
  refine go_iconst (v := 1) C rfl dX10_akinLastYear_7 ?_
  refine go_isub C dX10_akinLastYear_8 ?_
  refine go_topi (fun v3_1 ev3_1 => ?_)
  replace hw := hw v3_1 ev3_1
  refine go_istore_n (lv2 := [(3, .int v3_1), (0, .ref (G.2.2.1 52)), (1, .int a1), (2, .int a2)]) C rfl (by rw [hnl]; decide) rfl dX10_akinLastYear_9 ?_
  refine go_iconst (v := 0) C rfl dX10_akinLastYear_10 ?_
  refine go_istore (lv2 := [(4, .int 0), (3, .int v3_1), (0, .ref (G.2.2.1 52)), (1, .int a1), (2, .int a2)]) C (by rw [hnl]; decide) rfl dX10_akinLastYear_11 ?_
  refine go_iconst (v := 0) C rfl dX10_akinLastYear_13 ?_
  refine go_istore (lv2 := [(5, .int 0), (4, .int 0), (3, .int v3_1), (0, .ref (G.2.2.1 52)), (1, .int a1), (2, .int a2)]) C (by rw [hnl]; decide) rfl dX10_akinLastYear_14 ?_
  refine go_sub [3, 4, 5, 2, 1, 0] rfl ?_
  obtain ⟨n_0, hw⟩ := hw
  exact (gbX10_akinLastYear_16 C hr hR hnl hd) n_0 _ _ _ _ _ _ hw
-- CradleNames$Trails.firstLiving()I
def wpX10_firstLiving   (σ : St) (post : Int32 → St → Prop) : Prop :=
  wpJ9_max_7cf53 ((gI σ 9 0) - (gI σ 9 1)) (-40) σ (fun r_1 σ_2 =>
  post r_1 σ_2)
set_option maxRecDepth 20000 in
set_option maxHeartbeats 4000000 in
theorem spX10_firstLiving {l : Launch} {G : GT} {d : Nat}  (hd : 2 ≤ d)    {σ : St} {post : Int32 → St → Prop} (hw : wpX10_firstLiving   σ post) : Sp l G d yX10_firstLiving cX10_firstLiving 1 (some .int) [.ref (G.2.2.1 52)] σ (fun v τ => ∃ r : Int32, v = some (.int r) ∧ post r τ) := by
  refine Sp.of (by decide) (by decide) fun X C hr hR hnl => ?_
  show Go X G 0 [(0, .ref (G.2.2.1 52))] [] σ
  have hw : wpJ9_max_7cf53 ((gI σ 9 0) - (gI σ 9 1)) (-40) σ (fun r_1 σ_2 =>
  post r_1 σ_2) := hw
  refine go_aload_n C 0 rfl rfl dX10_firstLiving_0 ?_
  refine go_get (v := .ref (G.2.2.1 9)) C (shX10 G) ltX10 lkX10_37 rfl dX10_firstLiving_1 ?_
  refine go_get (v := .int (gI σ 9 0)) C (shX4 G) ltX4 lkX10_57 rfl dX10_firstLiving_4 ?_
  refine go_aload_n C 0 rfl rfl dX10_firstLiving_7 ?_
  refine go_get (v := .ref (G.2.2.1 9)) C (shX10 G) ltX10 lkX10_37 rfl dX10_firstLiving_8 ?_
  refine go_get (v := .int (gI σ 9 1)) C (shX4 G) ltX4 lkX10_51 rfl dX10_firstLiving_11 ?_
  refine go_isub C dX10_firstLiving_14 ?_
  refine go_bipush (v := (-40)) C rfl dX10_firstLiving_15 ?_
  refine go_callS (as := [.int ((gI σ 9 0) - (gI σ 9 1)), .int (-40)]) C hR cwX10_118 (Nat.le_trans (by decide) hd) (by decide) rfl rfl (by decide) dX10_firstLiving_17 (spJ9_max_7cf53 (Nat.le_refl _) hw) (fun v_ τ_ hw => ?_)
  obtain ⟨r_1, rfl, hw⟩ := hw
  obtain ⟨σ_2, rfl⟩ : ∃ z, z = τ_ := ⟨_, rfl⟩
  exact go_iret C hr ⟨_, rfl, hw⟩ dX10_firstLiving_20
-- CradleNames$Trails.halfBorn(I)I
def wbX10_halfBorn_32   (post : Int32 → St → Prop) : Nat → Int32 → Int32 → Int32 → Int32 → Int32 → St → Prop
  | 0, _, _, _, _, _, _ => False
  | n + 1, v1, v2, v3, v4, v5, σ =>
    ((v3 ≤ v5 →
      post v3 σ) ∧
    (¬ v3 ≤ v5 →
      wpX0_between 0 6 v1 v2 v5 σ (fun r_1 σ_2 =>
      (((2 * r_1) < v4 →
        ∀ v5_3 : Int32, v5_3 = v5 + 1 →
        wbX10_halfBorn_32 post n v1 v2 v3 v4 v5_3 σ_2) ∧
      (¬ (2 * r_1) < v4 →
        post v5 σ_2)))))
def wpX10_halfBorn  (a1 : Int32) (σ : St) (post : Int32 → St → Prop) : Prop :=
  wpX10_firstLiving  σ (fun r_1 σ_2 =>
  ∀ v3_3 : Int32, v3_3 = ((gI σ_2 9 0) - 1) →
  wpX0_between 0 6 a1 r_1 v3_3 σ_2 (fun r_4 σ_5 =>
  ∃ n, wbX10_halfBorn_32 post n a1 r_1 v3_3 r_4 r_1 σ_5))
set_option maxRecDepth 20000 in
set_option maxHeartbeats 4000000 in
theorem gbX10_halfBorn_32 {X : XT} {G : GT} {l : Launch} {d : Nat}  {post : Int32 → St → Prop} (C : Cx X G cX10_halfBorn RX10) (hr : Rt X G (some .int) (fun v τ => ∃ r : Int32, v = some (.int r) ∧ post r τ)) (hR : Rm X l d) (hnl : X.2.2.2.2.2.2.2.2.2.2.1 = 6)  (hd : 3 ≤ d)   
    : ∀ (n : Nat) (v1 : Int32) (v2 : Int32) (v3 : Int32) (v4 : Int32) (v5 : Int32) (σ : St), wbX10_halfBorn_32   post n v1 v2 v3 v4 v5 σ → Go X G 32 [(0, .ref (G.2.2.1 52)), (1, .int v1), (2, .int v2), (3, .int v3), (4, .int v4), (5, .int v5)] [] σ := by
  intro n
  induction n with
  | zero => intro v1 v2 v3 v4 v5 σ hw; exact hw.elim
  | succ n ih =>
    intro v1 v2 v3 v4 v5 σ hw
    have hw : ((v3 ≤ v5 →
      post v3 σ) ∧
    (¬ v3 ≤ v5 →
      wpX0_between 0 6 v1 v2 v5 σ (fun r_1 σ_2 =>
      (((2 * r_1) < v4 →
        ∀ v5_3 : Int32, v5_3 = v5 + 1 →
        wbX10_halfBorn_32 post n v1 v2 v3 v4 v5_3 σ_2) ∧
      (¬ (2 * r_1) < v4 →
        post v5 σ_2))))) := hw
    refine go_iload C 5 rfl dX10_halfBorn_32 ?_
    refine go_iload_n C 3 rfl rfl dX10_halfBorn_34 ?_
    refine go_icmp_ge C 67 rfl dX10_halfBorn_35 (fun hc => ?_) (fun hc => ?_)
    · replace hw := hw.1 hc
      refine go_iload_n C 3 rfl rfl dX10_halfBorn_67 ?_
      exact go_iret C hr ⟨_, rfl, hw⟩ dX10_halfBorn_68
    · replace hw := hw.2 hc
      refine go_iconst (v := 2) C rfl dX10_halfBorn_38 ?_
      refine go_aload_n C 0 rfl rfl dX10_halfBorn_39 ?_
      refine go_get (v := .ref (G.2.2.1 (21 + 4 * 0))) C (shX10 G) ltX10 lkX10_41 rfl dX10_halfBorn_40 ?_
      refine go_bipush (v := 6) C rfl dX10_halfBorn_43 ?_
      refine go_iload_n C 1 rfl rfl dX10_halfBorn_45 ?_
      refine go_iload_n C 2 rfl rfl dX10_halfBorn_46 ?_
      refine go_iload C 5 rfl dX10_halfBorn_47 ?_
      refine go_callV (as := [.int 6, .int v1, .int v2, .int v5]) C hR (shX0 G (show 0 < 2 by decide)) (ltX0 (show 0 < 2 by decide)) cwX10_45 (Nat.le_trans (by decide) hd) (by decide) rfl rfl (by decide) dX10_halfBorn_49 (spX0_between (Nat.le_refl _) (show 0 < 2 by decide) hw) (fun v_ τ_ hw => ?_)
      obtain ⟨r_1, rfl, hw⟩ := hw
      obtain ⟨σ_2, rfl⟩ : ∃ z, z = τ_ := ⟨_, rfl⟩
      refine go_imul C dX10_halfBorn_52 ?_
      refine go_iload C 4 rfl dX10_halfBorn_53 ?_
      refine go_icmp_lt C 61 rfl dX10_halfBorn_55 (fun hc => ?_) (fun hc => ?_)
      · replace hw := hw.1 hc
        obtain ⟨v5_3, ev5_3⟩ : ∃ z : Int32, z = v5 + 1 := ⟨_, rfl⟩
        replace hw := hw v5_3 ev5_3
        refine go_iinc (v := v5_3) (lv2 := [(5, .int v5_3), (0, .ref (G.2.2.1 52)), (1, .int v1), (2, .int v2), (3, .int v3), (4, .int v4)]) C 5 rfl (by rw [ev5_3]; rfl) (by rw [hnl]; decide) rfl dX10_halfBorn_61 ?_
        refine go_goto C 32 rfl dX10_halfBorn_64 ?_
        refine go_sub [1, 2, 3, 4, 5, 0] rfl ?_
        exact ih _ _ _ _ _ _ hw
      · replace hw := hw.2 hc
        refine go_iload C 5 rfl dX10_halfBorn_58 ?_
        exact go_iret C hr ⟨_, rfl, hw⟩ dX10_halfBorn_60
set_option maxRecDepth 20000 in
set_option maxHeartbeats 4000000 in
theorem spX10_halfBorn {l : Launch} {G : GT} {d : Nat}  (hd : 3 ≤ d)   {a1 : Int32} {σ : St} {post : Int32 → St → Prop} (hw : wpX10_halfBorn  a1 σ post) : Sp l G d yX10_halfBorn cX10_halfBorn 6 (some .int) [.ref (G.2.2.1 52), .int a1] σ (fun v τ => ∃ r : Int32, v = some (.int r) ∧ post r τ) := by
  refine Sp.of (by decide) (by decide) fun X C hr hR hnl => ?_
  show Go X G 0 [(0, .ref (G.2.2.1 52)), (1, .int a1)] [] σ
  have hw : wpX10_firstLiving  σ (fun r_1 σ_2 =>
  ∀ v3_3 : Int32, v3_3 = ((gI σ_2 9 0) - 1) →
  wpX0_between 0 6 a1 r_1 v3_3 σ_2 (fun r_4 σ_5 =>
  ∃ n, wbX10_halfBorn_32 post n a1 r_1 v3_3 r_4 r_1 σ_5)) := hw
  refine go_aload_n C 0 rfl rfl dX10_halfBorn_0 ?_
  refine go_callV (as := []) C hR (shX10 G) ltX10 cwX10_121 (Nat.le_trans (by decide) hd) (by decide) rfl rfl (by decide) dX10_halfBorn_1 (spX10_firstLiving (Nat.le_refl _) hw) (fun v_ τ_ hw => ?_)
  obtain ⟨r_1, rfl, hw⟩ := hw
  obtain ⟨σ_2, rfl⟩ : ∃ z, z = τ_ := ⟨_, rfl⟩
  refine go_istore_n (lv2 := [(2, .int r_1), (0, .ref (G.2.2.1 52)), (1, .int a1)]) C rfl (by rw [hnl]; decide) rfl dX10_halfBorn_4 ?_
  refine go_aload_n C 1 rfl rfl dX10_halfBorn_5 ?_
  refine go_get (v := .ref (G.2.2.1 9)) C (shX10 G) ltX10 lkX10_37 rfl dX10_halfBorn_6 ?_
  refine go_get (v := .int (gI σ_2 9 0)) C (shX4 G) ltX4 lkX10_57 rfl dX10_halfBorn_9 ?_
  refine go_iconst (v := 1) C rfl dX10_halfBorn_12 ?_
  refine go_isub C dX10_halfBorn_13 ?_
  refine go_topi (fun v3_3 ev3_3 => ?_)
  replace hw := hw v3_3 ev3_3
  refine go_istore_n (lv2 := [(3, .int v3_3), (2, .int r_1), (0, .ref (G.2.2.1 52)), (1, .int a1)]) C rfl (by rw [hnl]; decide) rfl dX10_halfBorn_14 ?_
  refine go_aload_n C 2 rfl rfl dX10_halfBorn_15 ?_
  refine go_get (v := .ref (G.2.2.1 (21 + 4 * 0))) C (shX10 G) ltX10 lkX10_41 rfl dX10_halfBorn_16 ?_
  refine go_bipush (v := 6) C rfl dX10_halfBorn_19 ?_
  refine go_iload_n C 3 rfl rfl dX10_halfBorn_21 ?_
  refine go_iload_n C 1 rfl rfl dX10_halfBorn_22 ?_
  refine go_iload_n C 0 rfl rfl dX10_halfBorn_23 ?_
  refine go_callV (as := [.int 6, .int a1, .int r_1, .int v3_3]) C hR (shX0 G (show 0 < 2 by decide)) (ltX0 (show 0 < 2 by decide)) cwX10_45 (Nat.le_trans (by decide) hd) (by decide) rfl rfl (by decide) dX10_halfBorn_24 (spX0_between (Nat.le_refl _) (show 0 < 2 by decide) hw) (fun v_ τ_ hw => ?_)
  obtain ⟨r_4, rfl, hw⟩ := hw
  obtain ⟨σ_5, rfl⟩ : ∃ z, z = τ_ := ⟨_, rfl⟩
  refine go_istore (lv2 := [(4, .int r_4), (3, .int v3_3), (2, .int r_1), (0, .ref (G.2.2.1 52)), (1, .int a1)]) C (by rw [hnl]; decide) rfl dX10_halfBorn_27 ?_
  refine go_iload_n C 2 rfl rfl dX10_halfBorn_29 ?_
  refine go_istore (lv2 := [(5, .int r_1), (4, .int r_4), (3, .int v3_3), (2, .int r_1), (0, .ref (G.2.2.1 52)), (1, .int a1)]) C (by rw [hnl]; decide) rfl dX10_halfBorn_30 ?_
  refine go_sub [4, 5, 3, 2, 1, 0] rfl ?_
  obtain ⟨n_0, hw⟩ := hw
  exact (gbX10_halfBorn_32 C hr hR hnl hd) n_0 _ _ _ _ _ _ hw
-- CradleNames$Trails.spanStart(III)I
def wbX10_spanStart_34   (post : Int32 → St → Prop) : Nat → Int32 → Int32 → Int32 → Int64 → Int32 → St → Prop
  | 0, _, _, _, _, _, _ => False
  | n + 1, v1, v2, v3, v5, v7, σ =>
    (((gI σ 9 0) < (v7 + v3) →
      post (-1000) σ) ∧
    (¬ (gI σ 9 0) < (v7 + v3) →
      wpX0_between 0 6 v1 v7 ((v7 + v3) - 1) σ (fun r_1 σ_2 =>
      (((r_1.toInt64 * 100) < (v2.toInt64 * v5) →
        ∀ v7_3 : Int32, v7_3 = v7 + 1 →
        wbX10_spanStart_34 post n v1 v2 v3 v5 v7_3 σ_2) ∧
      (¬ (r_1.toInt64 * 100) < (v2.toInt64 * v5) →
        post v7 σ_2)))))
def wpX10_spanStart  (a1 : Int32) (a2 : Int32) (a3 : Int32) (σ : St) (post : Int32 → St → Prop) : Prop :=
  wpX10_firstLiving  σ (fun r_1 σ_2 =>
  wpX0_between 0 6 a1 r_1 ((gI σ_2 9 0) - 1) σ_2 (fun r_3 σ_4 =>
  ∀ v5_5 : Int64, v5_5 = r_3.toInt64 →
  ∃ n, wbX10_spanStart_34 post n a1 a2 a3 v5_5 r_1 σ_4))
set_option maxRecDepth 20000 in
set_option maxHeartbeats 4000000 in
theorem gbX10_spanStart_34 {X : XT} {G : GT} {l : Launch} {d : Nat}  {post : Int32 → St → Prop} (C : Cx X G cX10_spanStart RX10) (hr : Rt X G (some .int) (fun v τ => ∃ r : Int32, v = some (.int r) ∧ post r τ)) (hR : Rm X l d) (hnl : X.2.2.2.2.2.2.2.2.2.2.1 = 8)  (hd : 3 ≤ d)   
    : ∀ (n : Nat) (v1 : Int32) (v2 : Int32) (v3 : Int32) (v5 : Int64) (v7 : Int32) (σ : St), wbX10_spanStart_34   post n v1 v2 v3 v5 v7 σ → Go X G 34 [(0, .ref (G.2.2.1 52)), (1, .int v1), (2, .int v2), (3, .int v3), (5, .long v5), (7, .int v7)] [] σ := by
  intro n
  induction n with
  | zero => intro v1 v2 v3 v5 v7 σ hw; exact hw.elim
  | succ n ih =>
    intro v1 v2 v3 v5 v7 σ hw
    have hw : (((gI σ 9 0) < (v7 + v3) →
      post (-1000) σ) ∧
    (¬ (gI σ 9 0) < (v7 + v3) →
      wpX0_between 0 6 v1 v7 ((v7 + v3) - 1) σ (fun r_1 σ_2 =>
      (((r_1.toInt64 * 100) < (v2.toInt64 * v5) →
        ∀ v7_3 : Int32, v7_3 = v7 + 1 →
        wbX10_spanStart_34 post n v1 v2 v3 v5 v7_3 σ_2) ∧
      (¬ (r_1.toInt64 * 100) < (v2.toInt64 * v5) →
        post v7 σ_2))))) := hw
    refine go_iload C 5 rfl dX10_spanStart_34 ?_
    refine go_iload_n C 3 rfl rfl dX10_spanStart_36 ?_
    refine go_iadd C dX10_spanStart_37 ?_
    refine go_aload_n C 0 rfl rfl dX10_spanStart_38 ?_
    refine go_get (v := .ref (G.2.2.1 9)) C (shX10 G) ltX10 lkX10_37 rfl dX10_spanStart_39 ?_
    refine go_get (v := .int (gI σ 9 0)) C (shX4 G) ltX4 lkX10_57 rfl dX10_spanStart_42 ?_
    refine go_icmp_gt C 89 rfl dX10_spanStart_45 (fun hc => ?_) (fun hc => ?_)
    · replace hw := hw.1 hc
      refine go_sipush (v := (-1000)) C rfl dX10_spanStart_89 ?_
      exact go_iret C hr ⟨_, rfl, hw⟩ dX10_spanStart_92
    · replace hw := hw.2 hc
      refine go_aload_n C 0 rfl rfl dX10_spanStart_48 ?_
      refine go_get (v := .ref (G.2.2.1 (21 + 4 * 0))) C (shX10 G) ltX10 lkX10_41 rfl dX10_spanStart_49 ?_
      refine go_bipush (v := 6) C rfl dX10_spanStart_52 ?_
      refine go_iload_n C 1 rfl rfl dX10_spanStart_54 ?_
      refine go_iload C 5 rfl dX10_spanStart_55 ?_
      refine go_iload C 5 rfl dX10_spanStart_57 ?_
      refine go_iload_n C 3 rfl rfl dX10_spanStart_59 ?_
      refine go_iadd C dX10_spanStart_60 ?_
      refine go_iconst (v := 1) C rfl dX10_spanStart_61 ?_
      refine go_isub C dX10_spanStart_62 ?_
      refine go_callV (as := [.int 6, .int v1, .int v7, .int ((v7 + v3) - 1)]) C hR (shX0 G (show 0 < 2 by decide)) (ltX0 (show 0 < 2 by decide)) cwX10_45 (Nat.le_trans (by decide) hd) (by decide) rfl rfl (by decide) dX10_spanStart_63 (spX0_between (Nat.le_refl _) (show 0 < 2 by decide) hw) (fun v_ τ_ hw => ?_)
      obtain ⟨r_1, rfl, hw⟩ := hw
      obtain ⟨σ_2, rfl⟩ : ∃ z, z = τ_ := ⟨_, rfl⟩
      refine go_i2l C dX10_spanStart_66 ?_
      refine go_ldc2 (v := 100) C kcX10_128 dX10_spanStart_67 ?_
      refine go_lmul C dX10_spanStart_70 ?_
      refine go_iload_n C 2 rfl rfl dX10_spanStart_71 ?_
      refine go_i2l C dX10_spanStart_72 ?_
      refine go_lload C 4 rfl dX10_spanStart_73 ?_
      refine go_lmul C dX10_spanStart_75 ?_
      refine go_lc_lt C 83 rfl dX10_spanStart_76 dX10_spanStart_77 (fun hc => ?_) (fun hc => ?_)
      · replace hw := hw.1 hc
        obtain ⟨v7_3, ev7_3⟩ : ∃ z : Int32, z = v7 + 1 := ⟨_, rfl⟩
        replace hw := hw v7_3 ev7_3
        refine go_iinc (v := v7_3) (lv2 := [(7, .int v7_3), (0, .ref (G.2.2.1 52)), (1, .int v1), (2, .int v2), (3, .int v3), (5, .long v5)]) C 5 rfl (by rw [ev7_3]; rfl) (by rw [hnl]; decide) rfl dX10_spanStart_83 ?_
        refine go_goto C 34 rfl dX10_spanStart_86 ?_
        refine go_sub [1, 2, 3, 4, 5, 0] rfl ?_
        exact ih _ _ _ _ _ _ hw
      · replace hw := hw.2 hc
        refine go_iload C 5 rfl dX10_spanStart_80 ?_
        exact go_iret C hr ⟨_, rfl, hw⟩ dX10_spanStart_82
set_option maxRecDepth 20000 in
set_option maxHeartbeats 4000000 in
theorem spX10_spanStart {l : Launch} {G : GT} {d : Nat}  (hd : 3 ≤ d)   {a1 : Int32} {a2 : Int32} {a3 : Int32} {σ : St} {post : Int32 → St → Prop} (hw : wpX10_spanStart  a1 a2 a3 σ post) : Sp l G d yX10_spanStart cX10_spanStart 8 (some .int) [.ref (G.2.2.1 52), .int a1, .int a2, .int a3] σ (fun v τ => ∃ r : Int32, v = some (.int r) ∧ post r τ) := by
  refine Sp.of (by decide) (by decide) fun X C hr hR hnl => ?_
  show Go X G 0 [(0, .ref (G.2.2.1 52)), (1, .int a1), (2, .int a2), (3, .int a3)] [] σ
  have hw : wpX10_firstLiving  σ (fun r_1 σ_2 =>
  wpX0_between 0 6 a1 r_1 ((gI σ_2 9 0) - 1) σ_2 (fun r_3 σ_4 =>
  ∀ v5_5 : Int64, v5_5 = r_3.toInt64 →
  ∃ n, wbX10_spanStart_34 post n a1 a2 a3 v5_5 r_1 σ_4)) := hw
  refine go_aload_n C 0 rfl rfl dX10_spanStart_0 ?_
  refine go_callV (as := []) C hR (shX10 G) ltX10 cwX10_121 (Nat.le_trans (by decide) hd) (by decide) rfl rfl (by decide) dX10_spanStart_1 (spX10_firstLiving (Nat.le_refl _) hw) (fun v_ τ_ hw => ?_)
  obtain ⟨r_1, rfl, hw⟩ := hw
  obtain ⟨σ_2, rfl⟩ : ∃ z, z = τ_ := ⟨_, rfl⟩
  refine go_istore (lv2 := [(4, .int r_1), (0, .ref (G.2.2.1 52)), (1, .int a1), (2, .int a2), (3, .int a3)]) C (by rw [hnl]; decide) rfl dX10_spanStart_4 ?_
  refine go_aload_n C 1 rfl rfl dX10_spanStart_6 ?_
  refine go_get (v := .ref (G.2.2.1 (21 + 4 * 0))) C (shX10 G) ltX10 lkX10_41 rfl dX10_spanStart_7 ?_
  refine go_bipush (v := 6) C rfl dX10_spanStart_10 ?_
  refine go_iload_n C 2 rfl rfl dX10_spanStart_12 ?_
  refine go_iload C 0 rfl dX10_spanStart_13 ?_
  refine go_aload_n C 1 rfl rfl dX10_spanStart_15 ?_
  refine go_get (v := .ref (G.2.2.1 9)) C (shX10 G) ltX10 lkX10_37 rfl dX10_spanStart_16 ?_
  refine go_get (v := .int (gI σ_2 9 0)) C (shX4 G) ltX4 lkX10_57 rfl dX10_spanStart_19 ?_
  refine go_iconst (v := 1) C rfl dX10_spanStart_22 ?_
  refine go_isub C dX10_spanStart_23 ?_
  refine go_callV (as := [.int 6, .int a1, .int r_1, .int ((gI σ_2 9 0) - 1)]) C hR (shX0 G (show 0 < 2 by decide)) (ltX0 (show 0 < 2 by decide)) cwX10_45 (Nat.le_trans (by decide) hd) (by decide) rfl rfl (by decide) dX10_spanStart_24 (spX0_between (Nat.le_refl _) (show 0 < 2 by decide) hw) (fun v_ τ_ hw => ?_)
  obtain ⟨r_3, rfl, hw⟩ := hw
  obtain ⟨σ_4, rfl⟩ : ∃ z, z = τ_ := ⟨_, rfl⟩
  refine go_i2l C dX10_spanStart_27 ?_
  refine go_topl (fun v5_5 ev5_5 => ?_)
  replace hw := hw v5_5 ev5_5
  refine go_lstore (lv2 := [(5, .long v5_5), (4, .int r_1), (0, .ref (G.2.2.1 52)), (1, .int a1), (2, .int a2), (3, .int a3)]) C (by rw [hnl]; decide) rfl dX10_spanStart_28 ?_
  refine go_iload C 1 rfl dX10_spanStart_30 ?_
  refine go_istore (lv2 := [(7, .int r_1), (5, .long v5_5), (4, .int r_1), (0, .ref (G.2.2.1 52)), (1, .int a1), (2, .int a2), (3, .int a3)]) C (by rw [hnl]; decide) rfl dX10_spanStart_32 ?_
  refine go_sub [3, 4, 5, 6, 1, 0] rfl ?_
  obtain ⟨n_0, hw⟩ := hw
  exact (gbX10_spanStart_34 C hr hR hnl hd) n_0 _ _ _ _ _ _ hw
