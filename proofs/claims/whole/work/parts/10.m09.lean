-- CradleNamesModel.guess(I)I
def wbX12_guess_18   (post : Int32 → St → Prop) : Nat → Int32 → Int32 → Int32 → St → Prop
  | 0, _, _, _, _ => False
  | n + 1, v1, v2, v3, σ =>
    ((3 ≤ v3 →
      post v2 σ) ∧
    (¬ 3 ≤ v3 →
      wpX12_livingIn v3 v1 σ (fun r_1 σ_2 =>
      ((r_1 ≤ 0 →
        ∀ v3_3 : Int32, v3_3 = v3 + 1 →
        wbX12_guess_18 post n v1 v2 v3_3 σ_2) ∧
      (¬ r_1 ≤ 0 →
        ((v2 = (-1) →
          ∀ v3_4 : Int32, v3_4 = v3 + 1 →
          wbX12_guess_18 post n v1 v3 v3_4 σ_2) ∧
        (¬ v2 = (-1) →
          wpX12_livingIn v2 (-1) σ_2 (fun r_5 σ_6 =>
          wpX12_livingIn v2 v1 σ_6 (fun r_7 σ_8 =>
          wpX12_livingIn v3 (-1) σ_8 (fun r_9 σ_10 =>
          (((r_1 * r_5) ≤ (r_7 * r_9) →
            ∀ v3_11 : Int32, v3_11 = v3 + 1 →
            wbX12_guess_18 post n v1 v2 v3_11 σ_10) ∧
          (¬ (r_1 * r_5) ≤ (r_7 * r_9) →
            ∀ v3_12 : Int32, v3_12 = v3 + 1 →
            wbX12_guess_18 post n v1 v3 v3_12 σ_10))))))))))))
def wpX12_guess  (a1 : Int32) (σ : St) (post : Int32 → St → Prop) : Prop :=
  wpX12_isName a1 σ (fun r_1 σ_2 =>
  ((¬ r_1 = 0 →
    wpX12_runsAll  σ_2 (fun σ_4 =>
    ∃ n, wbX12_guess_18 post n a1 (-1) 0 σ_4)) ∧
  (r_1 = 0 →
    post (-1) σ_2)))
set_option maxRecDepth 20000 in
set_option maxHeartbeats 4000000 in
theorem gbX12_guess_18 {X : XT} {G : GT} {l : Launch} {d : Nat}  {post : Int32 → St → Prop} (C : Cx X G cX12_guess RX12) (hr : Rt X G (some .int) (fun v τ => ∃ r : Int32, v = some (.int r) ∧ post r τ)) (hR : Rm X l d) (hnl : X.2.2.2.2.2.2.2.2.2.2.1 = 6)  (hd : 10 ≤ d)   
    : ∀ (n : Nat) (v1 : Int32) (v2 : Int32) (v3 : Int32) (σ : St), wbX12_guess_18   post n v1 v2 v3 σ → Go X G 18 [(0, .ref (G.2.2.1 75)), (1, .int v1), (2, .int v2), (3, .int v3)] [] σ := by
  intro n
  induction n with
  | zero => intro v1 v2 v3 σ hw; exact hw.elim
  | succ n ih =>
    intro v1 v2 v3 σ hw
    have hw : ((3 ≤ v3 →
      post v2 σ) ∧
    (¬ 3 ≤ v3 →
      wpX12_livingIn v3 v1 σ (fun r_1 σ_2 =>
      ((r_1 ≤ 0 →
        ∀ v3_3 : Int32, v3_3 = v3 + 1 →
        wbX12_guess_18 post n v1 v2 v3_3 σ_2) ∧
      (¬ r_1 ≤ 0 →
        ((v2 = (-1) →
          ∀ v3_4 : Int32, v3_4 = v3 + 1 →
          wbX12_guess_18 post n v1 v3 v3_4 σ_2) ∧
        (¬ v2 = (-1) →
          wpX12_livingIn v2 (-1) σ_2 (fun r_5 σ_6 =>
          wpX12_livingIn v2 v1 σ_6 (fun r_7 σ_8 =>
          wpX12_livingIn v3 (-1) σ_8 (fun r_9 σ_10 =>
          (((r_1 * r_5) ≤ (r_7 * r_9) →
            ∀ v3_11 : Int32, v3_11 = v3 + 1 →
            wbX12_guess_18 post n v1 v2 v3_11 σ_10) ∧
          (¬ (r_1 * r_5) ≤ (r_7 * r_9) →
            ∀ v3_12 : Int32, v3_12 = v3 + 1 →
            wbX12_guess_18 post n v1 v3 v3_12 σ_10)))))))))))) := hw
    refine go_iload_n C 3 rfl rfl dX12_guess_18 ?_
    refine go_iconst (v := 3) C rfl dX12_guess_19 ?_
    refine go_icmp_ge C 77 rfl dX12_guess_20 (fun hc => ?_) (fun hc => ?_)
    · replace hw := hw.1 hc
      refine go_iload_n C 2 rfl rfl dX12_guess_77 ?_
      exact go_iret C hr ⟨_, rfl, hw⟩ dX12_guess_78
    · replace hw := hw.2 hc
      refine go_aload_n C 0 rfl rfl dX12_guess_23 ?_
      refine go_iload_n C 3 rfl rfl dX12_guess_24 ?_
      refine go_iload_n C 1 rfl rfl dX12_guess_25 ?_
      refine go_callV (as := [.int v3, .int v1]) C hR (shX12 G) ltX12 cwX12_509 (Nat.le_trans (by decide) hd) (by decide) rfl rfl (by decide) dX12_guess_26 (spX12_livingIn (Nat.le_refl _) hw) (fun v_ τ_ hw => ?_)
      obtain ⟨r_1, rfl, hw⟩ := hw
      obtain ⟨σ_2, rfl⟩ : ∃ z, z = τ_ := ⟨_, rfl⟩
      refine go_lstore (lv2 := [(4, .long r_1), (0, .ref (G.2.2.1 75)), (1, .int v1), (2, .int v2), (3, .int v3)]) C (by rw [hnl]; decide) rfl dX12_guess_29 ?_
      refine go_lload C 0 rfl dX12_guess_31 ?_
      refine go_lconst (v := 0) C rfl dX12_guess_33 ?_
      refine go_lc_le C 71 rfl dX12_guess_34 dX12_guess_35 (fun hc => ?_) (fun hc => ?_)
      · replace hw := hw.1 hc
        obtain ⟨v3_3, ev3_3⟩ : ∃ z : Int32, z = v3 + 1 := ⟨_, rfl⟩
        replace hw := hw v3_3 ev3_3
        refine go_iinc (v := v3_3) (lv2 := [(3, .int v3_3), (4, .long r_1), (0, .ref (G.2.2.1 75)), (1, .int v1), (2, .int v2)]) C 4 rfl (by rw [ev3_3]; rfl) (by rw [hnl]; decide) rfl dX12_guess_71 ?_
        refine go_goto C 18 rfl dX12_guess_74 ?_
        refine go_sub [2, 3, 4, 0] rfl ?_
        exact ih _ _ _ _ hw
      · replace hw := hw.2 hc
        refine go_iload_n C 3 rfl rfl dX12_guess_38 ?_
        refine go_iconst (v := (-1)) C rfl dX12_guess_39 ?_
        refine go_icmp_eq C 69 rfl dX12_guess_40 (fun hc => ?_) (fun hc => ?_)
        · replace hw := hw.1 hc
          refine go_iload_n C 4 rfl rfl dX12_guess_69 ?_
          refine go_istore_n (lv2 := [(2, .int v3), (4, .long r_1), (0, .ref (G.2.2.1 75)), (1, .int v1), (3, .int v3)]) C rfl (by rw [hnl]; decide) rfl dX12_guess_70 ?_
          obtain ⟨v3_4, ev3_4⟩ : ∃ z : Int32, z = v3 + 1 := ⟨_, rfl⟩
          replace hw := hw v3_4 ev3_4
          refine go_iinc (v := v3_4) (lv2 := [(3, .int v3_4), (2, .int v3), (4, .long r_1), (0, .ref (G.2.2.1 75)), (1, .int v1)]) C 4 rfl (by rw [ev3_4]; rfl) (by rw [hnl]; decide) rfl dX12_guess_71 ?_
          refine go_goto C 18 rfl dX12_guess_74 ?_
          refine go_sub [3, 4, 1, 0] rfl ?_
          exact ih _ _ _ _ hw
        · replace hw := hw.2 hc
          refine go_lload C 0 rfl dX12_guess_43 ?_
          refine go_aload_n C 1 rfl rfl dX12_guess_45 ?_
          refine go_iload_n C 3 rfl rfl dX12_guess_46 ?_
          refine go_iconst (v := (-1)) C rfl dX12_guess_47 ?_
          refine go_callV (as := [.int v2, .int (-1)]) C hR (shX12 G) ltX12 cwX12_509 (Nat.le_trans (by decide) hd) (by decide) rfl rfl (by decide) dX12_guess_48 (spX12_livingIn (Nat.le_refl _) hw) (fun v_ τ_ hw => ?_)
          obtain ⟨r_5, rfl, hw⟩ := hw
          obtain ⟨σ_6, rfl⟩ : ∃ z, z = τ_ := ⟨_, rfl⟩
          refine go_lmul C dX12_guess_51 ?_
          refine go_aload_n C 1 rfl rfl dX12_guess_52 ?_
          refine go_iload_n C 3 rfl rfl dX12_guess_53 ?_
          refine go_iload_n C 2 rfl rfl dX12_guess_54 ?_
          refine go_callV (as := [.int v2, .int v1]) C hR (shX12 G) ltX12 cwX12_509 (Nat.le_trans (by decide) hd) (by decide) rfl rfl (by decide) dX12_guess_55 (spX12_livingIn (Nat.le_refl _) hw) (fun v_ τ_ hw => ?_)
          obtain ⟨r_7, rfl, hw⟩ := hw
          obtain ⟨σ_8, rfl⟩ : ∃ z, z = τ_ := ⟨_, rfl⟩
          refine go_aload_n C 1 rfl rfl dX12_guess_58 ?_
          refine go_iload_n C 4 rfl rfl dX12_guess_59 ?_
          refine go_iconst (v := (-1)) C rfl dX12_guess_60 ?_
          refine go_callV (as := [.int v3, .int (-1)]) C hR (shX12 G) ltX12 cwX12_509 (Nat.le_trans (by decide) hd) (by decide) rfl rfl (by decide) dX12_guess_61 (spX12_livingIn (Nat.le_refl _) hw) (fun v_ τ_ hw => ?_)
          obtain ⟨r_9, rfl, hw⟩ := hw
          obtain ⟨σ_10, rfl⟩ : ∃ z, z = τ_ := ⟨_, rfl⟩
          refine go_lmul C dX12_guess_64 ?_
          refine go_lc_le C 71 rfl dX12_guess_65 dX12_guess_66 (fun hc => ?_) (fun hc => ?_)
          · replace hw := hw.1 hc
            obtain ⟨v3_11, ev3_11⟩ : ∃ z : Int32, z = v3 + 1 := ⟨_, rfl⟩
            replace hw := hw v3_11 ev3_11
            refine go_iinc (v := v3_11) (lv2 := [(3, .int v3_11), (4, .long r_1), (0, .ref (G.2.2.1 75)), (1, .int v1), (2, .int v2)]) C 4 rfl (by rw [ev3_11]; rfl) (by rw [hnl]; decide) rfl dX12_guess_71 ?_
            refine go_goto C 18 rfl dX12_guess_74 ?_
            refine go_sub [2, 3, 4, 0] rfl ?_
            exact ih _ _ _ _ hw
          · replace hw := hw.2 hc
            refine go_iload_n C 4 rfl rfl dX12_guess_69 ?_
            refine go_istore_n (lv2 := [(2, .int v3), (4, .long r_1), (0, .ref (G.2.2.1 75)), (1, .int v1), (3, .int v3)]) C rfl (by rw [hnl]; decide) rfl dX12_guess_70 ?_
            obtain ⟨v3_12, ev3_12⟩ : ∃ z : Int32, z = v3 + 1 := ⟨_, rfl⟩
            replace hw := hw v3_12 ev3_12
            refine go_iinc (v := v3_12) (lv2 := [(3, .int v3_12), (2, .int v3), (4, .long r_1), (0, .ref (G.2.2.1 75)), (1, .int v1)]) C 4 rfl (by rw [ev3_12]; rfl) (by rw [hnl]; decide) rfl dX12_guess_71 ?_
            refine go_goto C 18 rfl dX12_guess_74 ?_
            refine go_sub [3, 4, 1, 0] rfl ?_
            exact ih _ _ _ _ hw
set_option maxRecDepth 20000 in
set_option maxHeartbeats 4000000 in
theorem spX12_guess {l : Launch} {G : GT} {d : Nat}  (hd : 10 ≤ d)   {a1 : Int32} {σ : St} {post : Int32 → St → Prop} (hw : wpX12_guess  a1 σ post) : Sp l G d yX12_guess cX12_guess 6 (some .int) [.ref (G.2.2.1 75), .int a1] σ (fun v τ => ∃ r : Int32, v = some (.int r) ∧ post r τ) := by
  refine Sp.of (by decide) (by decide) fun X C hr hR hnl => ?_
  show Go X G 0 [(0, .ref (G.2.2.1 75)), (1, .int a1)] [] σ
  have hw : wpX12_isName a1 σ (fun r_1 σ_2 =>
  ((¬ r_1 = 0 →
    wpX12_runsAll  σ_2 (fun σ_4 =>
    ∃ n, wbX12_guess_18 post n a1 (-1) 0 σ_4)) ∧
  (r_1 = 0 →
    post (-1) σ_2))) := hw
  refine go_aload_n C 0 rfl rfl dX12_guess_0 ?_
  refine go_iload_n C 1 rfl rfl dX12_guess_1 ?_
  refine go_callV (as := [.int a1]) C hR (shX12 G) ltX12 cwX12_182 (Nat.le_trans (by decide) hd) (by decide) rfl rfl (by decide) dX12_guess_2 (spX12_isName (Nat.le_refl _) hw) (fun v_ τ_ hw => ?_)
  obtain ⟨r_1, rfl, hw⟩ := hw
  obtain ⟨σ_2, rfl⟩ : ∃ z, z = τ_ := ⟨_, rfl⟩
  refine go_if_ne C 10 rfl dX12_guess_5 (fun hc => ?_) (fun hc => ?_)
  · replace hw := hw.1 hc
    refine go_aload_n C 0 rfl rfl dX12_guess_10 ?_
    refine go_callV (as := []) C hR (shX12 G) ltX12 cwX12_464 (Nat.le_trans (by decide) hd) (by decide) rfl rfl (by decide) dX12_guess_11 (spX12_runsAll (Nat.le_refl _) hw) (fun v_ τ_ hw => ?_)
    obtain ⟨rfl, hw⟩ := hw
    obtain ⟨σ_4, rfl⟩ : ∃ z, z = τ_ := ⟨_, rfl⟩
    refine go_iconst (v := (-1)) C rfl dX12_guess_14 ?_
    refine go_istore_n (lv2 := [(2, .int (-1)), (0, .ref (G.2.2.1 75)), (1, .int a1)]) C rfl (by rw [hnl]; decide) rfl dX12_guess_15 ?_
    refine go_iconst (v := 0) C rfl dX12_guess_16 ?_
    refine go_istore_n (lv2 := [(3, .int 0), (2, .int (-1)), (0, .ref (G.2.2.1 75)), (1, .int a1)]) C rfl (by rw [hnl]; decide) rfl dX12_guess_17 ?_
    refine go_sub [2, 3, 1, 0] rfl ?_
    obtain ⟨n_0, hw⟩ := hw
    exact (gbX12_guess_18 C hr hR hnl hd) n_0 _ _ _ _ hw
  · replace hw := hw.2 hc
    refine go_iconst (v := (-1)) C rfl dX12_guess_8 ?_
    exact go_iret C hr ⟨_, rfl, hw⟩ dX12_guess_9
-- CradleNamesModel.adds(III)V
def wbX12_adds_68  (K14 : Int32 → Int32 → Int32 → Int64 → Int32 → St → Prop) (post : St → Prop) (v2 : Int32) (v3 : Int32) (v4 : Int32) (v7 : Int32) (s0 : Int64) (s1 : Int64) (σ : St) : Prop :=
  ∀ v8_1 : Int64, v8_1 = (s1 + s0) →
  vp_in ((30 * v4) + v7) 2400 ∧ (
  ∀ σ_2 : St, σ_2 = sL σ 114 ((30 * v4) + v7).toNatClampNeg (v8_1 - v8_1 / 1000000000 * 1000000000) →
  ∀ v5_3 : Int64, v5_3 = (v8_1 / 1000000000) →
  ∀ v7_4 : Int32, v7_4 = v7 + 1 →
  K14 v2 v3 v4 v5_3 v7_4 σ_2)
def wbX12_adds_14  (K3 : Int32 → Int32 → Int32 → St → Prop) (post : St → Prop) : Nat → Int32 → Int32 → Int32 → Int64 → Int32 → St → Prop
  | 0, _, _, _, _, _, _ => False
  | n + 1, v2, v3, v4, v5, v7, σ =>
    ((30 ≤ v7 →
      ∀ v4_1 : Int32, v4_1 = v4 + (-1) →
      K3 v2 v3 v4_1 σ) ∧
    (¬ 30 ≤ v7 →
      vp_in ((30 * v4) + v7) 2400 ∧ (
      ((v4 ≤ 0 →
        wbX12_adds_68 (wbX12_adds_14 K3 post n) post v2 v3 v4 v7 0 (((gL σ 114 ((30 * v4) + v7).toNatClampNeg) * v3.toInt64) + v5) σ) ∧
      (¬ v4 ≤ 0 →
        vp_in (((30 * v4) - 30) + v7) 2400 ∧ (
        wbX12_adds_68 (wbX12_adds_14 K3 post n) post v2 v3 v4 v7 ((gL σ 114 (((30 * v4) - 30) + v7).toNatClampNeg) * v2.toInt64) (((gL σ 114 ((30 * v4) + v7).toNatClampNeg) * v3.toInt64) + v5) σ))))))
def wbX12_adds_3   (post : St → Prop) : Nat → Int32 → Int32 → Int32 → St → Prop
  | 0, _, _, _, _ => False
  | n + 1, v2, v3, v4, σ =>
    ((v4 < 0 →
      post σ) ∧
    (¬ v4 < 0 →
      ∃ n, wbX12_adds_14 (wbX12_adds_3 post n) post n v2 v3 v4 0 0 σ))
def wpX12_adds  (a1 : Int32) (a2 : Int32) (a3 : Int32) (σ : St) (post : St → Prop) : Prop :=
  ∃ n, wbX12_adds_3 post n a2 a3 a1 σ
set_option maxRecDepth 20000 in
set_option maxHeartbeats 4000000 in
theorem gbX12_adds_68 {X : XT} {G : GT} {l : Launch} {d : Nat}  {post : St → Prop} (C : Cx X G cX12_adds RX12) (hr : Rt X G none (fun v τ => v = none ∧ post τ)) (hR : Rm X l d) (hnl : X.2.2.2.2.2.2.2.2.2.2.1 = 10)  (hd : 1 ≤ d)  {K14 : Int32 → Int32 → Int32 → Int64 → Int32 → St → Prop} (hK14 : ∀ (v2 : Int32) (v3 : Int32) (v4 : Int32) (v5 : Int64) (v7 : Int32) (σ : St), K14 v2 v3 v4 v5 v7 σ → Go X G 14 [(0, .ref (G.2.2.1 75)), (2, .int v2), (3, .int v3), (4, .int v4), (5, .long v5), (7, .int v7)] [] σ)
    : ∀ (v2 : Int32) (v3 : Int32) (v4 : Int32) (v7 : Int32) (s0 : Int64) (s1 : Int64) (σ : St), wbX12_adds_68  K14 post v2 v3 v4 v7 s0 s1 σ → Go X G 68 [(0, .ref (G.2.2.1 75)), (2, .int v2), (3, .int v3), (4, .int v4), (7, .int v7)] [.long s0, .long s1] σ := by
  intro v2 v3 v4 v7 s0 s1 σ hw
  have hw : ∀ v8_1 : Int64, v8_1 = (s1 + s0) →
  vp_in ((30 * v4) + v7) 2400 ∧ (
  ∀ σ_2 : St, σ_2 = sL σ 114 ((30 * v4) + v7).toNatClampNeg (v8_1 - v8_1 / 1000000000 * 1000000000) →
  ∀ v5_3 : Int64, v5_3 = (v8_1 / 1000000000) →
  ∀ v7_4 : Int32, v7_4 = v7 + 1 →
  K14 v2 v3 v4 v5_3 v7_4 σ_2) := hw
  refine go_ladd C dX12_adds_68 ?_
  refine go_topl (fun v8_1 ev8_1 => ?_)
  replace hw := hw v8_1 ev8_1
  refine go_lstore (lv2 := [(8, .long v8_1), (0, .ref (G.2.2.1 75)), (2, .int v2), (3, .int v3), (4, .int v4), (7, .int v7)]) C (by rw [hnl]; decide) rfl dX12_adds_69 ?_
  refine go_aload_n C 1 rfl rfl dX12_adds_71 ?_
  refine go_get (v := .ref (G.2.2.1 114)) C (shX12 G) ltX12 lkX12_133 rfl dX12_adds_72 ?_
  refine go_bipush (v := 30) C rfl dX12_adds_75 ?_
  refine go_iload C 4 rfl dX12_adds_77 ?_
  refine go_imul C dX12_adds_79 ?_
  refine go_iload C 5 rfl dX12_adds_80 ?_
  refine go_iadd C dX12_adds_82 ?_
  refine go_lload C 0 rfl dX12_adds_83 ?_
  refine go_ldc2 (v := 1000000000) C kcX12_389 dX12_adds_85 ?_
  refine go_lrem C (by decide) dX12_adds_88 ?_
  refine go_last C (saX12_ways G) laX12_ways hw.1 dX12_adds_89 (go_nm fun σ_2 eσ_2 => ?_)
  replace hw := hw.2 σ_2 eσ_2
  refine go_lload C 0 rfl dX12_adds_90 ?_
  refine go_ldc2 (v := 1000000000) C kcX12_389 dX12_adds_92 ?_
  refine go_ldiv C (by decide) dX12_adds_95 ?_
  refine go_topl (fun v5_3 ev5_3 => ?_)
  replace hw := hw v5_3 ev5_3
  refine go_lstore (lv2 := [(5, .long v5_3), (8, .long v8_1), (0, .ref (G.2.2.1 75)), (2, .int v2), (3, .int v3), (4, .int v4), (7, .int v7)]) C (by rw [hnl]; decide) rfl dX12_adds_96 ?_
  obtain ⟨v7_4, ev7_4⟩ : ∃ z : Int32, z = v7 + 1 := ⟨_, rfl⟩
  replace hw := hw v7_4 ev7_4
  refine go_iinc (v := v7_4) (lv2 := [(7, .int v7_4), (5, .long v5_3), (8, .long v8_1), (0, .ref (G.2.2.1 75)), (2, .int v2), (3, .int v3), (4, .int v4)]) C 6 rfl (by rw [ev7_4]; rfl) (by rw [hnl]; decide) rfl dX12_adds_98 ?_
  refine go_goto C 14 rfl dX12_adds_101 ?_
  refine go_sub [3, 4, 5, 6, 1, 0] rfl ?_
  exact hK14 _ _ _ _ _ _ hw
set_option maxRecDepth 20000 in
set_option maxHeartbeats 4000000 in
theorem gbX12_adds_14 {X : XT} {G : GT} {l : Launch} {d : Nat}  {post : St → Prop} (C : Cx X G cX12_adds RX12) (hr : Rt X G none (fun v τ => v = none ∧ post τ)) (hR : Rm X l d) (hnl : X.2.2.2.2.2.2.2.2.2.2.1 = 10)  (hd : 1 ≤ d)  {K3 : Int32 → Int32 → Int32 → St → Prop} (hK3 : ∀ (v2 : Int32) (v3 : Int32) (v4 : Int32) (σ : St), K3 v2 v3 v4 σ → Go X G 3 [(0, .ref (G.2.2.1 75)), (2, .int v2), (3, .int v3), (4, .int v4)] [] σ)
    : ∀ (n : Nat) (v2 : Int32) (v3 : Int32) (v4 : Int32) (v5 : Int64) (v7 : Int32) (σ : St), wbX12_adds_14  K3 post n v2 v3 v4 v5 v7 σ → Go X G 14 [(0, .ref (G.2.2.1 75)), (2, .int v2), (3, .int v3), (4, .int v4), (5, .long v5), (7, .int v7)] [] σ := by
  intro n
  induction n with
  | zero => intro v2 v3 v4 v5 v7 σ hw; exact hw.elim
  | succ n ih =>
    intro v2 v3 v4 v5 v7 σ hw
    have hw : ((30 ≤ v7 →
      ∀ v4_1 : Int32, v4_1 = v4 + (-1) →
      K3 v2 v3 v4_1 σ) ∧
    (¬ 30 ≤ v7 →
      vp_in ((30 * v4) + v7) 2400 ∧ (
      ((v4 ≤ 0 →
        wbX12_adds_68 (wbX12_adds_14 K3 post n) post v2 v3 v4 v7 0 (((gL σ 114 ((30 * v4) + v7).toNatClampNeg) * v3.toInt64) + v5) σ) ∧
      (¬ v4 ≤ 0 →
        vp_in (((30 * v4) - 30) + v7) 2400 ∧ (
        wbX12_adds_68 (wbX12_adds_14 K3 post n) post v2 v3 v4 v7 ((gL σ 114 (((30 * v4) - 30) + v7).toNatClampNeg) * v2.toInt64) (((gL σ 114 ((30 * v4) + v7).toNatClampNeg) * v3.toInt64) + v5) σ)))))) := hw
    refine go_iload C 5 rfl dX12_adds_14 ?_
    refine go_bipush (v := 30) C rfl dX12_adds_16 ?_
    refine go_icmp_ge C 104 rfl dX12_adds_18 (fun hc => ?_) (fun hc => ?_)
    · replace hw := hw.1 hc
      obtain ⟨v4_1, ev4_1⟩ : ∃ z : Int32, z = v4 + (-1) := ⟨_, rfl⟩
      replace hw := hw v4_1 ev4_1
      refine go_iinc (v := v4_1) (lv2 := [(4, .int v4_1), (0, .ref (G.2.2.1 75)), (2, .int v2), (3, .int v3), (5, .long v5), (7, .int v7)]) C 3 rfl (by rw [ev4_1]; rfl) (by rw [hnl]; decide) rfl dX12_adds_104 ?_
      refine go_goto C 3 rfl dX12_adds_107 ?_
      refine go_sub [1, 2, 3, 0] rfl ?_
      exact hK3 _ _ _ _ hw
    · replace hw := hw.2 hc
      refine go_aload_n C 0 rfl rfl dX12_adds_21 ?_
      refine go_get (v := .ref (G.2.2.1 114)) C (shX12 G) ltX12 lkX12_133 rfl dX12_adds_22 ?_
      refine go_bipush (v := 30) C rfl dX12_adds_25 ?_
      refine go_iload C 3 rfl dX12_adds_27 ?_
      refine go_imul C dX12_adds_29 ?_
      refine go_iload C 5 rfl dX12_adds_30 ?_
      refine go_iadd C dX12_adds_32 ?_
      refine go_lald C (saX12_ways G) laX12_ways hw.1 dX12_adds_33 ?_
      replace hw := hw.2
      refine go_iload_n C 2 rfl rfl dX12_adds_34 ?_
      refine go_i2l C dX12_adds_35 ?_
      refine go_lmul C dX12_adds_36 ?_
      refine go_lload C 4 rfl dX12_adds_37 ?_
      refine go_ladd C dX12_adds_39 ?_
      refine go_iload C 3 rfl dX12_adds_40 ?_
      refine go_if_le C 67 rfl dX12_adds_42 (fun hc => ?_) (fun hc => ?_)
      · replace hw := hw.1 hc
        refine go_lconst (v := 0) C rfl dX12_adds_67 ?_
        refine go_sub [0, 1, 2, 3, 5] rfl ?_
        exact (gbX12_adds_68 C hr hR hnl hd ih) _ _ _ _ _ _ _ hw
      · replace hw := hw.2 hc
        refine go_aload_n C 0 rfl rfl dX12_adds_45 ?_
        refine go_get (v := .ref (G.2.2.1 114)) C (shX12 G) ltX12 lkX12_133 rfl dX12_adds_46 ?_
        refine go_bipush (v := 30) C rfl dX12_adds_49 ?_
        refine go_iload C 3 rfl dX12_adds_51 ?_
        refine go_imul C dX12_adds_53 ?_
        refine go_bipush (v := 30) C rfl dX12_adds_54 ?_
        refine go_isub C dX12_adds_56 ?_
        refine go_iload C 5 rfl dX12_adds_57 ?_
        refine go_iadd C dX12_adds_59 ?_
        refine go_lald C (saX12_ways G) laX12_ways hw.1 dX12_adds_60 ?_
        replace hw := hw.2
        refine go_iload_n C 1 rfl rfl dX12_adds_61 ?_
        refine go_i2l C dX12_adds_62 ?_
        refine go_lmul C dX12_adds_63 ?_
        refine go_goto C 68 rfl dX12_adds_64 ?_
        refine go_sub [0, 1, 2, 3, 5] rfl ?_
        exact (gbX12_adds_68 C hr hR hnl hd ih) _ _ _ _ _ _ _ hw
set_option maxRecDepth 20000 in
set_option maxHeartbeats 4000000 in
theorem gbX12_adds_3 {X : XT} {G : GT} {l : Launch} {d : Nat}  {post : St → Prop} (C : Cx X G cX12_adds RX12) (hr : Rt X G none (fun v τ => v = none ∧ post τ)) (hR : Rm X l d) (hnl : X.2.2.2.2.2.2.2.2.2.2.1 = 10)  (hd : 1 ≤ d)   
    : ∀ (n : Nat) (v2 : Int32) (v3 : Int32) (v4 : Int32) (σ : St), wbX12_adds_3   post n v2 v3 v4 σ → Go X G 3 [(0, .ref (G.2.2.1 75)), (2, .int v2), (3, .int v3), (4, .int v4)] [] σ := by
  intro n
  induction n with
  | zero => intro v2 v3 v4 σ hw; exact hw.elim
  | succ n ih =>
    intro v2 v3 v4 σ hw
    have hw : ((v4 < 0 →
      post σ) ∧
    (¬ v4 < 0 →
      ∃ n, wbX12_adds_14 (wbX12_adds_3 post n) post n v2 v3 v4 0 0 σ)) := hw
    refine go_iload C 3 rfl dX12_adds_3 ?_
    refine go_if_lt C 110 rfl dX12_adds_5 (fun hc => ?_) (fun hc => ?_)
    · replace hw := hw.1 hc
      exact go_vret C hr hw dX12_adds_110
    · replace hw := hw.2 hc
      refine go_lconst (v := 0) C rfl dX12_adds_8 ?_
      refine go_lstore (lv2 := [(5, .long 0), (0, .ref (G.2.2.1 75)), (2, .int v2), (3, .int v3), (4, .int v4)]) C (by rw [hnl]; decide) rfl dX12_adds_9 ?_
      refine go_iconst (v := 0) C rfl dX12_adds_11 ?_
      refine go_istore (lv2 := [(7, .int 0), (5, .long 0), (0, .ref (G.2.2.1 75)), (2, .int v2), (3, .int v3), (4, .int v4)]) C (by rw [hnl]; decide) rfl dX12_adds_12 ?_
      refine go_sub [2, 3, 4, 5, 1, 0] rfl ?_
      obtain ⟨n_0, hw⟩ := hw
      exact (gbX12_adds_14 C hr hR hnl hd ih) n_0 _ _ _ _ _ _ hw
set_option maxRecDepth 20000 in
set_option maxHeartbeats 4000000 in
theorem spX12_adds {l : Launch} {G : GT} {d : Nat}  (hd : 1 ≤ d)   {a1 : Int32} {a2 : Int32} {a3 : Int32} {σ : St} {post : St → Prop} (hw : wpX12_adds  a1 a2 a3 σ post) : Sp l G d yX12_adds cX12_adds 10 none [.ref (G.2.2.1 75), .int a1, .int a2, .int a3] σ (fun v τ => v = none ∧ post τ) := by
  refine Sp.of (by decide) (by decide) fun X C hr hR hnl => ?_
  show Go X G 0 [(0, .ref (G.2.2.1 75)), (1, .int a1), (2, .int a2), (3, .int a3)] [] σ
  have hw : ∃ n, wbX12_adds_3 post n a2 a3 a1 σ := hw
  refine go_iload_n C 1 rfl rfl dX12_adds_0 ?_
  refine go_istore (lv2 := [(4, .int a1), (0, .ref (G.2.2.1 75)), (1, .int a1), (2, .int a2), (3, .int a3)]) C (by rw [hnl]; decide) rfl dX12_adds_1 ?_
  refine go_sub [1, 3, 4, 0] rfl ?_
  obtain ⟨n_0, hw⟩ := hw
  exact (gbX12_adds_3 C hr hR hnl hd) n_0 _ _ _ _ hw
-- CradleNamesModel.sums(II)V
def wbX12_sums_34  (K23 : Int32 → Int32 → St → Prop) (post : St → Prop) : Nat → Int32 → Int32 → Int64 → Int32 → St → Prop
  | 0, _, _, _, _, _ => False
  | n + 1, v2, v3, v4, v6, σ =>
    ((30 ≤ v6 →
      ∀ v3_1 : Int32, v3_1 = v3 + 1 →
      K23 v2 v3_1 σ) ∧
    (¬ 30 ≤ v6 →
      vp_in v6 30 ∧ (
      vp_in ((30 * v3) + v6) 2400 ∧ (
      ∀ v7_2 : Int64, v7_2 = (((gL σ 115 v6.toNatClampNeg) + (gL σ 114 ((30 * v3) + v6).toNatClampNeg)) + v4) →
      vp_in v6 30 ∧ (
      ∀ σ_3 : St, σ_3 = sL σ 115 v6.toNatClampNeg (v7_2 - v7_2 / 1000000000 * 1000000000) →
      ∀ v4_4 : Int64, v4_4 = (v7_2 / 1000000000) →
      ∀ v6_5 : Int32, v6_5 = v6 + 1 →
      wbX12_sums_34 K23 post n v2 v3 v4_4 v6_5 σ_3)))))
def wbX12_sums_23   (post : St → Prop) : Nat → Int32 → Int32 → St → Prop
  | 0, _, _, _ => False
  | n + 1, v2, v3, σ =>
    ((v2 < v3 →
      post σ) ∧
    (¬ v2 < v3 →
      ∃ n, wbX12_sums_34 (wbX12_sums_23 post n) post n v2 v3 0 0 σ))
def wbX12_sums_2   (post : St → Prop) : Nat → Int32 → Int32 → Int32 → St → Prop
  | 0, _, _, _, _ => False
  | n + 1, v1, v2, v3, σ =>
    ((30 ≤ v3 →
      ∃ n, wbX12_sums_23 post n v2 v1 σ) ∧
    (¬ 30 ≤ v3 →
      vp_in v3 30 ∧ (
      ∀ σ_1 : St, σ_1 = sL σ 115 v3.toNatClampNeg 0 →
      ∀ v3_2 : Int32, v3_2 = v3 + 1 →
      wbX12_sums_2 post n v1 v2 v3_2 σ_1)))
def wpX12_sums  (a1 : Int32) (a2 : Int32) (σ : St) (post : St → Prop) : Prop :=
  ∃ n, wbX12_sums_2 post n a1 a2 0 σ
set_option maxRecDepth 20000 in
set_option maxHeartbeats 4000000 in
theorem gbX12_sums_34 {X : XT} {G : GT} {l : Launch} {d : Nat}  {post : St → Prop} (C : Cx X G cX12_sums RX12) (hr : Rt X G none (fun v τ => v = none ∧ post τ)) (hR : Rm X l d) (hnl : X.2.2.2.2.2.2.2.2.2.2.1 = 9)  (hd : 1 ≤ d)  {K23 : Int32 → Int32 → St → Prop} (hK23 : ∀ (v2 : Int32) (v3 : Int32) (σ : St), K23 v2 v3 σ → Go X G 23 [(0, .ref (G.2.2.1 75)), (2, .int v2), (3, .int v3)] [] σ)
    : ∀ (n : Nat) (v2 : Int32) (v3 : Int32) (v4 : Int64) (v6 : Int32) (σ : St), wbX12_sums_34  K23 post n v2 v3 v4 v6 σ → Go X G 34 [(0, .ref (G.2.2.1 75)), (2, .int v2), (3, .int v3), (4, .long v4), (6, .int v6)] [] σ := by
  intro n
  induction n with
  | zero => intro v2 v3 v4 v6 σ hw; exact hw.elim
  | succ n ih =>
    intro v2 v3 v4 v6 σ hw
    have hw : ((30 ≤ v6 →
      ∀ v3_1 : Int32, v3_1 = v3 + 1 →
      K23 v2 v3_1 σ) ∧
    (¬ 30 ≤ v6 →
      vp_in v6 30 ∧ (
      vp_in ((30 * v3) + v6) 2400 ∧ (
      ∀ v7_2 : Int64, v7_2 = (((gL σ 115 v6.toNatClampNeg) + (gL σ 114 ((30 * v3) + v6).toNatClampNeg)) + v4) →
      vp_in v6 30 ∧ (
      ∀ σ_3 : St, σ_3 = sL σ 115 v6.toNatClampNeg (v7_2 - v7_2 / 1000000000 * 1000000000) →
      ∀ v4_4 : Int64, v4_4 = (v7_2 / 1000000000) →
      ∀ v6_5 : Int32, v6_5 = v6 + 1 →
      wbX12_sums_34 K23 post n v2 v3 v4_4 v6_5 σ_3))))) := hw
    refine go_iload C 4 rfl dX12_sums_34 ?_
    refine go_bipush (v := 30) C rfl dX12_sums_36 ?_
    refine go_icmp_ge C 93 rfl dX12_sums_38 (fun hc => ?_) (fun hc => ?_)
    · replace hw := hw.1 hc
      obtain ⟨v3_1, ev3_1⟩ : ∃ z : Int32, z = v3 + 1 := ⟨_, rfl⟩
      replace hw := hw v3_1 ev3_1
      refine go_iinc (v := v3_1) (lv2 := [(3, .int v3_1), (0, .ref (G.2.2.1 75)), (2, .int v2), (4, .long v4), (6, .int v6)]) C 2 rfl (by rw [ev3_1]; rfl) (by rw [hnl]; decide) rfl dX12_sums_93 ?_
      refine go_goto C 23 rfl dX12_sums_96 ?_
      refine go_sub [1, 2, 0] rfl ?_
      exact hK23 _ _ _ hw
    · replace hw := hw.2 hc
      refine go_aload_n C 0 rfl rfl dX12_sums_41 ?_
      refine go_get (v := .ref (G.2.2.1 115)) C (shX12 G) ltX12 lkX12_136 rfl dX12_sums_42 ?_
      refine go_iload C 4 rfl dX12_sums_45 ?_
      refine go_lald C (saX12_sum G) laX12_sum hw.1 dX12_sums_47 ?_
      replace hw := hw.2
      refine go_aload_n C 0 rfl rfl dX12_sums_48 ?_
      refine go_get (v := .ref (G.2.2.1 114)) C (shX12 G) ltX12 lkX12_133 rfl dX12_sums_49 ?_
      refine go_bipush (v := 30) C rfl dX12_sums_52 ?_
      refine go_iload_n C 2 rfl rfl dX12_sums_54 ?_
      refine go_imul C dX12_sums_55 ?_
      refine go_iload C 4 rfl dX12_sums_56 ?_
      refine go_iadd C dX12_sums_58 ?_
      refine go_lald C (saX12_ways G) laX12_ways hw.1 dX12_sums_59 ?_
      replace hw := hw.2
      refine go_ladd C dX12_sums_60 ?_
      refine go_lload C 3 rfl dX12_sums_61 ?_
      refine go_ladd C dX12_sums_63 ?_
      refine go_topl (fun v7_2 ev7_2 => ?_)
      replace hw := hw v7_2 ev7_2
      refine go_lstore (lv2 := [(7, .long v7_2), (0, .ref (G.2.2.1 75)), (2, .int v2), (3, .int v3), (4, .long v4), (6, .int v6)]) C (by rw [hnl]; decide) rfl dX12_sums_64 ?_
      refine go_aload_n C 1 rfl rfl dX12_sums_66 ?_
      refine go_get (v := .ref (G.2.2.1 115)) C (shX12 G) ltX12 lkX12_136 rfl dX12_sums_67 ?_
      refine go_iload C 5 rfl dX12_sums_70 ?_
      refine go_lload C 0 rfl dX12_sums_72 ?_
      refine go_ldc2 (v := 1000000000) C kcX12_389 dX12_sums_74 ?_
      refine go_lrem C (by decide) dX12_sums_77 ?_
      refine go_last C (saX12_sum G) laX12_sum hw.1 dX12_sums_78 (go_nm fun σ_3 eσ_3 => ?_)
      replace hw := hw.2 σ_3 eσ_3
      refine go_lload C 0 rfl dX12_sums_79 ?_
      refine go_ldc2 (v := 1000000000) C kcX12_389 dX12_sums_81 ?_
      refine go_ldiv C (by decide) dX12_sums_84 ?_
      refine go_topl (fun v4_4 ev4_4 => ?_)
      replace hw := hw v4_4 ev4_4
      refine go_lstore (lv2 := [(4, .long v4_4), (7, .long v7_2), (0, .ref (G.2.2.1 75)), (2, .int v2), (3, .int v3), (6, .int v6)]) C (by rw [hnl]; decide) rfl dX12_sums_85 ?_
      obtain ⟨v6_5, ev6_5⟩ : ∃ z : Int32, z = v6 + 1 := ⟨_, rfl⟩
      replace hw := hw v6_5 ev6_5
      refine go_iinc (v := v6_5) (lv2 := [(6, .int v6_5), (4, .long v4_4), (7, .long v7_2), (0, .ref (G.2.2.1 75)), (2, .int v2), (3, .int v3)]) C 5 rfl (by rw [ev6_5]; rfl) (by rw [hnl]; decide) rfl dX12_sums_87 ?_
      refine go_goto C 34 rfl dX12_sums_90 ?_
      refine go_sub [3, 4, 5, 1, 0] rfl ?_
      exact ih _ _ _ _ _ hw
set_option maxRecDepth 20000 in
set_option maxHeartbeats 4000000 in
theorem gbX12_sums_23 {X : XT} {G : GT} {l : Launch} {d : Nat}  {post : St → Prop} (C : Cx X G cX12_sums RX12) (hr : Rt X G none (fun v τ => v = none ∧ post τ)) (hR : Rm X l d) (hnl : X.2.2.2.2.2.2.2.2.2.2.1 = 9)  (hd : 1 ≤ d)   
    : ∀ (n : Nat) (v2 : Int32) (v3 : Int32) (σ : St), wbX12_sums_23   post n v2 v3 σ → Go X G 23 [(0, .ref (G.2.2.1 75)), (2, .int v2), (3, .int v3)] [] σ := by
  intro n
  induction n with
  | zero => intro v2 v3 σ hw; exact hw.elim
  | succ n ih =>
    intro v2 v3 σ hw
    have hw : ((v2 < v3 →
      post σ) ∧
    (¬ v2 < v3 →
      ∃ n, wbX12_sums_34 (wbX12_sums_23 post n) post n v2 v3 0 0 σ)) := hw
    refine go_iload_n C 2 rfl rfl dX12_sums_23 ?_
    refine go_iload_n C 1 rfl rfl dX12_sums_24 ?_
    refine go_icmp_gt C 99 rfl dX12_sums_25 (fun hc => ?_) (fun hc => ?_)
    · replace hw := hw.1 hc
      exact go_vret C hr hw dX12_sums_99
    · replace hw := hw.2 hc
      refine go_lconst (v := 0) C rfl dX12_sums_28 ?_
      refine go_lstore (lv2 := [(4, .long 0), (0, .ref (G.2.2.1 75)), (2, .int v2), (3, .int v3)]) C (by rw [hnl]; decide) rfl dX12_sums_29 ?_
      refine go_iconst (v := 0) C rfl dX12_sums_31 ?_
      refine go_istore (lv2 := [(6, .int 0), (4, .long 0), (0, .ref (G.2.2.1 75)), (2, .int v2), (3, .int v3)]) C (by rw [hnl]; decide) rfl dX12_sums_32 ?_
      refine go_sub [2, 3, 4, 1, 0] rfl ?_
      obtain ⟨n_0, hw⟩ := hw
      exact (gbX12_sums_34 C hr hR hnl hd ih) n_0 _ _ _ _ _ hw
set_option maxRecDepth 20000 in
set_option maxHeartbeats 4000000 in
theorem gbX12_sums_2 {X : XT} {G : GT} {l : Launch} {d : Nat}  {post : St → Prop} (C : Cx X G cX12_sums RX12) (hr : Rt X G none (fun v τ => v = none ∧ post τ)) (hR : Rm X l d) (hnl : X.2.2.2.2.2.2.2.2.2.2.1 = 9)  (hd : 1 ≤ d)   
    : ∀ (n : Nat) (v1 : Int32) (v2 : Int32) (v3 : Int32) (σ : St), wbX12_sums_2   post n v1 v2 v3 σ → Go X G 2 [(0, .ref (G.2.2.1 75)), (1, .int v1), (2, .int v2), (3, .int v3)] [] σ := by
  intro n
  induction n with
  | zero => intro v1 v2 v3 σ hw; exact hw.elim
  | succ n ih =>
    intro v1 v2 v3 σ hw
    have hw : ((30 ≤ v3 →
      ∃ n, wbX12_sums_23 post n v2 v1 σ) ∧
    (¬ 30 ≤ v3 →
      vp_in v3 30 ∧ (
      ∀ σ_1 : St, σ_1 = sL σ 115 v3.toNatClampNeg 0 →
      ∀ v3_2 : Int32, v3_2 = v3 + 1 →
      wbX12_sums_2 post n v1 v2 v3_2 σ_1))) := hw
    refine go_iload_n C 3 rfl rfl dX12_sums_2 ?_
    refine go_bipush (v := 30) C rfl dX12_sums_3 ?_
    refine go_icmp_ge C 21 rfl dX12_sums_5 (fun hc => ?_) (fun hc => ?_)
    · replace hw := hw.1 hc
      refine go_iload_n C 1 rfl rfl dX12_sums_21 ?_
      refine go_istore_n (lv2 := [(3, .int v1), (0, .ref (G.2.2.1 75)), (1, .int v1), (2, .int v2)]) C rfl (by rw [hnl]; decide) rfl dX12_sums_22 ?_
      refine go_sub [1, 3, 0] rfl ?_
      obtain ⟨n_0, hw⟩ := hw
      exact (gbX12_sums_23 C hr hR hnl hd) n_0 _ _ _ hw
    · replace hw := hw.2 hc
      refine go_aload_n C 0 rfl rfl dX12_sums_8 ?_
      refine go_get (v := .ref (G.2.2.1 115)) C (shX12 G) ltX12 lkX12_136 rfl dX12_sums_9 ?_
      refine go_iload_n C 3 rfl rfl dX12_sums_12 ?_
      refine go_lconst (v := 0) C rfl dX12_sums_13 ?_
      refine go_last C (saX12_sum G) laX12_sum hw.1 dX12_sums_14 (go_nm fun σ_1 eσ_1 => ?_)
      replace hw := hw.2 σ_1 eσ_1
      obtain ⟨v3_2, ev3_2⟩ : ∃ z : Int32, z = v3 + 1 := ⟨_, rfl⟩
      replace hw := hw v3_2 ev3_2
      refine go_iinc (v := v3_2) (lv2 := [(3, .int v3_2), (0, .ref (G.2.2.1 75)), (1, .int v1), (2, .int v2)]) C 3 rfl (by rw [ev3_2]; rfl) (by rw [hnl]; decide) rfl dX12_sums_15 ?_
      refine go_goto C 2 rfl dX12_sums_18 ?_
      refine go_sub [1, 2, 3, 0] rfl ?_
      exact ih _ _ _ _ hw
set_option maxRecDepth 20000 in
set_option maxHeartbeats 4000000 in
theorem spX12_sums {l : Launch} {G : GT} {d : Nat}  (hd : 1 ≤ d)   {a1 : Int32} {a2 : Int32} {σ : St} {post : St → Prop} (hw : wpX12_sums  a1 a2 σ post) : Sp l G d yX12_sums cX12_sums 9 none [.ref (G.2.2.1 75), .int a1, .int a2] σ (fun v τ => v = none ∧ post τ) := by
  refine Sp.of (by decide) (by decide) fun X C hr hR hnl => ?_
  show Go X G 0 [(0, .ref (G.2.2.1 75)), (1, .int a1), (2, .int a2)] [] σ
  have hw : ∃ n, wbX12_sums_2 post n a1 a2 0 σ := hw
  refine go_iconst (v := 0) C rfl dX12_sums_0 ?_
  refine go_istore_n (lv2 := [(3, .int 0), (0, .ref (G.2.2.1 75)), (1, .int a1), (2, .int a2)]) C rfl (by rw [hnl]; decide) rfl dX12_sums_1 ?_
  refine go_sub [1, 2, 3, 0] rfl ?_
  obtain ⟨n_0, hw⟩ := hw
  exact (gbX12_sums_2 C hr hR hnl hd) n_0 _ _ _ _ hw
-- CradleNamesModel.isRare(I)Z
def wbX12_isRare_56   (post : Int32 → St → Prop) : Nat → Int32 → St → Prop
  | 0, _, _ => False
  | n + 1, v4, σ =>
    ((v4 < 0 →
      post 1 σ) ∧
    (¬ v4 < 0 →
      vp_in v4 30 ∧ (
      vp_in v4 30 ∧ (
      (((gL σ 115 v4.toNatClampNeg) = (gL σ 116 v4.toNatClampNeg) →
        ∀ v4_1 : Int32, v4_1 = v4 + (-1) →
        wbX12_isRare_56 post n v4_1 σ) ∧
      (¬ (gL σ 115 v4.toNatClampNeg) = (gL σ 116 v4.toNatClampNeg) →
        vp_in v4 30 ∧ (
        vp_in v4 30 ∧ (
        (((gL σ 116 v4.toNatClampNeg) ≤ (gL σ 115 v4.toNatClampNeg) →
          post 0 σ) ∧
        (¬ (gL σ 116 v4.toNatClampNeg) ≤ (gL σ 115 v4.toNatClampNeg) →
          post 1 σ))))))))))
def wbX12_isRare_5   (post : Int32 → St → Prop) : Nat → Int32 → Int64 → Int32 → St → Prop
  | 0, _, _, _, _ => False
  | n + 1, v1, v2, v4, σ =>
    ((30 ≤ v4 →
      ∃ n, wbX12_isRare_56 post n 29 σ) ∧
    (¬ 30 ≤ v4 →
      vp_in v4 30 ∧ (
      ∀ v5_1 : Int64, v5_1 = (((gL σ 115 v4.toNatClampNeg) * v1.toInt64) + v2) →
      vp_in v4 30 ∧ (
      ∀ σ_2 : St, σ_2 = sL σ 115 v4.toNatClampNeg (v5_1 - v5_1 / 1000000000 * 1000000000) →
      ∀ v2_3 : Int64, v2_3 = (v5_1 / 1000000000) →
      ∀ v4_4 : Int32, v4_4 = v4 + 1 →
      wbX12_isRare_5 post n v1 v2_3 v4_4 σ_2))))
def wpX12_isRare  (a1 : Int32) (σ : St) (post : Int32 → St → Prop) : Prop :=
  ∃ n, wbX12_isRare_5 post n a1 0 0 σ
set_option maxRecDepth 20000 in
set_option maxHeartbeats 4000000 in
theorem gbX12_isRare_56 {X : XT} {G : GT} {l : Launch} {d : Nat}  {post : Int32 → St → Prop} (C : Cx X G cX12_isRare RX12) (hr : Rt X G (some .boolean) (fun v τ => ∃ r : Int32, v = some (.int r) ∧ post r τ)) (hR : Rm X l d) (hnl : X.2.2.2.2.2.2.2.2.2.2.1 = 7)  (hd : 1 ≤ d)   
    : ∀ (n : Nat) (v4 : Int32) (σ : St), wbX12_isRare_56   post n v4 σ → Go X G 56 [(0, .ref (G.2.2.1 75)), (4, .int v4)] [] σ := by
  intro n
  induction n with
  | zero => intro v4 σ hw; exact hw.elim
  | succ n ih =>
    intro v4 σ hw
    have hw : ((v4 < 0 →
      post 1 σ) ∧
    (¬ v4 < 0 →
      vp_in v4 30 ∧ (
      vp_in v4 30 ∧ (
      (((gL σ 115 v4.toNatClampNeg) = (gL σ 116 v4.toNatClampNeg) →
        ∀ v4_1 : Int32, v4_1 = v4 + (-1) →
        wbX12_isRare_56 post n v4_1 σ) ∧
      (¬ (gL σ 115 v4.toNatClampNeg) = (gL σ 116 v4.toNatClampNeg) →
        vp_in v4 30 ∧ (
        vp_in v4 30 ∧ (
        (((gL σ 116 v4.toNatClampNeg) ≤ (gL σ 115 v4.toNatClampNeg) →
          post 0 σ) ∧
        (¬ (gL σ 116 v4.toNatClampNeg) ≤ (gL σ 115 v4.toNatClampNeg) →
          post 1 σ)))))))))) := hw
    refine go_iload C 1 rfl dX12_isRare_56 ?_
    refine go_if_lt C 109 rfl dX12_isRare_58 (fun hc => ?_) (fun hc => ?_)
    · replace hw := hw.1 hc
      refine go_iconst (v := 1) C rfl dX12_isRare_109 ?_
      exact go_zret C hr rfl ⟨_, rfl, hw⟩ dX12_isRare_110
    · replace hw := hw.2 hc
      refine go_aload_n C 0 rfl rfl dX12_isRare_61 ?_
      refine go_get (v := .ref (G.2.2.1 115)) C (shX12 G) ltX12 lkX12_136 rfl dX12_isRare_62 ?_
      refine go_iload C 1 rfl dX12_isRare_65 ?_
      refine go_lald C (saX12_sum G) laX12_sum hw.1 dX12_isRare_67 ?_
      replace hw := hw.2
      refine go_aload_n C 0 rfl rfl dX12_isRare_68 ?_
      refine go_get (v := .ref (G.2.2.1 116)) C (shX12 G) ltX12 lkX12_139 rfl dX12_isRare_69 ?_
      refine go_iload C 1 rfl dX12_isRare_72 ?_
      refine go_lald C (saX12_rows G) laX12_rows hw.1 dX12_isRare_74 ?_
      replace hw := hw.2
      refine go_lc_eq C 103 rfl dX12_isRare_75 dX12_isRare_76 (fun hc => ?_) (fun hc => ?_)
      · replace hw := hw.1 hc
        obtain ⟨v4_1, ev4_1⟩ : ∃ z : Int32, z = v4 + (-1) := ⟨_, rfl⟩
        replace hw := hw v4_1 ev4_1
        refine go_iinc (v := v4_1) (lv2 := [(4, .int v4_1), (0, .ref (G.2.2.1 75))]) C 1 rfl (by rw [ev4_1]; rfl) (by rw [hnl]; decide) rfl dX12_isRare_103 ?_
        refine go_goto C 56 rfl dX12_isRare_106 ?_
        refine go_sub [1, 0] rfl ?_
        exact ih _ _ hw
      · replace hw := hw.2 hc
        refine go_aload_n C 0 rfl rfl dX12_isRare_79 ?_
        refine go_get (v := .ref (G.2.2.1 115)) C (shX12 G) ltX12 lkX12_136 rfl dX12_isRare_80 ?_
        refine go_iload C 1 rfl dX12_isRare_83 ?_
        refine go_lald C (saX12_sum G) laX12_sum hw.1 dX12_isRare_85 ?_
        replace hw := hw.2
        refine go_aload_n C 0 rfl rfl dX12_isRare_86 ?_
        refine go_get (v := .ref (G.2.2.1 116)) C (shX12 G) ltX12 lkX12_139 rfl dX12_isRare_87 ?_
        refine go_iload C 1 rfl dX12_isRare_90 ?_
        refine go_lald C (saX12_rows G) laX12_rows hw.1 dX12_isRare_92 ?_
        replace hw := hw.2
        refine go_lc_ge C 101 rfl dX12_isRare_93 dX12_isRare_94 (fun hc => ?_) (fun hc => ?_)
        · replace hw := hw.1 hc
          refine go_iconst (v := 0) C rfl dX12_isRare_101 ?_
          exact go_zret C hr rfl ⟨_, rfl, hw⟩ dX12_isRare_102
        · replace hw := hw.2 hc
          refine go_iconst (v := 1) C rfl dX12_isRare_97 ?_
          refine go_goto C 102 rfl dX12_isRare_98 ?_
          exact go_zret C hr rfl ⟨_, rfl, hw⟩ dX12_isRare_102
set_option maxRecDepth 20000 in
set_option maxHeartbeats 4000000 in
theorem gbX12_isRare_5 {X : XT} {G : GT} {l : Launch} {d : Nat}  {post : Int32 → St → Prop} (C : Cx X G cX12_isRare RX12) (hr : Rt X G (some .boolean) (fun v τ => ∃ r : Int32, v = some (.int r) ∧ post r τ)) (hR : Rm X l d) (hnl : X.2.2.2.2.2.2.2.2.2.2.1 = 7)  (hd : 1 ≤ d)   
    : ∀ (n : Nat) (v1 : Int32) (v2 : Int64) (v4 : Int32) (σ : St), wbX12_isRare_5   post n v1 v2 v4 σ → Go X G 5 [(0, .ref (G.2.2.1 75)), (1, .int v1), (2, .long v2), (4, .int v4)] [] σ := by
  intro n
  induction n with
  | zero => intro v1 v2 v4 σ hw; exact hw.elim
  | succ n ih =>
    intro v1 v2 v4 σ hw
    have hw : ((30 ≤ v4 →
      ∃ n, wbX12_isRare_56 post n 29 σ) ∧
    (¬ 30 ≤ v4 →
      vp_in v4 30 ∧ (
      ∀ v5_1 : Int64, v5_1 = (((gL σ 115 v4.toNatClampNeg) * v1.toInt64) + v2) →
      vp_in v4 30 ∧ (
      ∀ σ_2 : St, σ_2 = sL σ 115 v4.toNatClampNeg (v5_1 - v5_1 / 1000000000 * 1000000000) →
      ∀ v2_3 : Int64, v2_3 = (v5_1 / 1000000000) →
      ∀ v4_4 : Int32, v4_4 = v4 + 1 →
      wbX12_isRare_5 post n v1 v2_3 v4_4 σ_2)))) := hw
    refine go_iload C 3 rfl dX12_isRare_5 ?_
    refine go_bipush (v := 30) C rfl dX12_isRare_7 ?_
    refine go_icmp_ge C 52 rfl dX12_isRare_9 (fun hc => ?_) (fun hc => ?_)
    · replace hw := hw.1 hc
      refine go_bipush (v := 29) C rfl dX12_isRare_52 ?_
      refine go_istore (lv2 := [(4, .int 29), (0, .ref (G.2.2.1 75)), (1, .int v1), (2, .long v2)]) C (by rw [hnl]; decide) rfl dX12_isRare_54 ?_
      refine go_sub [1, 0] rfl ?_
      obtain ⟨n_0, hw⟩ := hw
      exact (gbX12_isRare_56 C hr hR hnl hd) n_0 _ _ hw
    · replace hw := hw.2 hc
      refine go_aload_n C 0 rfl rfl dX12_isRare_12 ?_
      refine go_get (v := .ref (G.2.2.1 115)) C (shX12 G) ltX12 lkX12_136 rfl dX12_isRare_13 ?_
      refine go_iload C 3 rfl dX12_isRare_16 ?_
      refine go_lald C (saX12_sum G) laX12_sum hw.1 dX12_isRare_18 ?_
      replace hw := hw.2
      refine go_iload_n C 1 rfl rfl dX12_isRare_19 ?_
      refine go_i2l C dX12_isRare_20 ?_
      refine go_lmul C dX12_isRare_21 ?_
      refine go_lload_n C 2 rfl rfl dX12_isRare_22 ?_
      refine go_ladd C dX12_isRare_23 ?_
      refine go_topl (fun v5_1 ev5_1 => ?_)
      replace hw := hw v5_1 ev5_1
      refine go_lstore (lv2 := [(5, .long v5_1), (0, .ref (G.2.2.1 75)), (1, .int v1), (2, .long v2), (4, .int v4)]) C (by rw [hnl]; decide) rfl dX12_isRare_24 ?_
      refine go_aload_n C 1 rfl rfl dX12_isRare_26 ?_
      refine go_get (v := .ref (G.2.2.1 115)) C (shX12 G) ltX12 lkX12_136 rfl dX12_isRare_27 ?_
      refine go_iload C 4 rfl dX12_isRare_30 ?_
      refine go_lload C 0 rfl dX12_isRare_32 ?_
      refine go_ldc2 (v := 1000000000) C kcX12_389 dX12_isRare_34 ?_
      refine go_lrem C (by decide) dX12_isRare_37 ?_
      refine go_last C (saX12_sum G) laX12_sum hw.1 dX12_isRare_38 (go_nm fun σ_2 eσ_2 => ?_)
      replace hw := hw.2 σ_2 eσ_2
      refine go_lload C 0 rfl dX12_isRare_39 ?_
      refine go_ldc2 (v := 1000000000) C kcX12_389 dX12_isRare_41 ?_
      refine go_ldiv C (by decide) dX12_isRare_44 ?_
      refine go_topl (fun v2_3 ev2_3 => ?_)
      replace hw := hw v2_3 ev2_3
      refine go_lstore_n (lv2 := [(2, .long v2_3), (5, .long v5_1), (0, .ref (G.2.2.1 75)), (1, .int v1), (4, .int v4)]) C rfl (by rw [hnl]; decide) rfl dX12_isRare_45 ?_
      obtain ⟨v4_4, ev4_4⟩ : ∃ z : Int32, z = v4 + 1 := ⟨_, rfl⟩
      replace hw := hw v4_4 ev4_4
      refine go_iinc (v := v4_4) (lv2 := [(4, .int v4_4), (2, .long v2_3), (5, .long v5_1), (0, .ref (G.2.2.1 75)), (1, .int v1)]) C 4 rfl (by rw [ev4_4]; rfl) (by rw [hnl]; decide) rfl dX12_isRare_46 ?_
      refine go_goto C 5 rfl dX12_isRare_49 ?_
      refine go_sub [3, 4, 1, 0] rfl ?_
      exact ih _ _ _ _ hw
set_option maxRecDepth 20000 in
set_option maxHeartbeats 4000000 in
theorem spX12_isRare {l : Launch} {G : GT} {d : Nat}  (hd : 1 ≤ d)   {a1 : Int32} {σ : St} {post : Int32 → St → Prop} (hw : wpX12_isRare  a1 σ post) : Sp l G d yX12_isRare cX12_isRare 7 (some .boolean) [.ref (G.2.2.1 75), .int a1] σ (fun v τ => ∃ r : Int32, v = some (.int r) ∧ post r τ) := by
  refine Sp.of (by decide) (by decide) fun X C hr hR hnl => ?_
  show Go X G 0 [(0, .ref (G.2.2.1 75)), (1, .int a1)] [] σ
  have hw : ∃ n, wbX12_isRare_5 post n a1 0 0 σ := hw
  refine go_lconst (v := 0) C rfl dX12_isRare_0 ?_
  refine go_lstore_n (lv2 := [(2, .long 0), (0, .ref (G.2.2.1 75)), (1, .int a1)]) C rfl (by rw [hnl]; decide) rfl dX12_isRare_1 ?_
  refine go_iconst (v := 0) C rfl dX12_isRare_2 ?_
  refine go_istore (lv2 := [(4, .int 0), (2, .long 0), (0, .ref (G.2.2.1 75)), (1, .int a1)]) C (by rw [hnl]; decide) rfl dX12_isRare_3 ?_
  refine go_sub [2, 3, 1, 0] rfl ?_
  obtain ⟨n_0, hw⟩ := hw
  exact (gbX12_isRare_5 C hr hR hnl hd) n_0 _ _ _ _ hw
-- CradleNamesModel.chanceOf(III)I
def wbX12_chanceOf_105   (post : Int32 → St → Prop) : Nat → Int32 → Int32 → Int32 → Int32 → St → Prop
  | 0, _, _, _, _, _ => False
  | n + 1, v3, v4, v7, v8, σ =>
    ((30 ≤ v8 →
      wpX12_sums v7 v4 σ (fun σ_2 =>
      wpX12_isRare v3 σ_2 (fun r_3 σ_4 =>
      ((r_3 = 0 →
        wpX12_sums 0 v7 σ_4 (fun σ_6 =>
        wpX12_isRare v3 σ_6 (fun r_7 σ_8 =>
        ((r_7 = 0 →
          post 0 σ_8) ∧
        (¬ r_7 = 0 →
          post 2 σ_8))))) ∧
      (¬ r_3 = 0 →
        post 1 σ_4))))) ∧
    (¬ 30 ≤ v8 →
      vp_in v8 30 ∧ (
      vp_in v8 30 ∧ (
      ∀ σ_9 : St, σ_9 = sL σ 116 v8.toNatClampNeg (gL σ 115 v8.toNatClampNeg) →
      ∀ v8_10 : Int32, v8_10 = v8 + 1 →
      wbX12_chanceOf_105 post n v3 v4 v7 v8_10 σ_9))))
def wbX12_chanceOf_69   (post : Int32 → St → Prop) : Nat → Int32 → Int32 → Int32 → Int32 → Int32 → Int32 → St → Prop
  | 0, _, _, _, _, _, _, _ => False
  | n + 1, v3, v4, v5, v6, v7, v8, σ =>
    ((v4 < v8 →
      wpX12_sums 0 v4 σ (fun σ_2 =>
      ∃ n, wbX12_chanceOf_105 post n v3 v4 v7 0 σ_2)) ∧
    (¬ v4 < v8 →
      wpX12_adds v8 v6 (v5 - v6) σ (fun σ_4 =>
      ∀ v8_5 : Int32, v8_5 = v8 + 1 →
      wbX12_chanceOf_69 post n v3 v4 v5 v6 v7 v8_5 σ_4)))
def wbX12_chanceOf_37   (post : Int32 → St → Prop) : Nat → Int32 → Int32 → Int32 → Int32 → Int32 → Int32 → St → Prop
  | 0, _, _, _, _, _, _, _ => False
  | n + 1, v3, v4, v5, v6, v7, v8, σ =>
    ((2400 ≤ v8 →
      vp_in 0 2400 ∧ (
      ∀ σ_1 : St, σ_1 = sL σ 114 (0 : Int32).toNatClampNeg 1 →
      ∃ n, wbX12_chanceOf_69 post n v3 v4 v5 v6 v7 1 σ_1)) ∧
    (¬ 2400 ≤ v8 →
      vp_in v8 2400 ∧ (
      ∀ σ_2 : St, σ_2 = sL σ 114 v8.toNatClampNeg 0 →
      ∀ v8_3 : Int32, v8_3 = v8 + 1 →
      wbX12_chanceOf_37 post n v3 v4 v5 v6 v7 v8_3 σ_2)))
def wpX12_chanceOf  (a1 : Int32) (a2 : Int32) (a3 : Int32) (σ : St) (post : Int32 → St → Prop) : Prop :=
  wpX12_allOf a2 σ (fun r_1 σ_2 =>
  wpX12_allOf (a2 - 1) σ_2 (fun r_3 σ_4 =>
  wpX12_all (a2 - 1) a1 σ_4 (fun r_5 σ_6 =>
  wpX12_all a2 a1 σ_6 (fun r_7 σ_8 =>
  ∃ n, wbX12_chanceOf_37 post n a3 r_1 r_3 r_5 r_7 0 σ_8))))
set_option maxRecDepth 20000 in
set_option maxHeartbeats 4000000 in
theorem gbX12_chanceOf_105 {X : XT} {G : GT} {l : Launch} {d : Nat}  {post : Int32 → St → Prop} (C : Cx X G cX12_chanceOf RX12) (hr : Rt X G (some .int) (fun v τ => ∃ r : Int32, v = some (.int r) ∧ post r τ)) (hR : Rm X l d) (hnl : X.2.2.2.2.2.2.2.2.2.2.1 = 9)  (hd : 3 ≤ d)   
    : ∀ (n : Nat) (v3 : Int32) (v4 : Int32) (v7 : Int32) (v8 : Int32) (σ : St), wbX12_chanceOf_105   post n v3 v4 v7 v8 σ → Go X G 105 [(0, .ref (G.2.2.1 75)), (3, .int v3), (4, .int v4), (7, .int v7), (8, .int v8)] [] σ := by
  intro n
  induction n with
  | zero => intro v3 v4 v7 v8 σ hw; exact hw.elim
  | succ n ih =>
    intro v3 v4 v7 v8 σ hw
    have hw : ((30 ≤ v8 →
      wpX12_sums v7 v4 σ (fun σ_2 =>
      wpX12_isRare v3 σ_2 (fun r_3 σ_4 =>
      ((r_3 = 0 →
        wpX12_sums 0 v7 σ_4 (fun σ_6 =>
        wpX12_isRare v3 σ_6 (fun r_7 σ_8 =>
        ((r_7 = 0 →
          post 0 σ_8) ∧
        (¬ r_7 = 0 →
          post 2 σ_8))))) ∧
      (¬ r_3 = 0 →
        post 1 σ_4))))) ∧
    (¬ 30 ≤ v8 →
      vp_in v8 30 ∧ (
      vp_in v8 30 ∧ (
      ∀ σ_9 : St, σ_9 = sL σ 116 v8.toNatClampNeg (gL σ 115 v8.toNatClampNeg) →
      ∀ v8_10 : Int32, v8_10 = v8 + 1 →
      wbX12_chanceOf_105 post n v3 v4 v7 v8_10 σ_9)))) := hw
    refine go_iload C 4 rfl dX12_chanceOf_105 ?_
    refine go_bipush (v := 30) C rfl dX12_chanceOf_107 ?_
    refine go_icmp_ge C 132 rfl dX12_chanceOf_109 (fun hc => ?_) (fun hc => ?_)
    · replace hw := hw.1 hc
      refine go_aload_n C 0 rfl rfl dX12_chanceOf_132 ?_
      refine go_iload C 3 rfl dX12_chanceOf_133 ?_
      refine go_iload C 2 rfl dX12_chanceOf_135 ?_
      refine go_callV (as := [.int v7, .int v4]) C hR (shX12 G) ltX12 cwX12_519 (Nat.le_trans (by decide) hd) (by decide) rfl rfl (by decide) dX12_chanceOf_137 (spX12_sums (Nat.le_refl _) hw) (fun v_ τ_ hw => ?_)
      obtain ⟨rfl, hw⟩ := hw
      obtain ⟨σ_2, rfl⟩ : ∃ z, z = τ_ := ⟨_, rfl⟩
      refine go_aload_n C 0 rfl rfl dX12_chanceOf_140 ?_
      refine go_iload_n C 1 rfl rfl dX12_chanceOf_141 ?_
      refine go_callV (as := [.int v3]) C hR (shX12 G) ltX12 cwX12_522 (Nat.le_trans (by decide) hd) (by decide) rfl rfl (by decide) dX12_chanceOf_142 (spX12_isRare (Nat.le_refl _) hw) (fun v_ τ_ hw => ?_)
      obtain ⟨r_3, rfl, hw⟩ := hw
      obtain ⟨σ_4, rfl⟩ : ∃ z, z = τ_ := ⟨_, rfl⟩
      refine go_if_eq C 150 rfl dX12_chanceOf_145 (fun hc => ?_) (fun hc => ?_)
      · replace hw := hw.1 hc
        refine go_aload_n C 0 rfl rfl dX12_chanceOf_150 ?_
        refine go_iconst (v := 0) C rfl dX12_chanceOf_151 ?_
        refine go_iload C 3 rfl dX12_chanceOf_152 ?_
        refine go_callV (as := [.int 0, .int v7]) C hR (shX12 G) ltX12 cwX12_519 (Nat.le_trans (by decide) hd) (by decide) rfl rfl (by decide) dX12_chanceOf_154 (spX12_sums (Nat.le_refl _) hw) (fun v_ τ_ hw => ?_)
        obtain ⟨rfl, hw⟩ := hw
        obtain ⟨σ_6, rfl⟩ : ∃ z, z = τ_ := ⟨_, rfl⟩
        refine go_aload_n C 0 rfl rfl dX12_chanceOf_157 ?_
        refine go_iload_n C 1 rfl rfl dX12_chanceOf_158 ?_
        refine go_callV (as := [.int v3]) C hR (shX12 G) ltX12 cwX12_522 (Nat.le_trans (by decide) hd) (by decide) rfl rfl (by decide) dX12_chanceOf_159 (spX12_isRare (Nat.le_refl _) hw) (fun v_ τ_ hw => ?_)
        obtain ⟨r_7, rfl, hw⟩ := hw
        obtain ⟨σ_8, rfl⟩ : ∃ z, z = τ_ := ⟨_, rfl⟩
        refine go_if_eq C 169 rfl dX12_chanceOf_162 (fun hc => ?_) (fun hc => ?_)
        · replace hw := hw.1 hc
          refine go_iconst (v := 0) C rfl dX12_chanceOf_169 ?_
          exact go_iret C hr ⟨_, rfl, hw⟩ dX12_chanceOf_170
        · replace hw := hw.2 hc
          refine go_iconst (v := 2) C rfl dX12_chanceOf_165 ?_
          refine go_goto C 170 rfl dX12_chanceOf_166 ?_
          exact go_iret C hr ⟨_, rfl, hw⟩ dX12_chanceOf_170
      · replace hw := hw.2 hc
        refine go_iconst (v := 1) C rfl dX12_chanceOf_148 ?_
        exact go_iret C hr ⟨_, rfl, hw⟩ dX12_chanceOf_149
    · replace hw := hw.2 hc
      refine go_aload_n C 0 rfl rfl dX12_chanceOf_112 ?_
      refine go_get (v := .ref (G.2.2.1 116)) C (shX12 G) ltX12 lkX12_139 rfl dX12_chanceOf_113 ?_
      refine go_iload C 4 rfl dX12_chanceOf_116 ?_
      refine go_aload_n C 0 rfl rfl dX12_chanceOf_118 ?_
      refine go_get (v := .ref (G.2.2.1 115)) C (shX12 G) ltX12 lkX12_136 rfl dX12_chanceOf_119 ?_
      refine go_iload C 4 rfl dX12_chanceOf_122 ?_
      refine go_lald C (saX12_sum G) laX12_sum hw.1 dX12_chanceOf_124 ?_
      replace hw := hw.2
      refine go_last C (saX12_rows G) laX12_rows hw.1 dX12_chanceOf_125 (go_nm fun σ_9 eσ_9 => ?_)
      replace hw := hw.2 σ_9 eσ_9
      obtain ⟨v8_10, ev8_10⟩ : ∃ z : Int32, z = v8 + 1 := ⟨_, rfl⟩
      replace hw := hw v8_10 ev8_10
      refine go_iinc (v := v8_10) (lv2 := [(8, .int v8_10), (0, .ref (G.2.2.1 75)), (3, .int v3), (4, .int v4), (7, .int v7)]) C 4 rfl (by rw [ev8_10]; rfl) (by rw [hnl]; decide) rfl dX12_chanceOf_126 ?_
      refine go_goto C 105 rfl dX12_chanceOf_129 ?_
      refine go_sub [1, 2, 3, 4, 0] rfl ?_
      exact ih _ _ _ _ _ hw
set_option maxRecDepth 20000 in
set_option maxHeartbeats 4000000 in
theorem gbX12_chanceOf_69 {X : XT} {G : GT} {l : Launch} {d : Nat}  {post : Int32 → St → Prop} (C : Cx X G cX12_chanceOf RX12) (hr : Rt X G (some .int) (fun v τ => ∃ r : Int32, v = some (.int r) ∧ post r τ)) (hR : Rm X l d) (hnl : X.2.2.2.2.2.2.2.2.2.2.1 = 9)  (hd : 3 ≤ d)   
    : ∀ (n : Nat) (v3 : Int32) (v4 : Int32) (v5 : Int32) (v6 : Int32) (v7 : Int32) (v8 : Int32) (σ : St), wbX12_chanceOf_69   post n v3 v4 v5 v6 v7 v8 σ → Go X G 69 [(0, .ref (G.2.2.1 75)), (3, .int v3), (4, .int v4), (5, .int v5), (6, .int v6), (7, .int v7), (8, .int v8)] [] σ := by
  intro n
  induction n with
  | zero => intro v3 v4 v5 v6 v7 v8 σ hw; exact hw.elim
  | succ n ih =>
    intro v3 v4 v5 v6 v7 v8 σ hw
    have hw : ((v4 < v8 →
      wpX12_sums 0 v4 σ (fun σ_2 =>
      ∃ n, wbX12_chanceOf_105 post n v3 v4 v7 0 σ_2)) ∧
    (¬ v4 < v8 →
      wpX12_adds v8 v6 (v5 - v6) σ (fun σ_4 =>
      ∀ v8_5 : Int32, v8_5 = v8 + 1 →
      wbX12_chanceOf_69 post n v3 v4 v5 v6 v7 v8_5 σ_4))) := hw
    refine go_iload C 6 rfl dX12_chanceOf_69 ?_
    refine go_iload C 2 rfl dX12_chanceOf_71 ?_
    refine go_icmp_gt C 95 rfl dX12_chanceOf_73 (fun hc => ?_) (fun hc => ?_)
    · replace hw := hw.1 hc
      refine go_aload_n C 0 rfl rfl dX12_chanceOf_95 ?_
      refine go_iconst (v := 0) C rfl dX12_chanceOf_96 ?_
      refine go_iload C 2 rfl dX12_chanceOf_97 ?_
      refine go_callV (as := [.int 0, .int v4]) C hR (shX12 G) ltX12 cwX12_519 (Nat.le_trans (by decide) hd) (by decide) rfl rfl (by decide) dX12_chanceOf_99 (spX12_sums (Nat.le_refl _) hw) (fun v_ τ_ hw => ?_)
      obtain ⟨rfl, hw⟩ := hw
      obtain ⟨σ_2, rfl⟩ : ∃ z, z = τ_ := ⟨_, rfl⟩
      refine go_iconst (v := 0) C rfl dX12_chanceOf_102 ?_
      refine go_istore (lv2 := [(8, .int 0), (0, .ref (G.2.2.1 75)), (3, .int v3), (4, .int v4), (5, .int v5), (6, .int v6), (7, .int v7)]) C (by rw [hnl]; decide) rfl dX12_chanceOf_103 ?_
      refine go_sub [1, 2, 3, 6, 0] rfl ?_
      obtain ⟨n_0, hw⟩ := hw
      exact (gbX12_chanceOf_105 C hr hR hnl hd) n_0 _ _ _ _ _ hw
    · replace hw := hw.2 hc
      refine go_aload_n C 0 rfl rfl dX12_chanceOf_76 ?_
      refine go_iload C 6 rfl dX12_chanceOf_77 ?_
      refine go_iload C 4 rfl dX12_chanceOf_79 ?_
      refine go_iload C 3 rfl dX12_chanceOf_81 ?_
      refine go_iload C 4 rfl dX12_chanceOf_83 ?_
      refine go_isub C dX12_chanceOf_85 ?_
      refine go_callV (as := [.int v8, .int v6, .int (v5 - v6)]) C hR (shX12 G) ltX12 cwX12_516 (Nat.le_trans (by decide) hd) (by decide) rfl rfl (by decide) dX12_chanceOf_86 (spX12_adds (Nat.le_refl _) hw) (fun v_ τ_ hw => ?_)
      obtain ⟨rfl, hw⟩ := hw
      obtain ⟨σ_4, rfl⟩ : ∃ z, z = τ_ := ⟨_, rfl⟩
      obtain ⟨v8_5, ev8_5⟩ : ∃ z : Int32, z = v8 + 1 := ⟨_, rfl⟩
      replace hw := hw v8_5 ev8_5
      refine go_iinc (v := v8_5) (lv2 := [(8, .int v8_5), (0, .ref (G.2.2.1 75)), (3, .int v3), (4, .int v4), (5, .int v5), (6, .int v6), (7, .int v7)]) C 6 rfl (by rw [ev8_5]; rfl) (by rw [hnl]; decide) rfl dX12_chanceOf_89 ?_
      refine go_goto C 69 rfl dX12_chanceOf_92 ?_
      refine go_sub [1, 2, 3, 4, 5, 6, 0] rfl ?_
      exact ih _ _ _ _ _ _ _ hw
set_option maxRecDepth 20000 in
set_option maxHeartbeats 4000000 in
theorem gbX12_chanceOf_37 {X : XT} {G : GT} {l : Launch} {d : Nat}  {post : Int32 → St → Prop} (C : Cx X G cX12_chanceOf RX12) (hr : Rt X G (some .int) (fun v τ => ∃ r : Int32, v = some (.int r) ∧ post r τ)) (hR : Rm X l d) (hnl : X.2.2.2.2.2.2.2.2.2.2.1 = 9)  (hd : 3 ≤ d)   
    : ∀ (n : Nat) (v3 : Int32) (v4 : Int32) (v5 : Int32) (v6 : Int32) (v7 : Int32) (v8 : Int32) (σ : St), wbX12_chanceOf_37   post n v3 v4 v5 v6 v7 v8 σ → Go X G 37 [(0, .ref (G.2.2.1 75)), (3, .int v3), (4, .int v4), (5, .int v5), (6, .int v6), (7, .int v7), (8, .int v8)] [] σ := by
  intro n
  induction n with
  | zero => intro v3 v4 v5 v6 v7 v8 σ hw; exact hw.elim
  | succ n ih =>
    intro v3 v4 v5 v6 v7 v8 σ hw
    have hw : ((2400 ≤ v8 →
      vp_in 0 2400 ∧ (
      ∀ σ_1 : St, σ_1 = sL σ 114 (0 : Int32).toNatClampNeg 1 →
      ∃ n, wbX12_chanceOf_69 post n v3 v4 v5 v6 v7 1 σ_1)) ∧
    (¬ 2400 ≤ v8 →
      vp_in v8 2400 ∧ (
      ∀ σ_2 : St, σ_2 = sL σ 114 v8.toNatClampNeg 0 →
      ∀ v8_3 : Int32, v8_3 = v8 + 1 →
      wbX12_chanceOf_37 post n v3 v4 v5 v6 v7 v8_3 σ_2))) := hw
    refine go_iload C 6 rfl dX12_chanceOf_37 ?_
    refine go_sipush (v := 2400) C rfl dX12_chanceOf_39 ?_
    refine go_icmp_ge C 59 rfl dX12_chanceOf_42 (fun hc => ?_) (fun hc => ?_)
    · replace hw := hw.1 hc
      refine go_aload_n C 0 rfl rfl dX12_chanceOf_59 ?_
      refine go_get (v := .ref (G.2.2.1 114)) C (shX12 G) ltX12 lkX12_133 rfl dX12_chanceOf_60 ?_
      refine go_iconst (v := 0) C rfl dX12_chanceOf_63 ?_
      refine go_lconst (v := 1) C rfl dX12_chanceOf_64 ?_
      refine go_last C (saX12_ways G) laX12_ways hw.1 dX12_chanceOf_65 (go_nm fun σ_1 eσ_1 => ?_)
      replace hw := hw.2 σ_1 eσ_1
      refine go_iconst (v := 1) C rfl dX12_chanceOf_66 ?_
      refine go_istore (lv2 := [(8, .int 1), (0, .ref (G.2.2.1 75)), (3, .int v3), (4, .int v4), (5, .int v5), (6, .int v6), (7, .int v7)]) C (by rw [hnl]; decide) rfl dX12_chanceOf_67 ?_
      refine go_sub [1, 2, 3, 4, 5, 6, 0] rfl ?_
      obtain ⟨n_0, hw⟩ := hw
      exact (gbX12_chanceOf_69 C hr hR hnl hd) n_0 _ _ _ _ _ _ _ hw
    · replace hw := hw.2 hc
      refine go_aload_n C 0 rfl rfl dX12_chanceOf_45 ?_
      refine go_get (v := .ref (G.2.2.1 114)) C (shX12 G) ltX12 lkX12_133 rfl dX12_chanceOf_46 ?_
      refine go_iload C 6 rfl dX12_chanceOf_49 ?_
      refine go_lconst (v := 0) C rfl dX12_chanceOf_51 ?_
      refine go_last C (saX12_ways G) laX12_ways hw.1 dX12_chanceOf_52 (go_nm fun σ_2 eσ_2 => ?_)
      replace hw := hw.2 σ_2 eσ_2
      obtain ⟨v8_3, ev8_3⟩ : ∃ z : Int32, z = v8 + 1 := ⟨_, rfl⟩
      replace hw := hw v8_3 ev8_3
      refine go_iinc (v := v8_3) (lv2 := [(8, .int v8_3), (0, .ref (G.2.2.1 75)), (3, .int v3), (4, .int v4), (5, .int v5), (6, .int v6), (7, .int v7)]) C 6 rfl (by rw [ev8_3]; rfl) (by rw [hnl]; decide) rfl dX12_chanceOf_53 ?_
      refine go_goto C 37 rfl dX12_chanceOf_56 ?_
      refine go_sub [1, 2, 3, 4, 5, 6, 0] rfl ?_
      exact ih _ _ _ _ _ _ _ hw
set_option maxRecDepth 20000 in
set_option maxHeartbeats 4000000 in
theorem spX12_chanceOf {l : Launch} {G : GT} {d : Nat}  (hd : 3 ≤ d)   {a1 : Int32} {a2 : Int32} {a3 : Int32} {σ : St} {post : Int32 → St → Prop} (hw : wpX12_chanceOf  a1 a2 a3 σ post) : Sp l G d yX12_chanceOf cX12_chanceOf 9 (some .int) [.ref (G.2.2.1 75), .int a1, .int a2, .int a3] σ (fun v τ => ∃ r : Int32, v = some (.int r) ∧ post r τ) := by
  refine Sp.of (by decide) (by decide) fun X C hr hR hnl => ?_
  show Go X G 0 [(0, .ref (G.2.2.1 75)), (1, .int a1), (2, .int a2), (3, .int a3)] [] σ
  have hw : wpX12_allOf a2 σ (fun r_1 σ_2 =>
  wpX12_allOf (a2 - 1) σ_2 (fun r_3 σ_4 =>
  wpX12_all (a2 - 1) a1 σ_4 (fun r_5 σ_6 =>
  wpX12_all a2 a1 σ_6 (fun r_7 σ_8 =>
  ∃ n, wbX12_chanceOf_37 post n a3 r_1 r_3 r_5 r_7 0 σ_8)))) := hw
  refine go_aload_n C 0 rfl rfl dX12_chanceOf_0 ?_
  refine go_iload_n C 2 rfl rfl dX12_chanceOf_1 ?_
  refine go_callV (as := [.int a2]) C hR (shX12 G) ltX12 cwX12_513 (Nat.le_trans (by decide) hd) (by decide) rfl rfl (by decide) dX12_chanceOf_2 (spX12_allOf (Nat.le_refl _) hw) (fun v_ τ_ hw => ?_)
  obtain ⟨r_1, rfl, hw⟩ := hw
  obtain ⟨σ_2, rfl⟩ : ∃ z, z = τ_ := ⟨_, rfl⟩
  refine go_istore (lv2 := [(4, .int r_1), (0, .ref (G.2.2.1 75)), (1, .int a1), (2, .int a2), (3, .int a3)]) C (by rw [hnl]; decide) rfl dX12_chanceOf_5 ?_
  refine go_aload_n C 1 rfl rfl dX12_chanceOf_7 ?_
  refine go_iload_n C 3 rfl rfl dX12_chanceOf_8 ?_
  refine go_iconst (v := 1) C rfl dX12_chanceOf_9 ?_
  refine go_isub C dX12_chanceOf_10 ?_
  refine go_callV (as := [.int (a2 - 1)]) C hR (shX12 G) ltX12 cwX12_513 (Nat.le_trans (by decide) hd) (by decide) rfl rfl (by decide) dX12_chanceOf_11 (spX12_allOf (Nat.le_refl _) hw) (fun v_ τ_ hw => ?_)
  obtain ⟨r_3, rfl, hw⟩ := hw
  obtain ⟨σ_4, rfl⟩ : ∃ z, z = τ_ := ⟨_, rfl⟩
  refine go_istore (lv2 := [(5, .int r_3), (4, .int r_1), (0, .ref (G.2.2.1 75)), (1, .int a1), (2, .int a2), (3, .int a3)]) C (by rw [hnl]; decide) rfl dX12_chanceOf_14 ?_
  refine go_aload_n C 2 rfl rfl dX12_chanceOf_16 ?_
  refine go_iload_n C 4 rfl rfl dX12_chanceOf_17 ?_
  refine go_iconst (v := 1) C rfl dX12_chanceOf_18 ?_
  refine go_isub C dX12_chanceOf_19 ?_
  refine go_iload_n C 3 rfl rfl dX12_chanceOf_20 ?_
  refine go_callV (as := [.int (a2 - 1), .int a1]) C hR (shX12 G) ltX12 cwX12_407 (Nat.le_trans (by decide) hd) (by decide) rfl rfl (by decide) dX12_chanceOf_21 (spX12_all (Nat.le_refl _) hw) (fun v_ τ_ hw => ?_)
  obtain ⟨r_5, rfl, hw⟩ := hw
  obtain ⟨σ_6, rfl⟩ : ∃ z, z = τ_ := ⟨_, rfl⟩
  refine go_istore (lv2 := [(6, .int r_5), (5, .int r_3), (4, .int r_1), (0, .ref (G.2.2.1 75)), (1, .int a1), (2, .int a2), (3, .int a3)]) C (by rw [hnl]; decide) rfl dX12_chanceOf_24 ?_
  refine go_aload_n C 3 rfl rfl dX12_chanceOf_26 ?_
  refine go_iload_n C 5 rfl rfl dX12_chanceOf_27 ?_
  refine go_iload_n C 4 rfl rfl dX12_chanceOf_28 ?_
  refine go_callV (as := [.int a2, .int a1]) C hR (shX12 G) ltX12 cwX12_407 (Nat.le_trans (by decide) hd) (by decide) rfl rfl (by decide) dX12_chanceOf_29 (spX12_all (Nat.le_refl _) hw) (fun v_ τ_ hw => ?_)
  obtain ⟨r_7, rfl, hw⟩ := hw
  obtain ⟨σ_8, rfl⟩ : ∃ z, z = τ_ := ⟨_, rfl⟩
  refine go_istore (lv2 := [(7, .int r_7), (6, .int r_5), (5, .int r_3), (4, .int r_1), (0, .ref (G.2.2.1 75)), (1, .int a1), (2, .int a2), (3, .int a3)]) C (by rw [hnl]; decide) rfl dX12_chanceOf_32 ?_
  refine go_iconst (v := 0) C rfl dX12_chanceOf_34 ?_
  refine go_istore (lv2 := [(8, .int 0), (7, .int r_7), (6, .int r_5), (5, .int r_3), (4, .int r_1), (0, .ref (G.2.2.1 75)), (1, .int a1), (2, .int a2), (3, .int a3)]) C (by rw [hnl]; decide) rfl dX12_chanceOf_35 ?_
  refine go_sub [5, 8, 4, 3, 2, 1, 0] rfl ?_
  obtain ⟨n_0, hw⟩ := hw
  exact (gbX12_chanceOf_37 C hr hR hnl hd) n_0 _ _ _ _ _ _ _ hw
-- CradleNamesModel.chance(III)I
def wbX12_chance_85   (post : Int32 → St → Prop) : Nat → Int32 → Int32 → Int32 → Int32 → St → Prop
  | 0, _, _, _, _, _ => False
  | n + 1, v2, v3, v4, v5, σ =>
    vp_in 1 9680 ∧ (
    (((gI σ 76 (1 : Int32).toNatClampNeg) ≤ v5 →
      post v4 σ) ∧
    (¬ (gI σ 76 (1 : Int32).toNatClampNeg) ≤ v5 →
      wpX12_chanceOf v5 v2 v3 σ (fun r_1 σ_2 =>
      ((r_1 ≤ 0 →
        ∀ v4_3 : Int32, v4_3 = (v4 + 0) →
        ∀ v5_4 : Int32, v5_4 = v5 + 1 →
        wbX12_chance_85 post n v2 v3 v4_3 v5_4 σ_2) ∧
      (¬ r_1 ≤ 0 →
        ∀ v4_5 : Int32, v4_5 = (v4 + 1) →
        ∀ v5_6 : Int32, v5_6 = v5 + 1 →
        wbX12_chance_85 post n v2 v3 v4_5 v5_6 σ_2))))))
def wbX12_chance_13   (post : Int32 → St → Prop) (v1 : Int32) (v2 : Int32) (v3 : Int32) (σ : St) : Prop :=
  vp_in 0 9680 ∧ (
  wpX12_in v2 1 ((gI σ 76 (0 : Int32).toNatClampNeg) - 1) σ (fun r_1 σ_2 =>
  ((r_1 = 0 →
    post (-1) σ_2) ∧
  (¬ r_1 = 0 →
    wpX12_in v3 2 1000000 σ_2 (fun r_3 σ_4 =>
    ((¬ r_3 = 0 →
      wpX12_runsAll  σ_4 (fun σ_6 =>
      wpX12_allOf v2 σ_6 (fun r_7 σ_8 =>
      ((r_7 = 0 →
        post (-1) σ_8) ∧
      (¬ r_7 = 0 →
        wpX12_allOf (v2 - 1) σ_8 (fun r_9 σ_10 =>
        ((¬ r_9 = 0 →
          ((v1 = (-1) →
            ∃ n, wbX12_chance_85 post n v2 v3 0 0 σ_10) ∧
          (¬ v1 = (-1) →
            wpX12_chanceOf v1 v2 v3 σ_10 (fun r_11 σ_12 =>
            post r_11 σ_12)))) ∧
        (r_9 = 0 →
          post (-1) σ_10)))))))) ∧
    (r_3 = 0 →
      post (-1) σ_4)))))))
def wpX12_chance  (a1 : Int32) (a2 : Int32) (a3 : Int32) (σ : St) (post : Int32 → St → Prop) : Prop :=
  ((a1 = (-1) →
    wbX12_chance_13 post a1 a2 a3 σ) ∧
  (¬ a1 = (-1) →
    wpX12_isName a1 σ (fun r_1 σ_2 =>
    ((r_1 = 0 →
      post (-1) σ_2) ∧
    (¬ r_1 = 0 →
      wbX12_chance_13 post a1 a2 a3 σ_2)))))
set_option maxRecDepth 20000 in
set_option maxHeartbeats 4000000 in
theorem gbX12_chance_85 {X : XT} {G : GT} {l : Launch} {d : Nat}  {post : Int32 → St → Prop} (C : Cx X G cX12_chance RX12) (hr : Rt X G (some .int) (fun v τ => ∃ r : Int32, v = some (.int r) ∧ post r τ)) (hR : Rm X l d) (hnl : X.2.2.2.2.2.2.2.2.2.2.1 = 6)  (hd : 10 ≤ d)   
    : ∀ (n : Nat) (v2 : Int32) (v3 : Int32) (v4 : Int32) (v5 : Int32) (σ : St), wbX12_chance_85   post n v2 v3 v4 v5 σ → Go X G 85 [(0, .ref (G.2.2.1 75)), (2, .int v2), (3, .int v3), (4, .int v4), (5, .int v5)] [] σ := by
  intro n
  induction n with
  | zero => intro v2 v3 v4 v5 σ hw; exact hw.elim
  | succ n ih =>
    intro v2 v3 v4 v5 σ hw
    have hw : vp_in 1 9680 ∧ (
    (((gI σ 76 (1 : Int32).toNatClampNeg) ≤ v5 →
      post v4 σ) ∧
    (¬ (gI σ 76 (1 : Int32).toNatClampNeg) ≤ v5 →
      wpX12_chanceOf v5 v2 v3 σ (fun r_1 σ_2 =>
      ((r_1 ≤ 0 →
        ∀ v4_3 : Int32, v4_3 = (v4 + 0) →
        ∀ v5_4 : Int32, v5_4 = v5 + 1 →
        wbX12_chance_85 post n v2 v3 v4_3 v5_4 σ_2) ∧
      (¬ r_1 ≤ 0 →
        ∀ v4_5 : Int32, v4_5 = (v4 + 1) →
        ∀ v5_6 : Int32, v5_6 = v5 + 1 →
        wbX12_chance_85 post n v2 v3 v4_5 v5_6 σ_2)))))) := hw
    refine go_iload C 4 rfl dX12_chance_85 ?_
    refine go_aload_n C 0 rfl rfl dX12_chance_87 ?_
    refine go_get (v := .ref (G.2.2.1 76)) C (shX12 G) ltX12 lkX12_7 rfl dX12_chance_88 ?_
    refine go_iconst (v := 1) C rfl dX12_chance_91 ?_
    refine go_iald C (saX12_a G) laX12_a hw.1 dX12_chance_92 ?_
    replace hw := hw.2
    refine go_icmp_ge C 123 rfl dX12_chance_93 (fun hc => ?_) (fun hc => ?_)
    · replace hw := hw.1 hc
      refine go_iload C 3 rfl dX12_chance_123 ?_
      exact go_iret C hr ⟨_, rfl, hw⟩ dX12_chance_125
    · replace hw := hw.2 hc
      refine go_iload C 3 rfl dX12_chance_96 ?_
      refine go_aload_n C 0 rfl rfl dX12_chance_98 ?_
      refine go_iload C 4 rfl dX12_chance_99 ?_
      refine go_iload_n C 1 rfl rfl dX12_chance_101 ?_
      refine go_iload_n C 2 rfl rfl dX12_chance_102 ?_
      refine go_callV (as := [.int v5, .int v2, .int v3]) C hR (shX12 G) ltX12 cwX12_526 (Nat.le_trans (by decide) hd) (by decide) rfl rfl (by decide) dX12_chance_103 (spX12_chanceOf (Nat.le_refl _) hw) (fun v_ τ_ hw => ?_)
      obtain ⟨r_1, rfl, hw⟩ := hw
      obtain ⟨σ_2, rfl⟩ : ∃ z, z = τ_ := ⟨_, rfl⟩
      refine go_if_le C 113 rfl dX12_chance_106 (fun hc => ?_) (fun hc => ?_)
      · replace hw := hw.1 hc
        refine go_iconst (v := 0) C rfl dX12_chance_113 ?_
        refine go_iadd C dX12_chance_114 ?_
        refine go_topi (fun v4_3 ev4_3 => ?_)
        replace hw := hw v4_3 ev4_3
        refine go_istore (lv2 := [(4, .int v4_3), (0, .ref (G.2.2.1 75)), (2, .int v2), (3, .int v3), (5, .int v5)]) C (by rw [hnl]; decide) rfl dX12_chance_115 ?_
        obtain ⟨v5_4, ev5_4⟩ : ∃ z : Int32, z = v5 + 1 := ⟨_, rfl⟩
        replace hw := hw v5_4 ev5_4
        refine go_iinc (v := v5_4) (lv2 := [(5, .int v5_4), (4, .int v4_3), (0, .ref (G.2.2.1 75)), (2, .int v2), (3, .int v3)]) C 4 rfl (by rw [ev5_4]; rfl) (by rw [hnl]; decide) rfl dX12_chance_117 ?_
        refine go_goto C 85 rfl dX12_chance_120 ?_
        refine go_sub [2, 3, 4, 1, 0] rfl ?_
        exact ih _ _ _ _ _ hw
      · replace hw := hw.2 hc
        refine go_iconst (v := 1) C rfl dX12_chance_109 ?_
        refine go_goto C 114 rfl dX12_chance_110 ?_
        refine go_iadd C dX12_chance_114 ?_
        refine go_topi (fun v4_5 ev4_5 => ?_)
        replace hw := hw v4_5 ev4_5
        refine go_istore (lv2 := [(4, .int v4_5), (0, .ref (G.2.2.1 75)), (2, .int v2), (3, .int v3), (5, .int v5)]) C (by rw [hnl]; decide) rfl dX12_chance_115 ?_
        obtain ⟨v5_6, ev5_6⟩ : ∃ z : Int32, z = v5 + 1 := ⟨_, rfl⟩
        replace hw := hw v5_6 ev5_6
        refine go_iinc (v := v5_6) (lv2 := [(5, .int v5_6), (4, .int v4_5), (0, .ref (G.2.2.1 75)), (2, .int v2), (3, .int v3)]) C 4 rfl (by rw [ev5_6]; rfl) (by rw [hnl]; decide) rfl dX12_chance_117 ?_
        refine go_goto C 85 rfl dX12_chance_120 ?_
        refine go_sub [2, 3, 4, 1, 0] rfl ?_
        exact ih _ _ _ _ _ hw
set_option maxRecDepth 20000 in
set_option maxHeartbeats 4000000 in
theorem gbX12_chance_13 {X : XT} {G : GT} {l : Launch} {d : Nat}  {post : Int32 → St → Prop} (C : Cx X G cX12_chance RX12) (hr : Rt X G (some .int) (fun v τ => ∃ r : Int32, v = some (.int r) ∧ post r τ)) (hR : Rm X l d) (hnl : X.2.2.2.2.2.2.2.2.2.2.1 = 6)  (hd : 10 ≤ d)   
    : ∀ (v1 : Int32) (v2 : Int32) (v3 : Int32) (σ : St), wbX12_chance_13   post v1 v2 v3 σ → Go X G 13 [(0, .ref (G.2.2.1 75)), (1, .int v1), (2, .int v2), (3, .int v3)] [] σ := by
  intro v1 v2 v3 σ hw
  have hw : vp_in 0 9680 ∧ (
  wpX12_in v2 1 ((gI σ 76 (0 : Int32).toNatClampNeg) - 1) σ (fun r_1 σ_2 =>
  ((r_1 = 0 →
    post (-1) σ_2) ∧
  (¬ r_1 = 0 →
    wpX12_in v3 2 1000000 σ_2 (fun r_3 σ_4 =>
    ((¬ r_3 = 0 →
      wpX12_runsAll  σ_4 (fun σ_6 =>
      wpX12_allOf v2 σ_6 (fun r_7 σ_8 =>
      ((r_7 = 0 →
        post (-1) σ_8) ∧
      (¬ r_7 = 0 →
        wpX12_allOf (v2 - 1) σ_8 (fun r_9 σ_10 =>
        ((¬ r_9 = 0 →
          ((v1 = (-1) →
            ∃ n, wbX12_chance_85 post n v2 v3 0 0 σ_10) ∧
          (¬ v1 = (-1) →
            wpX12_chanceOf v1 v2 v3 σ_10 (fun r_11 σ_12 =>
            post r_11 σ_12)))) ∧
        (r_9 = 0 →
          post (-1) σ_10)))))))) ∧
    (r_3 = 0 →
      post (-1) σ_4))))))) := hw
  refine go_iload_n C 2 rfl rfl dX12_chance_13 ?_
  refine go_iconst (v := 1) C rfl dX12_chance_14 ?_
  refine go_aload_n C 0 rfl rfl dX12_chance_15 ?_
  refine go_get (v := .ref (G.2.2.1 76)) C (shX12 G) ltX12 lkX12_7 rfl dX12_chance_16 ?_
  refine go_iconst (v := 0) C rfl dX12_chance_19 ?_
  refine go_iald C (saX12_a G) laX12_a hw.1 dX12_chance_20 ?_
  replace hw := hw.2
  refine go_iconst (v := 1) C rfl dX12_chance_21 ?_
  refine go_isub C dX12_chance_22 ?_
  refine go_callS (as := [.int v2, .int 1, .int ((gI σ 76 (0 : Int32).toNatClampNeg) - 1)]) C hR cwX12_152 (Nat.le_trans (by decide) hd) (by decide) rfl rfl (by decide) dX12_chance_23 (spX12_in (Nat.le_refl _) hw) (fun v_ τ_ hw => ?_)
  obtain ⟨r_1, rfl, hw⟩ := hw
  obtain ⟨σ_2, rfl⟩ : ∃ z, z = τ_ := ⟨_, rfl⟩
  refine go_if_eq C 40 rfl dX12_chance_26 (fun hc => ?_) (fun hc => ?_)
  · replace hw := hw.1 hc
    refine go_iconst (v := (-1)) C rfl dX12_chance_40 ?_
    exact go_iret C hr ⟨_, rfl, hw⟩ dX12_chance_41
  · replace hw := hw.2 hc
    refine go_iload_n C 3 rfl rfl dX12_chance_29 ?_
    refine go_iconst (v := 2) C rfl dX12_chance_30 ?_
    refine go_ldcw (v := 1000000) C kcX12_525 dX12_chance_31 ?_
    refine go_callS (as := [.int v3, .int 2, .int 1000000]) C hR cwX12_152 (Nat.le_trans (by decide) hd) (by decide) rfl rfl (by decide) dX12_chance_34 (spX12_in (Nat.le_refl _) hw) (fun v_ τ_ hw => ?_)
    obtain ⟨r_3, rfl, hw⟩ := hw
    obtain ⟨σ_4, rfl⟩ : ∃ z, z = τ_ := ⟨_, rfl⟩
    refine go_if_ne C 42 rfl dX12_chance_37 (fun hc => ?_) (fun hc => ?_)
    · replace hw := hw.1 hc
      refine go_aload_n C 0 rfl rfl dX12_chance_42 ?_
      refine go_callV (as := []) C hR (shX12 G) ltX12 cwX12_464 (Nat.le_trans (by decide) hd) (by decide) rfl rfl (by decide) dX12_chance_43 (spX12_runsAll (Nat.le_refl _) hw) (fun v_ τ_ hw => ?_)
      obtain ⟨rfl, hw⟩ := hw
      obtain ⟨σ_6, rfl⟩ : ∃ z, z = τ_ := ⟨_, rfl⟩
      refine go_aload_n C 0 rfl rfl dX12_chance_46 ?_
      refine go_iload_n C 2 rfl rfl dX12_chance_47 ?_
      refine go_callV (as := [.int v2]) C hR (shX12 G) ltX12 cwX12_513 (Nat.le_trans (by decide) hd) (by decide) rfl rfl (by decide) dX12_chance_48 (spX12_allOf (Nat.le_refl _) hw) (fun v_ τ_ hw => ?_)
      obtain ⟨r_7, rfl, hw⟩ := hw
      obtain ⟨σ_8, rfl⟩ : ∃ z, z = τ_ := ⟨_, rfl⟩
      refine go_if_eq C 64 rfl dX12_chance_51 (fun hc => ?_) (fun hc => ?_)
      · replace hw := hw.1 hc
        refine go_iconst (v := (-1)) C rfl dX12_chance_64 ?_
        exact go_iret C hr ⟨_, rfl, hw⟩ dX12_chance_65
      · replace hw := hw.2 hc
        refine go_aload_n C 0 rfl rfl dX12_chance_54 ?_
        refine go_iload_n C 2 rfl rfl dX12_chance_55 ?_
        refine go_iconst (v := 1) C rfl dX12_chance_56 ?_
        refine go_isub C dX12_chance_57 ?_
        refine go_callV (as := [.int (v2 - 1)]) C hR (shX12 G) ltX12 cwX12_513 (Nat.le_trans (by decide) hd) (by decide) rfl rfl (by decide) dX12_chance_58 (spX12_allOf (Nat.le_refl _) hw) (fun v_ τ_ hw => ?_)
        obtain ⟨r_9, rfl, hw⟩ := hw
        obtain ⟨σ_10, rfl⟩ : ∃ z, z = τ_ := ⟨_, rfl⟩
        refine go_if_ne C 66 rfl dX12_chance_61 (fun hc => ?_) (fun hc => ?_)
        · replace hw := hw.1 hc
          refine go_iload_n C 1 rfl rfl dX12_chance_66 ?_
          refine go_iconst (v := (-1)) C rfl dX12_chance_67 ?_
          refine go_icmp_eq C 79 rfl dX12_chance_68 (fun hc => ?_) (fun hc => ?_)
          · replace hw := hw.1 hc
            refine go_iconst (v := 0) C rfl dX12_chance_79 ?_
            refine go_istore (lv2 := [(4, .int 0), (0, .ref (G.2.2.1 75)), (1, .int v1), (2, .int v2), (3, .int v3)]) C (by rw [hnl]; decide) rfl dX12_chance_80 ?_
            refine go_iconst (v := 0) C rfl dX12_chance_82 ?_
            refine go_istore (lv2 := [(5, .int 0), (4, .int 0), (0, .ref (G.2.2.1 75)), (1, .int v1), (2, .int v2), (3, .int v3)]) C (by rw [hnl]; decide) rfl dX12_chance_83 ?_
            refine go_sub [2, 4, 5, 1, 0] rfl ?_
            obtain ⟨n_0, hw⟩ := hw
            exact (gbX12_chance_85 C hr hR hnl hd) n_0 _ _ _ _ _ hw
          · replace hw := hw.2 hc
            refine go_aload_n C 0 rfl rfl dX12_chance_71 ?_
            refine go_iload_n C 1 rfl rfl dX12_chance_72 ?_
            refine go_iload_n C 2 rfl rfl dX12_chance_73 ?_
            refine go_iload_n C 3 rfl rfl dX12_chance_74 ?_
            refine go_callV (as := [.int v1, .int v2, .int v3]) C hR (shX12 G) ltX12 cwX12_526 (Nat.le_trans (by decide) hd) (by decide) rfl rfl (by decide) dX12_chance_75 (spX12_chanceOf (Nat.le_refl _) hw) (fun v_ τ_ hw => ?_)
            obtain ⟨r_11, rfl, hw⟩ := hw
            obtain ⟨σ_12, rfl⟩ : ∃ z, z = τ_ := ⟨_, rfl⟩
            exact go_iret C hr ⟨_, rfl, hw⟩ dX12_chance_78
        · replace hw := hw.2 hc
          refine go_iconst (v := (-1)) C rfl dX12_chance_64 ?_
          exact go_iret C hr ⟨_, rfl, hw⟩ dX12_chance_65
    · replace hw := hw.2 hc
      refine go_iconst (v := (-1)) C rfl dX12_chance_40 ?_
      exact go_iret C hr ⟨_, rfl, hw⟩ dX12_chance_41
set_option maxRecDepth 20000 in
set_option maxHeartbeats 4000000 in
theorem spX12_chance {l : Launch} {G : GT} {d : Nat}  (hd : 10 ≤ d)   {a1 : Int32} {a2 : Int32} {a3 : Int32} {σ : St} {post : Int32 → St → Prop} (hw : wpX12_chance  a1 a2 a3 σ post) : Sp l G d yX12_chance cX12_chance 6 (some .int) [.ref (G.2.2.1 75), .int a1, .int a2, .int a3] σ (fun v τ => ∃ r : Int32, v = some (.int r) ∧ post r τ) := by
  refine Sp.of (by decide) (by decide) fun X C hr hR hnl => ?_
  show Go X G 0 [(0, .ref (G.2.2.1 75)), (1, .int a1), (2, .int a2), (3, .int a3)] [] σ
  have hw : ((a1 = (-1) →
    wbX12_chance_13 post a1 a2 a3 σ) ∧
  (¬ a1 = (-1) →
    wpX12_isName a1 σ (fun r_1 σ_2 =>
    ((r_1 = 0 →
      post (-1) σ_2) ∧
    (¬ r_1 = 0 →
      wbX12_chance_13 post a1 a2 a3 σ_2))))) := hw
  refine go_iload_n C 1 rfl rfl dX12_chance_0 ?_
  refine go_iconst (v := (-1)) C rfl dX12_chance_1 ?_
  refine go_icmp_eq C 13 rfl dX12_chance_2 (fun hc => ?_) (fun hc => ?_)
  · replace hw := hw.1 hc
    exact (gbX12_chance_13 C hr hR hnl hd) _ _ _ _ hw
  · replace hw := hw.2 hc
    refine go_aload_n C 0 rfl rfl dX12_chance_5 ?_
    refine go_iload_n C 1 rfl rfl dX12_chance_6 ?_
    refine go_callV (as := [.int a1]) C hR (shX12 G) ltX12 cwX12_182 (Nat.le_trans (by decide) hd) (by decide) rfl rfl (by decide) dX12_chance_7 (spX12_isName (Nat.le_refl _) hw) (fun v_ τ_ hw => ?_)
    obtain ⟨r_1, rfl, hw⟩ := hw
    obtain ⟨σ_2, rfl⟩ : ∃ z, z = τ_ := ⟨_, rfl⟩
    refine go_if_eq C 40 rfl dX12_chance_10 (fun hc => ?_) (fun hc => ?_)
    · replace hw := hw.1 hc
      refine go_iconst (v := (-1)) C rfl dX12_chance_40 ?_
      exact go_iret C hr ⟨_, rfl, hw⟩ dX12_chance_41
    · replace hw := hw.2 hc
      exact (gbX12_chance_13 C hr hR hnl hd) _ _ _ _ hw
-- CradleNamesModel.aheadOf(II)I
def wbX12_aheadOf_5   (post : Int32 → St → Prop) : Nat → Int32 → Int32 → Int32 → Int32 → St → Prop
  | 0, _, _, _, _, _ => False
  | n + 1, v1, v2, v3, v4, σ =>
    vp_in 1 9680 ∧ (
    (((gI σ 76 (1 : Int32).toNatClampNeg) ≤ v4 →
      post v3 σ) ∧
    (¬ (gI σ 76 (1 : Int32).toNatClampNeg) ≤ v4 →
      wpX12_all v1 v4 σ (fun r_1 σ_2 =>
      wpX12_all v1 v2 σ_2 (fun r_3 σ_4 =>
      ((r_3 < r_1 →
        ∀ v3_5 : Int32, v3_5 = (v3 + 1) →
        ∀ v4_6 : Int32, v4_6 = v4 + 1 →
        wbX12_aheadOf_5 post n v1 v2 v3_5 v4_6 σ_4) ∧
      (¬ r_3 < r_1 →
        wpX12_all v1 v4 σ_4 (fun r_7 σ_8 =>
        wpX12_all v1 v2 σ_8 (fun r_9 σ_10 =>
        ((¬ r_7 = r_9 →
          ∀ v3_11 : Int32, v3_11 = (v3 + 0) →
          ∀ v4_12 : Int32, v4_12 = v4 + 1 →
          wbX12_aheadOf_5 post n v1 v2 v3_11 v4_12 σ_10) ∧
        (r_7 = r_9 →
          ((v2 ≤ v4 →
            ∀ v3_13 : Int32, v3_13 = (v3 + 0) →
            ∀ v4_14 : Int32, v4_14 = v4 + 1 →
            wbX12_aheadOf_5 post n v1 v2 v3_13 v4_14 σ_10) ∧
          (¬ v2 ≤ v4 →
            ∀ v3_15 : Int32, v3_15 = (v3 + 1) →
            ∀ v4_16 : Int32, v4_16 = v4 + 1 →
            wbX12_aheadOf_5 post n v1 v2 v3_15 v4_16 σ_10)))))))))))))
def wpX12_aheadOf  (a1 : Int32) (a2 : Int32) (σ : St) (post : Int32 → St → Prop) : Prop :=
  ∃ n, wbX12_aheadOf_5 post n a1 a2 0 0 σ
set_option maxRecDepth 20000 in
set_option maxHeartbeats 4000000 in
theorem gbX12_aheadOf_5 {X : XT} {G : GT} {l : Launch} {d : Nat}  {post : Int32 → St → Prop} (C : Cx X G cX12_aheadOf RX12) (hr : Rt X G (some .int) (fun v τ => ∃ r : Int32, v = some (.int r) ∧ post r τ)) (hR : Rm X l d) (hnl : X.2.2.2.2.2.2.2.2.2.2.1 = 5)  (hd : 2 ≤ d)   
    : ∀ (n : Nat) (v1 : Int32) (v2 : Int32) (v3 : Int32) (v4 : Int32) (σ : St), wbX12_aheadOf_5   post n v1 v2 v3 v4 σ → Go X G 5 [(0, .ref (G.2.2.1 75)), (1, .int v1), (2, .int v2), (3, .int v3), (4, .int v4)] [] σ := by
  intro n
  induction n with
  | zero => intro v1 v2 v3 v4 σ hw; exact hw.elim
  | succ n ih =>
    intro v1 v2 v3 v4 σ hw
    have hw : vp_in 1 9680 ∧ (
    (((gI σ 76 (1 : Int32).toNatClampNeg) ≤ v4 →
      post v3 σ) ∧
    (¬ (gI σ 76 (1 : Int32).toNatClampNeg) ≤ v4 →
      wpX12_all v1 v4 σ (fun r_1 σ_2 =>
      wpX12_all v1 v2 σ_2 (fun r_3 σ_4 =>
      ((r_3 < r_1 →
        ∀ v3_5 : Int32, v3_5 = (v3 + 1) →
        ∀ v4_6 : Int32, v4_6 = v4 + 1 →
        wbX12_aheadOf_5 post n v1 v2 v3_5 v4_6 σ_4) ∧
      (¬ r_3 < r_1 →
        wpX12_all v1 v4 σ_4 (fun r_7 σ_8 =>
        wpX12_all v1 v2 σ_8 (fun r_9 σ_10 =>
        ((¬ r_7 = r_9 →
          ∀ v3_11 : Int32, v3_11 = (v3 + 0) →
          ∀ v4_12 : Int32, v4_12 = v4 + 1 →
          wbX12_aheadOf_5 post n v1 v2 v3_11 v4_12 σ_10) ∧
        (r_7 = r_9 →
          ((v2 ≤ v4 →
            ∀ v3_13 : Int32, v3_13 = (v3 + 0) →
            ∀ v4_14 : Int32, v4_14 = v4 + 1 →
            wbX12_aheadOf_5 post n v1 v2 v3_13 v4_14 σ_10) ∧
          (¬ v2 ≤ v4 →
            ∀ v3_15 : Int32, v3_15 = (v3 + 1) →
            ∀ v4_16 : Int32, v4_16 = v4 + 1 →
            wbX12_aheadOf_5 post n v1 v2 v3_15 v4_16 σ_10))))))))))))) := hw
    refine go_iload C 4 rfl dX12_aheadOf_5 ?_
    refine go_aload_n C 0 rfl rfl dX12_aheadOf_7 ?_
    refine go_get (v := .ref (G.2.2.1 76)) C (shX12 G) ltX12 lkX12_7 rfl dX12_aheadOf_8 ?_
    refine go_iconst (v := 1) C rfl dX12_aheadOf_11 ?_
    refine go_iald C (saX12_a G) laX12_a hw.1 dX12_aheadOf_12 ?_
    replace hw := hw.2
    refine go_icmp_ge C 68 rfl dX12_aheadOf_13 (fun hc => ?_) (fun hc => ?_)
    · replace hw := hw.1 hc
      refine go_iload_n C 3 rfl rfl dX12_aheadOf_68 ?_
      exact go_iret C hr ⟨_, rfl, hw⟩ dX12_aheadOf_69
    · replace hw := hw.2 hc
      refine go_iload_n C 3 rfl rfl dX12_aheadOf_16 ?_
      refine go_aload_n C 0 rfl rfl dX12_aheadOf_17 ?_
      refine go_iload_n C 1 rfl rfl dX12_aheadOf_18 ?_
      refine go_iload C 4 rfl dX12_aheadOf_19 ?_
      refine go_callV (as := [.int v1, .int v4]) C hR (shX12 G) ltX12 cwX12_407 (Nat.le_trans (by decide) hd) (by decide) rfl rfl (by decide) dX12_aheadOf_21 (spX12_all (Nat.le_refl _) hw) (fun v_ τ_ hw => ?_)
      obtain ⟨r_1, rfl, hw⟩ := hw
      obtain ⟨σ_2, rfl⟩ : ∃ z, z = τ_ := ⟨_, rfl⟩
      refine go_aload_n C 0 rfl rfl dX12_aheadOf_24 ?_
      refine go_iload_n C 1 rfl rfl dX12_aheadOf_25 ?_
      refine go_iload_n C 2 rfl rfl dX12_aheadOf_26 ?_
      refine go_callV (as := [.int v1, .int v2]) C hR (shX12 G) ltX12 cwX12_407 (Nat.le_trans (by decide) hd) (by decide) rfl rfl (by decide) dX12_aheadOf_27 (spX12_all (Nat.le_refl _) hw) (fun v_ τ_ hw => ?_)
      obtain ⟨r_3, rfl, hw⟩ := hw
      obtain ⟨σ_4, rfl⟩ : ∃ z, z = τ_ := ⟨_, rfl⟩
      refine go_icmp_gt C 55 rfl dX12_aheadOf_30 (fun hc => ?_) (fun hc => ?_)
      · replace hw := hw.1 hc
        refine go_iconst (v := 1) C rfl dX12_aheadOf_55 ?_
        refine go_goto C 60 rfl dX12_aheadOf_56 ?_
        refine go_iadd C dX12_aheadOf_60 ?_
        refine go_topi (fun v3_5 ev3_5 => ?_)
        replace hw := hw v3_5 ev3_5
        refine go_istore_n (lv2 := [(3, .int v3_5), (0, .ref (G.2.2.1 75)), (1, .int v1), (2, .int v2), (4, .int v4)]) C rfl (by rw [hnl]; decide) rfl dX12_aheadOf_61 ?_
        obtain ⟨v4_6, ev4_6⟩ : ∃ z : Int32, z = v4 + 1 := ⟨_, rfl⟩
        replace hw := hw v4_6 ev4_6
        refine go_iinc (v := v4_6) (lv2 := [(4, .int v4_6), (3, .int v3_5), (0, .ref (G.2.2.1 75)), (1, .int v1), (2, .int v2)]) C 4 rfl (by rw [ev4_6]; rfl) (by rw [hnl]; decide) rfl dX12_aheadOf_62 ?_
        refine go_goto C 5 rfl dX12_aheadOf_65 ?_
        refine go_sub [2, 3, 4, 1, 0] rfl ?_
        exact ih _ _ _ _ _ hw
      · replace hw := hw.2 hc
        refine go_aload_n C 0 rfl rfl dX12_aheadOf_33 ?_
        refine go_iload_n C 1 rfl rfl dX12_aheadOf_34 ?_
        refine go_iload C 4 rfl dX12_aheadOf_35 ?_
        refine go_callV (as := [.int v1, .int v4]) C hR (shX12 G) ltX12 cwX12_407 (Nat.le_trans (by decide) hd) (by decide) rfl rfl (by decide) dX12_aheadOf_37 (spX12_all (Nat.le_refl _) hw) (fun v_ τ_ hw => ?_)
        obtain ⟨r_7, rfl, hw⟩ := hw
        obtain ⟨σ_8, rfl⟩ : ∃ z, z = τ_ := ⟨_, rfl⟩
        refine go_aload_n C 0 rfl rfl dX12_aheadOf_40 ?_
        refine go_iload_n C 1 rfl rfl dX12_aheadOf_41 ?_
        refine go_iload_n C 2 rfl rfl dX12_aheadOf_42 ?_
        refine go_callV (as := [.int v1, .int v2]) C hR (shX12 G) ltX12 cwX12_407 (Nat.le_trans (by decide) hd) (by decide) rfl rfl (by decide) dX12_aheadOf_43 (spX12_all (Nat.le_refl _) hw) (fun v_ τ_ hw => ?_)
        obtain ⟨r_9, rfl, hw⟩ := hw
        obtain ⟨σ_10, rfl⟩ : ∃ z, z = τ_ := ⟨_, rfl⟩
        refine go_icmp_ne C 59 rfl dX12_aheadOf_46 (fun hc => ?_) (fun hc => ?_)
        · replace hw := hw.1 hc
          refine go_iconst (v := 0) C rfl dX12_aheadOf_59 ?_
          refine go_iadd C dX12_aheadOf_60 ?_
          refine go_topi (fun v3_11 ev3_11 => ?_)
          replace hw := hw v3_11 ev3_11
          refine go_istore_n (lv2 := [(3, .int v3_11), (0, .ref (G.2.2.1 75)), (1, .int v1), (2, .int v2), (4, .int v4)]) C rfl (by rw [hnl]; decide) rfl dX12_aheadOf_61 ?_
          obtain ⟨v4_12, ev4_12⟩ : ∃ z : Int32, z = v4 + 1 := ⟨_, rfl⟩
          replace hw := hw v4_12 ev4_12
          refine go_iinc (v := v4_12) (lv2 := [(4, .int v4_12), (3, .int v3_11), (0, .ref (G.2.2.1 75)), (1, .int v1), (2, .int v2)]) C 4 rfl (by rw [ev4_12]; rfl) (by rw [hnl]; decide) rfl dX12_aheadOf_62 ?_
          refine go_goto C 5 rfl dX12_aheadOf_65 ?_
          refine go_sub [2, 3, 4, 1, 0] rfl ?_
          exact ih _ _ _ _ _ hw
        · replace hw := hw.2 hc
          refine go_iload C 4 rfl dX12_aheadOf_49 ?_
          refine go_iload_n C 2 rfl rfl dX12_aheadOf_51 ?_
          refine go_icmp_ge C 59 rfl dX12_aheadOf_52 (fun hc => ?_) (fun hc => ?_)
          · replace hw := hw.1 hc
            refine go_iconst (v := 0) C rfl dX12_aheadOf_59 ?_
            refine go_iadd C dX12_aheadOf_60 ?_
            refine go_topi (fun v3_13 ev3_13 => ?_)
            replace hw := hw v3_13 ev3_13
            refine go_istore_n (lv2 := [(3, .int v3_13), (0, .ref (G.2.2.1 75)), (1, .int v1), (2, .int v2), (4, .int v4)]) C rfl (by rw [hnl]; decide) rfl dX12_aheadOf_61 ?_
            obtain ⟨v4_14, ev4_14⟩ : ∃ z : Int32, z = v4 + 1 := ⟨_, rfl⟩
            replace hw := hw v4_14 ev4_14
            refine go_iinc (v := v4_14) (lv2 := [(4, .int v4_14), (3, .int v3_13), (0, .ref (G.2.2.1 75)), (1, .int v1), (2, .int v2)]) C 4 rfl (by rw [ev4_14]; rfl) (by rw [hnl]; decide) rfl dX12_aheadOf_62 ?_
            refine go_goto C 5 rfl dX12_aheadOf_65 ?_
            refine go_sub [2, 3, 4, 1, 0] rfl ?_
            exact ih _ _ _ _ _ hw
          · replace hw := hw.2 hc
            refine go_iconst (v := 1) C rfl dX12_aheadOf_55 ?_
            refine go_goto C 60 rfl dX12_aheadOf_56 ?_
            refine go_iadd C dX12_aheadOf_60 ?_
            refine go_topi (fun v3_15 ev3_15 => ?_)
            replace hw := hw v3_15 ev3_15
            refine go_istore_n (lv2 := [(3, .int v3_15), (0, .ref (G.2.2.1 75)), (1, .int v1), (2, .int v2), (4, .int v4)]) C rfl (by rw [hnl]; decide) rfl dX12_aheadOf_61 ?_
            obtain ⟨v4_16, ev4_16⟩ : ∃ z : Int32, z = v4 + 1 := ⟨_, rfl⟩
            replace hw := hw v4_16 ev4_16
            refine go_iinc (v := v4_16) (lv2 := [(4, .int v4_16), (3, .int v3_15), (0, .ref (G.2.2.1 75)), (1, .int v1), (2, .int v2)]) C 4 rfl (by rw [ev4_16]; rfl) (by rw [hnl]; decide) rfl dX12_aheadOf_62 ?_
            refine go_goto C 5 rfl dX12_aheadOf_65 ?_
            refine go_sub [2, 3, 4, 1, 0] rfl ?_
            exact ih _ _ _ _ _ hw
set_option maxRecDepth 20000 in
set_option maxHeartbeats 4000000 in
theorem spX12_aheadOf {l : Launch} {G : GT} {d : Nat}  (hd : 2 ≤ d)   {a1 : Int32} {a2 : Int32} {σ : St} {post : Int32 → St → Prop} (hw : wpX12_aheadOf  a1 a2 σ post) : Sp l G d yX12_aheadOf cX12_aheadOf 5 (some .int) [.ref (G.2.2.1 75), .int a1, .int a2] σ (fun v τ => ∃ r : Int32, v = some (.int r) ∧ post r τ) := by
  refine Sp.of (by decide) (by decide) fun X C hr hR hnl => ?_
  show Go X G 0 [(0, .ref (G.2.2.1 75)), (1, .int a1), (2, .int a2)] [] σ
  have hw : ∃ n, wbX12_aheadOf_5 post n a1 a2 0 0 σ := hw
  refine go_iconst (v := 0) C rfl dX12_aheadOf_0 ?_
  refine go_istore_n (lv2 := [(3, .int 0), (0, .ref (G.2.2.1 75)), (1, .int a1), (2, .int a2)]) C rfl (by rw [hnl]; decide) rfl dX12_aheadOf_1 ?_
  refine go_iconst (v := 0) C rfl dX12_aheadOf_2 ?_
  refine go_istore (lv2 := [(4, .int 0), (3, .int 0), (0, .ref (G.2.2.1 75)), (1, .int a1), (2, .int a2)]) C (by rw [hnl]; decide) rfl dX12_aheadOf_3 ?_
  refine go_sub [2, 3, 4, 1, 0] rfl ?_
  obtain ⟨n_0, hw⟩ := hw
  exact (gbX12_aheadOf_5 C hr hR hnl hd) n_0 _ _ _ _ _ hw
-- CradleNamesModel.turnover(II)I
def wbX12_turnover_98  (K29 : Int32 → Int32 → Int32 → Int32 → St → Prop) (post : Int32 → St → Prop) (v1 : Int32) (v2 : Int32) (v3 : Int32) (v4 : Int32) (v5 : Int32) (s0 : Int32) (σ : St) : Prop :=
  ((v5 = 0 →
    ∀ v3_1 : Int32, v3_1 = (v3 + 0) →
    ∀ v4_2 : Int32, v4_2 = v4 + 1 →
    K29 v1 v2 v3_1 v4_2 σ) ∧
  (¬ v5 = 0 →
    ((¬ s0 = 0 →
      ∀ v3_3 : Int32, v3_3 = (v3 + 0) →
      ∀ v4_4 : Int32, v4_4 = v4 + 1 →
      K29 v1 v2 v3_3 v4_4 σ) ∧
    (s0 = 0 →
      ∀ v3_5 : Int32, v3_5 = (v3 + 1) →
      ∀ v4_6 : Int32, v4_6 = v4 + 1 →
      K29 v1 v2 v3_5 v4_6 σ))))
def wbX12_turnover_66  (K29 : Int32 → Int32 → Int32 → Int32 → St → Prop) (post : Int32 → St → Prop) (v1 : Int32) (v2 : Int32) (v3 : Int32) (v4 : Int32) (s0 : Int32) (σ : St) : Prop :=
  wpX12_all (v1 - 1) v4 σ (fun r_1 σ_2 =>
  ((r_1 ≤ 0 →
    wbX12_turnover_98 K29 post v1 v2 v3 v4 s0 0 σ_2) ∧
  (¬ r_1 ≤ 0 →
    wpX12_aheadOf (v1 - 1) v4 σ_2 (fun r_3 σ_4 =>
    ((v2 ≤ r_3 →
      wbX12_turnover_98 K29 post v1 v2 v3 v4 s0 0 σ_4) ∧
    (¬ v2 ≤ r_3 →
      wbX12_turnover_98 K29 post v1 v2 v3 v4 s0 1 σ_4))))))
def wbX12_turnover_29   (post : Int32 → St → Prop) : Nat → Int32 → Int32 → Int32 → Int32 → St → Prop
  | 0, _, _, _, _, _ => False
  | n + 1, v1, v2, v3, v4, σ =>
    vp_in 1 9680 ∧ (
    (((gI σ 76 (1 : Int32).toNatClampNeg) ≤ v4 →
      post v3 σ) ∧
    (¬ (gI σ 76 (1 : Int32).toNatClampNeg) ≤ v4 →
      wpX12_all v1 v4 σ (fun r_1 σ_2 =>
      ((r_1 ≤ 0 →
        wbX12_turnover_66 (wbX12_turnover_29 post n) post v1 v2 v3 v4 0 σ_2) ∧
      (¬ r_1 ≤ 0 →
        wpX12_aheadOf v1 v4 σ_2 (fun r_3 σ_4 =>
        ((v2 ≤ r_3 →
          wbX12_turnover_66 (wbX12_turnover_29 post n) post v1 v2 v3 v4 0 σ_4) ∧
        (¬ v2 ≤ r_3 →
          wbX12_turnover_66 (wbX12_turnover_29 post n) post v1 v2 v3 v4 1 σ_4)))))))))
def wpX12_turnover  (a1 : Int32) (a2 : Int32) (σ : St) (post : Int32 → St → Prop) : Prop :=
  wpX12_isGone a1 σ (fun r_1 σ_2 =>
  ((r_1 = 0 →
    post (-1) σ_2) ∧
  (¬ r_1 = 0 →
    wpX12_in a2 1 16 σ_2 (fun r_3 σ_4 =>
    ((¬ r_3 = 0 →
      wpX12_runsAll  σ_4 (fun σ_6 =>
      ∃ n, wbX12_turnover_29 post n a1 a2 0 0 σ_6)) ∧
    (r_3 = 0 →
      post (-1) σ_4))))))
set_option maxRecDepth 20000 in
set_option maxHeartbeats 4000000 in
theorem gbX12_turnover_98 {X : XT} {G : GT} {l : Launch} {d : Nat}  {post : Int32 → St → Prop} (C : Cx X G cX12_turnover RX12) (hr : Rt X G (some .int) (fun v τ => ∃ r : Int32, v = some (.int r) ∧ post r τ)) (hR : Rm X l d) (hnl : X.2.2.2.2.2.2.2.2.2.2.1 = 7)  (hd : 10 ≤ d)  {K29 : Int32 → Int32 → Int32 → Int32 → St → Prop} (hK29 : ∀ (v1 : Int32) (v2 : Int32) (v3 : Int32) (v4 : Int32) (σ : St), K29 v1 v2 v3 v4 σ → Go X G 29 [(0, .ref (G.2.2.1 75)), (1, .int v1), (2, .int v2), (3, .int v3), (4, .int v4)] [] σ)
    : ∀ (v1 : Int32) (v2 : Int32) (v3 : Int32) (v4 : Int32) (v5 : Int32) (s0 : Int32) (σ : St), wbX12_turnover_98  K29 post v1 v2 v3 v4 v5 s0 σ → Go X G 98 [(0, .ref (G.2.2.1 75)), (1, .int v1), (2, .int v2), (3, .int v3), (4, .int v4), (5, .int v5)] [.int s0] σ := by
  intro v1 v2 v3 v4 v5 s0 σ hw
  have hw : ((v5 = 0 →
    ∀ v3_1 : Int32, v3_1 = (v3 + 0) →
    ∀ v4_2 : Int32, v4_2 = v4 + 1 →
    K29 v1 v2 v3_1 v4_2 σ) ∧
  (¬ v5 = 0 →
    ((¬ s0 = 0 →
      ∀ v3_3 : Int32, v3_3 = (v3 + 0) →
      ∀ v4_4 : Int32, v4_4 = v4 + 1 →
      K29 v1 v2 v3_3 v4_4 σ) ∧
    (s0 = 0 →
      ∀ v3_5 : Int32, v3_5 = (v3 + 1) →
      ∀ v4_6 : Int32, v4_6 = v4 + 1 →
      K29 v1 v2 v3_5 v4_6 σ)))) := hw
  refine go_istore (lv2 := [(6, .int s0), (0, .ref (G.2.2.1 75)), (1, .int v1), (2, .int v2), (3, .int v3), (4, .int v4), (5, .int v5)]) C (by rw [hnl]; decide) rfl dX12_turnover_98 ?_
  refine go_iload_n C 4 rfl rfl dX12_turnover_100 ?_
  refine go_iload C 6 rfl dX12_turnover_101 ?_
  refine go_if_eq C 115 rfl dX12_turnover_103 (fun hc => ?_) (fun hc => ?_)
  · replace hw := hw.1 hc
    refine go_iconst (v := 0) C rfl dX12_turnover_115 ?_
    refine go_iadd C dX12_turnover_116 ?_
    refine go_topi (fun v3_1 ev3_1 => ?_)
    replace hw := hw v3_1 ev3_1
    refine go_istore_n (lv2 := [(3, .int v3_1), (6, .int s0), (0, .ref (G.2.2.1 75)), (1, .int v1), (2, .int v2), (4, .int v4), (5, .int v5)]) C rfl (by rw [hnl]; decide) rfl dX12_turnover_117 ?_
    obtain ⟨v4_2, ev4_2⟩ : ∃ z : Int32, z = v4 + 1 := ⟨_, rfl⟩
    replace hw := hw v4_2 ev4_2
    refine go_iinc (v := v4_2) (lv2 := [(4, .int v4_2), (3, .int v3_1), (6, .int s0), (0, .ref (G.2.2.1 75)), (1, .int v1), (2, .int v2), (5, .int v5)]) C 5 rfl (by rw [ev4_2]; rfl) (by rw [hnl]; decide) rfl dX12_turnover_118 ?_
    refine go_goto C 29 rfl dX12_turnover_121 ?_
    refine go_sub [3, 4, 5, 1, 0] rfl ?_
    exact hK29 _ _ _ _ _ hw
  · replace hw := hw.2 hc
    refine go_iload C 0 rfl dX12_turnover_106 ?_
    refine go_if_ne C 115 rfl dX12_turnover_108 (fun hc => ?_) (fun hc => ?_)
    · replace hw := hw.1 hc
      refine go_iconst (v := 0) C rfl dX12_turnover_115 ?_
      refine go_iadd C dX12_turnover_116 ?_
      refine go_topi (fun v3_3 ev3_3 => ?_)
      replace hw := hw v3_3 ev3_3
      refine go_istore_n (lv2 := [(3, .int v3_3), (6, .int s0), (0, .ref (G.2.2.1 75)), (1, .int v1), (2, .int v2), (4, .int v4), (5, .int v5)]) C rfl (by rw [hnl]; decide) rfl dX12_turnover_117 ?_
      obtain ⟨v4_4, ev4_4⟩ : ∃ z : Int32, z = v4 + 1 := ⟨_, rfl⟩
      replace hw := hw v4_4 ev4_4
      refine go_iinc (v := v4_4) (lv2 := [(4, .int v4_4), (3, .int v3_3), (6, .int s0), (0, .ref (G.2.2.1 75)), (1, .int v1), (2, .int v2), (5, .int v5)]) C 5 rfl (by rw [ev4_4]; rfl) (by rw [hnl]; decide) rfl dX12_turnover_118 ?_
      refine go_goto C 29 rfl dX12_turnover_121 ?_
      refine go_sub [3, 4, 5, 1, 0] rfl ?_
      exact hK29 _ _ _ _ _ hw
    · replace hw := hw.2 hc
      refine go_iconst (v := 1) C rfl dX12_turnover_111 ?_
      refine go_goto C 116 rfl dX12_turnover_112 ?_
      refine go_iadd C dX12_turnover_116 ?_
      refine go_topi (fun v3_5 ev3_5 => ?_)
      replace hw := hw v3_5 ev3_5
      refine go_istore_n (lv2 := [(3, .int v3_5), (6, .int s0), (0, .ref (G.2.2.1 75)), (1, .int v1), (2, .int v2), (4, .int v4), (5, .int v5)]) C rfl (by rw [hnl]; decide) rfl dX12_turnover_117 ?_
      obtain ⟨v4_6, ev4_6⟩ : ∃ z : Int32, z = v4 + 1 := ⟨_, rfl⟩
      replace hw := hw v4_6 ev4_6
      refine go_iinc (v := v4_6) (lv2 := [(4, .int v4_6), (3, .int v3_5), (6, .int s0), (0, .ref (G.2.2.1 75)), (1, .int v1), (2, .int v2), (5, .int v5)]) C 5 rfl (by rw [ev4_6]; rfl) (by rw [hnl]; decide) rfl dX12_turnover_118 ?_
      refine go_goto C 29 rfl dX12_turnover_121 ?_
      refine go_sub [3, 4, 5, 1, 0] rfl ?_
      exact hK29 _ _ _ _ _ hw
set_option maxRecDepth 20000 in
set_option maxHeartbeats 4000000 in
theorem gbX12_turnover_66 {X : XT} {G : GT} {l : Launch} {d : Nat}  {post : Int32 → St → Prop} (C : Cx X G cX12_turnover RX12) (hr : Rt X G (some .int) (fun v τ => ∃ r : Int32, v = some (.int r) ∧ post r τ)) (hR : Rm X l d) (hnl : X.2.2.2.2.2.2.2.2.2.2.1 = 7)  (hd : 10 ≤ d)  {K29 : Int32 → Int32 → Int32 → Int32 → St → Prop} (hK29 : ∀ (v1 : Int32) (v2 : Int32) (v3 : Int32) (v4 : Int32) (σ : St), K29 v1 v2 v3 v4 σ → Go X G 29 [(0, .ref (G.2.2.1 75)), (1, .int v1), (2, .int v2), (3, .int v3), (4, .int v4)] [] σ)
    : ∀ (v1 : Int32) (v2 : Int32) (v3 : Int32) (v4 : Int32) (s0 : Int32) (σ : St), wbX12_turnover_66  K29 post v1 v2 v3 v4 s0 σ → Go X G 66 [(0, .ref (G.2.2.1 75)), (1, .int v1), (2, .int v2), (3, .int v3), (4, .int v4)] [.int s0] σ := by
  intro v1 v2 v3 v4 s0 σ hw
  have hw : wpX12_all (v1 - 1) v4 σ (fun r_1 σ_2 =>
  ((r_1 ≤ 0 →
    wbX12_turnover_98 K29 post v1 v2 v3 v4 s0 0 σ_2) ∧
  (¬ r_1 ≤ 0 →
    wpX12_aheadOf (v1 - 1) v4 σ_2 (fun r_3 σ_4 =>
    ((v2 ≤ r_3 →
      wbX12_turnover_98 K29 post v1 v2 v3 v4 s0 0 σ_4) ∧
    (¬ v2 ≤ r_3 →
      wbX12_turnover_98 K29 post v1 v2 v3 v4 s0 1 σ_4)))))) := hw
  refine go_istore (lv2 := [(5, .int s0), (0, .ref (G.2.2.1 75)), (1, .int v1), (2, .int v2), (3, .int v3), (4, .int v4)]) C (by rw [hnl]; decide) rfl dX12_turnover_66 ?_
  refine go_aload_n C 1 rfl rfl dX12_turnover_68 ?_
  refine go_iload_n C 2 rfl rfl dX12_turnover_69 ?_
  refine go_iconst (v := 1) C rfl dX12_turnover_70 ?_
  refine go_isub C dX12_turnover_71 ?_
  refine go_iload C 5 rfl dX12_turnover_72 ?_
  refine go_callV (as := [.int (v1 - 1), .int v4]) C hR (shX12 G) ltX12 cwX12_407 (Nat.le_trans (by decide) hd) (by decide) rfl rfl (by decide) dX12_turnover_74 (spX12_all (Nat.le_refl _) hw) (fun v_ τ_ hw => ?_)
  obtain ⟨r_1, rfl, hw⟩ := hw
  obtain ⟨σ_2, rfl⟩ : ∃ z, z = τ_ := ⟨_, rfl⟩
  refine go_if_le C 97 rfl dX12_turnover_77 (fun hc => ?_) (fun hc => ?_)
  · replace hw := hw.1 hc
    refine go_iconst (v := 0) C rfl dX12_turnover_97 ?_
    refine go_sub [1, 2, 3, 4, 5, 0] rfl ?_
    exact (gbX12_turnover_98 C hr hR hnl hd hK29) _ _ _ _ _ _ _ hw
  · replace hw := hw.2 hc
    refine go_aload_n C 1 rfl rfl dX12_turnover_80 ?_
    refine go_iload_n C 2 rfl rfl dX12_turnover_81 ?_
    refine go_iconst (v := 1) C rfl dX12_turnover_82 ?_
    refine go_isub C dX12_turnover_83 ?_
    refine go_iload C 5 rfl dX12_turnover_84 ?_
    refine go_callV (as := [.int (v1 - 1), .int v4]) C hR (shX12 G) ltX12 cwX12_529 (Nat.le_trans (by decide) hd) (by decide) rfl rfl (by decide) dX12_turnover_86 (spX12_aheadOf (Nat.le_refl _) hw) (fun v_ τ_ hw => ?_)
    obtain ⟨r_3, rfl, hw⟩ := hw
    obtain ⟨σ_4, rfl⟩ : ∃ z, z = τ_ := ⟨_, rfl⟩
    refine go_iload_n C 3 rfl rfl dX12_turnover_89 ?_
    refine go_icmp_ge C 97 rfl dX12_turnover_90 (fun hc => ?_) (fun hc => ?_)
    · replace hw := hw.1 hc
      refine go_iconst (v := 0) C rfl dX12_turnover_97 ?_
      refine go_sub [1, 2, 3, 4, 5, 0] rfl ?_
      exact (gbX12_turnover_98 C hr hR hnl hd hK29) _ _ _ _ _ _ _ hw
    · replace hw := hw.2 hc
      refine go_iconst (v := 1) C rfl dX12_turnover_93 ?_
      refine go_goto C 98 rfl dX12_turnover_94 ?_
      refine go_sub [1, 2, 3, 4, 5, 0] rfl ?_
      exact (gbX12_turnover_98 C hr hR hnl hd hK29) _ _ _ _ _ _ _ hw
set_option maxRecDepth 20000 in
set_option maxHeartbeats 4000000 in
theorem gbX12_turnover_29 {X : XT} {G : GT} {l : Launch} {d : Nat}  {post : Int32 → St → Prop} (C : Cx X G cX12_turnover RX12) (hr : Rt X G (some .int) (fun v τ => ∃ r : Int32, v = some (.int r) ∧ post r τ)) (hR : Rm X l d) (hnl : X.2.2.2.2.2.2.2.2.2.2.1 = 7)  (hd : 10 ≤ d)   
    : ∀ (n : Nat) (v1 : Int32) (v2 : Int32) (v3 : Int32) (v4 : Int32) (σ : St), wbX12_turnover_29   post n v1 v2 v3 v4 σ → Go X G 29 [(0, .ref (G.2.2.1 75)), (1, .int v1), (2, .int v2), (3, .int v3), (4, .int v4)] [] σ := by
  intro n
  induction n with
  | zero => intro v1 v2 v3 v4 σ hw; exact hw.elim
  | succ n ih =>
    intro v1 v2 v3 v4 σ hw
    have hw : vp_in 1 9680 ∧ (
    (((gI σ 76 (1 : Int32).toNatClampNeg) ≤ v4 →
      post v3 σ) ∧
    (¬ (gI σ 76 (1 : Int32).toNatClampNeg) ≤ v4 →
      wpX12_all v1 v4 σ (fun r_1 σ_2 =>
      ((r_1 ≤ 0 →
        wbX12_turnover_66 (wbX12_turnover_29 post n) post v1 v2 v3 v4 0 σ_2) ∧
      (¬ r_1 ≤ 0 →
        wpX12_aheadOf v1 v4 σ_2 (fun r_3 σ_4 =>
        ((v2 ≤ r_3 →
          wbX12_turnover_66 (wbX12_turnover_29 post n) post v1 v2 v3 v4 0 σ_4) ∧
        (¬ v2 ≤ r_3 →
          wbX12_turnover_66 (wbX12_turnover_29 post n) post v1 v2 v3 v4 1 σ_4))))))))) := hw
    refine go_iload C 4 rfl dX12_turnover_29 ?_
    refine go_aload_n C 0 rfl rfl dX12_turnover_31 ?_
    refine go_get (v := .ref (G.2.2.1 76)) C (shX12 G) ltX12 lkX12_7 rfl dX12_turnover_32 ?_
    refine go_iconst (v := 1) C rfl dX12_turnover_35 ?_
    refine go_iald C (saX12_a G) laX12_a hw.1 dX12_turnover_36 ?_
    replace hw := hw.2
    refine go_icmp_ge C 124 rfl dX12_turnover_37 (fun hc => ?_) (fun hc => ?_)
    · replace hw := hw.1 hc
      refine go_iload_n C 3 rfl rfl dX12_turnover_124 ?_
      exact go_iret C hr ⟨_, rfl, hw⟩ dX12_turnover_125
    · replace hw := hw.2 hc
      refine go_aload_n C 0 rfl rfl dX12_turnover_40 ?_
      refine go_iload_n C 1 rfl rfl dX12_turnover_41 ?_
      refine go_iload C 4 rfl dX12_turnover_42 ?_
      refine go_callV (as := [.int v1, .int v4]) C hR (shX12 G) ltX12 cwX12_407 (Nat.le_trans (by decide) hd) (by decide) rfl rfl (by decide) dX12_turnover_44 (spX12_all (Nat.le_refl _) hw) (fun v_ τ_ hw => ?_)
      obtain ⟨r_1, rfl, hw⟩ := hw
      obtain ⟨σ_2, rfl⟩ : ∃ z, z = τ_ := ⟨_, rfl⟩
      refine go_if_le C 65 rfl dX12_turnover_47 (fun hc => ?_) (fun hc => ?_)
      · replace hw := hw.1 hc
        refine go_iconst (v := 0) C rfl dX12_turnover_65 ?_
        exact (gbX12_turnover_66 C hr hR hnl hd ih) _ _ _ _ _ _ hw
      · replace hw := hw.2 hc
        refine go_aload_n C 0 rfl rfl dX12_turnover_50 ?_
        refine go_iload_n C 1 rfl rfl dX12_turnover_51 ?_
        refine go_iload C 4 rfl dX12_turnover_52 ?_
        refine go_callV (as := [.int v1, .int v4]) C hR (shX12 G) ltX12 cwX12_529 (Nat.le_trans (by decide) hd) (by decide) rfl rfl (by decide) dX12_turnover_54 (spX12_aheadOf (Nat.le_refl _) hw) (fun v_ τ_ hw => ?_)
        obtain ⟨r_3, rfl, hw⟩ := hw
        obtain ⟨σ_4, rfl⟩ : ∃ z, z = τ_ := ⟨_, rfl⟩
        refine go_iload_n C 2 rfl rfl dX12_turnover_57 ?_
        refine go_icmp_ge C 65 rfl dX12_turnover_58 (fun hc => ?_) (fun hc => ?_)
        · replace hw := hw.1 hc
          refine go_iconst (v := 0) C rfl dX12_turnover_65 ?_
          exact (gbX12_turnover_66 C hr hR hnl hd ih) _ _ _ _ _ _ hw
        · replace hw := hw.2 hc
          refine go_iconst (v := 1) C rfl dX12_turnover_61 ?_
          refine go_goto C 66 rfl dX12_turnover_62 ?_
          exact (gbX12_turnover_66 C hr hR hnl hd ih) _ _ _ _ _ _ hw
set_option maxRecDepth 20000 in
set_option maxHeartbeats 4000000 in
theorem spX12_turnover {l : Launch} {G : GT} {d : Nat}  (hd : 10 ≤ d)   {a1 : Int32} {a2 : Int32} {σ : St} {post : Int32 → St → Prop} (hw : wpX12_turnover  a1 a2 σ post) : Sp l G d yX12_turnover cX12_turnover 7 (some .int) [.ref (G.2.2.1 75), .int a1, .int a2] σ (fun v τ => ∃ r : Int32, v = some (.int r) ∧ post r τ) := by
  refine Sp.of (by decide) (by decide) fun X C hr hR hnl => ?_
  show Go X G 0 [(0, .ref (G.2.2.1 75)), (1, .int a1), (2, .int a2)] [] σ
  have hw : wpX12_isGone a1 σ (fun r_1 σ_2 =>
  ((r_1 = 0 →
    post (-1) σ_2) ∧
  (¬ r_1 = 0 →
    wpX12_in a2 1 16 σ_2 (fun r_3 σ_4 =>
    ((¬ r_3 = 0 →
      wpX12_runsAll  σ_4 (fun σ_6 =>
      ∃ n, wbX12_turnover_29 post n a1 a2 0 0 σ_6)) ∧
    (r_3 = 0 →
      post (-1) σ_4)))))) := hw
  refine go_aload_n C 0 rfl rfl dX12_turnover_0 ?_
  refine go_iload_n C 1 rfl rfl dX12_turnover_1 ?_
  refine go_callV (as := [.int a1]) C hR (shX12 G) ltX12 cwX12_475 (Nat.le_trans (by decide) hd) (by decide) rfl rfl (by decide) dX12_turnover_2 (spX12_isGone (Nat.le_refl _) hw) (fun v_ τ_ hw => ?_)
  obtain ⟨r_1, rfl, hw⟩ := hw
  obtain ⟨σ_2, rfl⟩ : ∃ z, z = τ_ := ⟨_, rfl⟩
  refine go_if_eq C 18 rfl dX12_turnover_5 (fun hc => ?_) (fun hc => ?_)
  · replace hw := hw.1 hc
    refine go_iconst (v := (-1)) C rfl dX12_turnover_18 ?_
    exact go_iret C hr ⟨_, rfl, hw⟩ dX12_turnover_19
  · replace hw := hw.2 hc
    refine go_iload_n C 2 rfl rfl dX12_turnover_8 ?_
    refine go_iconst (v := 1) C rfl dX12_turnover_9 ?_
    refine go_bipush (v := 16) C rfl dX12_turnover_10 ?_
    refine go_callS (as := [.int a2, .int 1, .int 16]) C hR cwX12_152 (Nat.le_trans (by decide) hd) (by decide) rfl rfl (by decide) dX12_turnover_12 (spX12_in (Nat.le_refl _) hw) (fun v_ τ_ hw => ?_)
    obtain ⟨r_3, rfl, hw⟩ := hw
    obtain ⟨σ_4, rfl⟩ : ∃ z, z = τ_ := ⟨_, rfl⟩
    refine go_if_ne C 20 rfl dX12_turnover_15 (fun hc => ?_) (fun hc => ?_)
    · replace hw := hw.1 hc
      refine go_aload_n C 0 rfl rfl dX12_turnover_20 ?_
      refine go_callV (as := []) C hR (shX12 G) ltX12 cwX12_464 (Nat.le_trans (by decide) hd) (by decide) rfl rfl (by decide) dX12_turnover_21 (spX12_runsAll (Nat.le_refl _) hw) (fun v_ τ_ hw => ?_)
      obtain ⟨rfl, hw⟩ := hw
      obtain ⟨σ_6, rfl⟩ : ∃ z, z = τ_ := ⟨_, rfl⟩
      refine go_iconst (v := 0) C rfl dX12_turnover_24 ?_
      refine go_istore_n (lv2 := [(3, .int 0), (0, .ref (G.2.2.1 75)), (1, .int a1), (2, .int a2)]) C rfl (by rw [hnl]; decide) rfl dX12_turnover_25 ?_
      refine go_iconst (v := 0) C rfl dX12_turnover_26 ?_
      refine go_istore (lv2 := [(4, .int 0), (3, .int 0), (0, .ref (G.2.2.1 75)), (1, .int a1), (2, .int a2)]) C (by rw [hnl]; decide) rfl dX12_turnover_27 ?_
      refine go_sub [2, 3, 4, 1, 0] rfl ?_
      obtain ⟨n_0, hw⟩ := hw
      exact (gbX12_turnover_29 C hr hR hnl hd) n_0 _ _ _ _ _ hw
    · replace hw := hw.2 hc
      refine go_iconst (v := (-1)) C rfl dX12_turnover_18 ?_
      exact go_iret C hr ⟨_, rfl, hw⟩ dX12_turnover_19
-- CradleNamesModel.print(IIIII)I
def wpX12_print  (a1 : Int32) (a2 : Int32) (a3 : Int32) (a4 : Int32) (a5 : Int32) (σ : St) (post : Int32 → St → Prop) : Prop :=
  wpX12_in a1 0 60 σ (fun r_1 σ_2 =>
  ((r_1 = 0 →
    post (-1) σ_2) ∧
  (¬ r_1 = 0 →
    wpX12_in a2 0 2 σ_2 (fun r_3 σ_4 =>
    ((r_3 = 0 →
      post (-1) σ_4) ∧
    (¬ r_3 = 0 →
      wpX12_in a3 0 1 σ_4 (fun r_5 σ_6 =>
      ((r_5 = 0 →
        post (-1) σ_6) ∧
      (¬ r_5 = 0 →
        wpX12_isName a4 σ_6 (fun r_7 σ_8 =>
        ((r_7 = 0 →
          post (-1) σ_8) ∧
        (¬ r_7 = 0 →
          wpX12_in a5 0 99 σ_8 (fun r_9 σ_10 =>
          ((r_9 = 0 →
            post (-1) σ_10) ∧
          (¬ r_9 = 0 →
            vp_in 5 9680 ∧ (
            ((¬ (gI σ_10 76 (5 : Int32).toNatClampNeg) = 150 →
              vp_in 5 9680 ∧ (
              ∀ v6_11 : Int32, v6_11 = (100 + (6 * (gI σ_10 76 (5 : Int32).toNatClampNeg))) →
              vp_in v6_11 9680 ∧ (
              ∀ σ_12 : St, σ_12 = sI σ_10 76 v6_11.toNatClampNeg a1 →
              vp_in (v6_11 + 1) 9680 ∧ (
              ∀ σ_13 : St, σ_13 = sI σ_12 76 (v6_11 + 1).toNatClampNeg a2 →
              vp_in (v6_11 + 2) 9680 ∧ (
              ∀ σ_14 : St, σ_14 = sI σ_13 76 (v6_11 + 2).toNatClampNeg a3 →
              vp_in (v6_11 + 3) 9680 ∧ (
              ∀ σ_15 : St, σ_15 = sI σ_14 76 (v6_11 + 3).toNatClampNeg a4 →
              vp_in (v6_11 + 4) 9680 ∧ (
              ∀ σ_16 : St, σ_16 = sI σ_15 76 (v6_11 + 4).toNatClampNeg a5 →
              vp_in 0 9680 ∧ (
              vp_in (v6_11 + 5) 9680 ∧ (
              ∀ σ_17 : St, σ_17 = sI σ_16 76 (v6_11 + 5).toNatClampNeg (gI σ_16 76 (0 : Int32).toNatClampNeg) →
              vp_in 5 9680 ∧ (
              vp_in 5 9680 ∧ (
              ∀ σ_18 : St, σ_18 = sI σ_17 76 (5 : Int32).toNatClampNeg ((gI σ_17 76 (5 : Int32).toNatClampNeg) + 1) →
              vp_in 5 9680 ∧ (
              post (gI σ_18 76 (5 : Int32).toNatClampNeg) σ_18)))))))))))) ∧
            ((gI σ_10 76 (5 : Int32).toNatClampNeg) = 150 →
              post (-1) σ_10))))))))))))))))))
set_option maxRecDepth 20000 in
set_option maxHeartbeats 4000000 in
theorem spX12_print {l : Launch} {G : GT} {d : Nat}  (hd : 3 ≤ d)   {a1 : Int32} {a2 : Int32} {a3 : Int32} {a4 : Int32} {a5 : Int32} {σ : St} {post : Int32 → St → Prop} (hw : wpX12_print  a1 a2 a3 a4 a5 σ post) : Sp l G d yX12_print cX12_print 7 (some .int) [.ref (G.2.2.1 75), .int a1, .int a2, .int a3, .int a4, .int a5] σ (fun v τ => ∃ r : Int32, v = some (.int r) ∧ post r τ) := by
  refine Sp.of (by decide) (by decide) fun X C hr hR hnl => ?_
  show Go X G 0 [(0, .ref (G.2.2.1 75)), (1, .int a1), (2, .int a2), (3, .int a3), (4, .int a4), (5, .int a5)] [] σ
  have hw : wpX12_in a1 0 60 σ (fun r_1 σ_2 =>
  ((r_1 = 0 →
    post (-1) σ_2) ∧
  (¬ r_1 = 0 →
    wpX12_in a2 0 2 σ_2 (fun r_3 σ_4 =>
    ((r_3 = 0 →
      post (-1) σ_4) ∧
    (¬ r_3 = 0 →
      wpX12_in a3 0 1 σ_4 (fun r_5 σ_6 =>
      ((r_5 = 0 →
        post (-1) σ_6) ∧
      (¬ r_5 = 0 →
        wpX12_isName a4 σ_6 (fun r_7 σ_8 =>
        ((r_7 = 0 →
          post (-1) σ_8) ∧
        (¬ r_7 = 0 →
          wpX12_in a5 0 99 σ_8 (fun r_9 σ_10 =>
          ((r_9 = 0 →
            post (-1) σ_10) ∧
          (¬ r_9 = 0 →
            vp_in 5 9680 ∧ (
            ((¬ (gI σ_10 76 (5 : Int32).toNatClampNeg) = 150 →
              vp_in 5 9680 ∧ (
              ∀ v6_11 : Int32, v6_11 = (100 + (6 * (gI σ_10 76 (5 : Int32).toNatClampNeg))) →
              vp_in v6_11 9680 ∧ (
              ∀ σ_12 : St, σ_12 = sI σ_10 76 v6_11.toNatClampNeg a1 →
              vp_in (v6_11 + 1) 9680 ∧ (
              ∀ σ_13 : St, σ_13 = sI σ_12 76 (v6_11 + 1).toNatClampNeg a2 →
              vp_in (v6_11 + 2) 9680 ∧ (
              ∀ σ_14 : St, σ_14 = sI σ_13 76 (v6_11 + 2).toNatClampNeg a3 →
              vp_in (v6_11 + 3) 9680 ∧ (
              ∀ σ_15 : St, σ_15 = sI σ_14 76 (v6_11 + 3).toNatClampNeg a4 →
              vp_in (v6_11 + 4) 9680 ∧ (
              ∀ σ_16 : St, σ_16 = sI σ_15 76 (v6_11 + 4).toNatClampNeg a5 →
              vp_in 0 9680 ∧ (
              vp_in (v6_11 + 5) 9680 ∧ (
              ∀ σ_17 : St, σ_17 = sI σ_16 76 (v6_11 + 5).toNatClampNeg (gI σ_16 76 (0 : Int32).toNatClampNeg) →
              vp_in 5 9680 ∧ (
              vp_in 5 9680 ∧ (
              ∀ σ_18 : St, σ_18 = sI σ_17 76 (5 : Int32).toNatClampNeg ((gI σ_17 76 (5 : Int32).toNatClampNeg) + 1) →
              vp_in 5 9680 ∧ (
              post (gI σ_18 76 (5 : Int32).toNatClampNeg) σ_18)))))))))))) ∧
            ((gI σ_10 76 (5 : Int32).toNatClampNeg) = 150 →
              post (-1) σ_10)))))))))))))))))) := hw
  refine go_iload_n C 1 rfl rfl dX12_print_0 ?_
  refine go_iconst (v := 0) C rfl dX12_print_1 ?_
  refine go_bipush (v := 60) C rfl dX12_print_2 ?_
  refine go_callS (as := [.int a1, .int 0, .int 60]) C hR cwX12_152 (Nat.le_trans (by decide) hd) (by decide) rfl rfl (by decide) dX12_print_4 (spX12_in (Nat.le_refl _) hw) (fun v_ τ_ hw => ?_)
  obtain ⟨r_1, rfl, hw⟩ := hw
  obtain ⟨σ_2, rfl⟩ : ∃ z, z = τ_ := ⟨_, rfl⟩
  refine go_if_eq C 60 rfl dX12_print_7 (fun hc => ?_) (fun hc => ?_)
  · replace hw := hw.1 hc
    refine go_iconst (v := (-1)) C rfl dX12_print_60 ?_
    exact go_iret C hr ⟨_, rfl, hw⟩ dX12_print_61
  · replace hw := hw.2 hc
    refine go_iload_n C 2 rfl rfl dX12_print_10 ?_
    refine go_iconst (v := 0) C rfl dX12_print_11 ?_
    refine go_iconst (v := 2) C rfl dX12_print_12 ?_
    refine go_callS (as := [.int a2, .int 0, .int 2]) C hR cwX12_152 (Nat.le_trans (by decide) hd) (by decide) rfl rfl (by decide) dX12_print_13 (spX12_in (Nat.le_refl _) hw) (fun v_ τ_ hw => ?_)
    obtain ⟨r_3, rfl, hw⟩ := hw
    obtain ⟨σ_4, rfl⟩ : ∃ z, z = τ_ := ⟨_, rfl⟩
    refine go_if_eq C 60 rfl dX12_print_16 (fun hc => ?_) (fun hc => ?_)
    · replace hw := hw.1 hc
      refine go_iconst (v := (-1)) C rfl dX12_print_60 ?_
      exact go_iret C hr ⟨_, rfl, hw⟩ dX12_print_61
    · replace hw := hw.2 hc
      refine go_iload_n C 3 rfl rfl dX12_print_19 ?_
      refine go_iconst (v := 0) C rfl dX12_print_20 ?_
      refine go_iconst (v := 1) C rfl dX12_print_21 ?_
      refine go_callS (as := [.int a3, .int 0, .int 1]) C hR cwX12_152 (Nat.le_trans (by decide) hd) (by decide) rfl rfl (by decide) dX12_print_22 (spX12_in (Nat.le_refl _) hw) (fun v_ τ_ hw => ?_)
      obtain ⟨r_5, rfl, hw⟩ := hw
      obtain ⟨σ_6, rfl⟩ : ∃ z, z = τ_ := ⟨_, rfl⟩
      refine go_if_eq C 60 rfl dX12_print_25 (fun hc => ?_) (fun hc => ?_)
      · replace hw := hw.1 hc
        refine go_iconst (v := (-1)) C rfl dX12_print_60 ?_
        exact go_iret C hr ⟨_, rfl, hw⟩ dX12_print_61
      · replace hw := hw.2 hc
        refine go_aload_n C 0 rfl rfl dX12_print_28 ?_
        refine go_iload C 4 rfl dX12_print_29 ?_
        refine go_callV (as := [.int a4]) C hR (shX12 G) ltX12 cwX12_182 (Nat.le_trans (by decide) hd) (by decide) rfl rfl (by decide) dX12_print_31 (spX12_isName (Nat.le_refl _) hw) (fun v_ τ_ hw => ?_)
        obtain ⟨r_7, rfl, hw⟩ := hw
        obtain ⟨σ_8, rfl⟩ : ∃ z, z = τ_ := ⟨_, rfl⟩
        refine go_if_eq C 60 rfl dX12_print_34 (fun hc => ?_) (fun hc => ?_)
        · replace hw := hw.1 hc
          refine go_iconst (v := (-1)) C rfl dX12_print_60 ?_
          exact go_iret C hr ⟨_, rfl, hw⟩ dX12_print_61
        · replace hw := hw.2 hc
          refine go_iload C 5 rfl dX12_print_37 ?_
          refine go_iconst (v := 0) C rfl dX12_print_39 ?_
          refine go_bipush (v := 99) C rfl dX12_print_40 ?_
          refine go_callS (as := [.int a5, .int 0, .int 99]) C hR cwX12_152 (Nat.le_trans (by decide) hd) (by decide) rfl rfl (by decide) dX12_print_42 (spX12_in (Nat.le_refl _) hw) (fun v_ τ_ hw => ?_)
          obtain ⟨r_9, rfl, hw⟩ := hw
          obtain ⟨σ_10, rfl⟩ : ∃ z, z = τ_ := ⟨_, rfl⟩
          refine go_if_eq C 60 rfl dX12_print_45 (fun hc => ?_) (fun hc => ?_)
          · replace hw := hw.1 hc
            refine go_iconst (v := (-1)) C rfl dX12_print_60 ?_
            exact go_iret C hr ⟨_, rfl, hw⟩ dX12_print_61
          · replace hw := hw.2 hc
            refine go_aload_n C 0 rfl rfl dX12_print_48 ?_
            refine go_get (v := .ref (G.2.2.1 76)) C (shX12 G) ltX12 lkX12_7 rfl dX12_print_49 ?_
            refine go_iconst (v := 5) C rfl dX12_print_52 ?_
            refine go_iald C (saX12_a G) laX12_a hw.1 dX12_print_53 ?_
            replace hw := hw.2
            refine go_sipush (v := 150) C rfl dX12_print_54 ?_
            refine go_icmp_ne C 62 rfl dX12_print_57 (fun hc => ?_) (fun hc => ?_)
            · replace hw := hw.1 hc
              refine go_bipush (v := 100) C rfl dX12_print_62 ?_
              refine go_bipush (v := 6) C rfl dX12_print_64 ?_
              refine go_aload_n C 0 rfl rfl dX12_print_66 ?_
              refine go_get (v := .ref (G.2.2.1 76)) C (shX12 G) ltX12 lkX12_7 rfl dX12_print_67 ?_
              refine go_iconst (v := 5) C rfl dX12_print_70 ?_
              refine go_iald C (saX12_a G) laX12_a hw.1 dX12_print_71 ?_
              replace hw := hw.2
              refine go_imul C dX12_print_72 ?_
              refine go_iadd C dX12_print_73 ?_
              refine go_topi (fun v6_11 ev6_11 => ?_)
              replace hw := hw v6_11 ev6_11
              refine go_istore (lv2 := [(6, .int v6_11), (0, .ref (G.2.2.1 75)), (1, .int a1), (2, .int a2), (3, .int a3), (4, .int a4), (5, .int a5)]) C (by rw [hnl]; decide) rfl dX12_print_74 ?_
              refine go_aload_n C 1 rfl rfl dX12_print_76 ?_
              refine go_get (v := .ref (G.2.2.1 76)) C (shX12 G) ltX12 lkX12_7 rfl dX12_print_77 ?_
              refine go_iload C 0 rfl dX12_print_80 ?_
              refine go_iload_n C 2 rfl rfl dX12_print_82 ?_
              refine go_iast C (saX12_a G) laX12_a hw.1 dX12_print_83 (go_nm fun σ_12 eσ_12 => ?_)
              replace hw := hw.2 σ_12 eσ_12
              refine go_aload_n C 1 rfl rfl dX12_print_84 ?_
              refine go_get (v := .ref (G.2.2.1 76)) C (shX12 G) ltX12 lkX12_7 rfl dX12_print_85 ?_
              refine go_iload C 0 rfl dX12_print_88 ?_
              refine go_iconst (v := 1) C rfl dX12_print_90 ?_
              refine go_iadd C dX12_print_91 ?_
              refine go_iload_n C 3 rfl rfl dX12_print_92 ?_
              refine go_iast C (saX12_a G) laX12_a hw.1 dX12_print_93 (go_nm fun σ_13 eσ_13 => ?_)
              replace hw := hw.2 σ_13 eσ_13
              refine go_aload_n C 1 rfl rfl dX12_print_94 ?_
              refine go_get (v := .ref (G.2.2.1 76)) C (shX12 G) ltX12 lkX12_7 rfl dX12_print_95 ?_
              refine go_iload C 0 rfl dX12_print_98 ?_
              refine go_iconst (v := 2) C rfl dX12_print_100 ?_
              refine go_iadd C dX12_print_101 ?_
              refine go_iload_n C 4 rfl rfl dX12_print_102 ?_
              refine go_iast C (saX12_a G) laX12_a hw.1 dX12_print_103 (go_nm fun σ_14 eσ_14 => ?_)
              replace hw := hw.2 σ_14 eσ_14
              refine go_aload_n C 1 rfl rfl dX12_print_104 ?_
              refine go_get (v := .ref (G.2.2.1 76)) C (shX12 G) ltX12 lkX12_7 rfl dX12_print_105 ?_
              refine go_iload C 0 rfl dX12_print_108 ?_
              refine go_iconst (v := 3) C rfl dX12_print_110 ?_
              refine go_iadd C dX12_print_111 ?_
              refine go_iload C 5 rfl dX12_print_112 ?_
              refine go_iast C (saX12_a G) laX12_a hw.1 dX12_print_114 (go_nm fun σ_15 eσ_15 => ?_)
              replace hw := hw.2 σ_15 eσ_15
              refine go_aload_n C 1 rfl rfl dX12_print_115 ?_
              refine go_get (v := .ref (G.2.2.1 76)) C (shX12 G) ltX12 lkX12_7 rfl dX12_print_116 ?_
              refine go_iload C 0 rfl dX12_print_119 ?_
              refine go_iconst (v := 4) C rfl dX12_print_121 ?_
              refine go_iadd C dX12_print_122 ?_
              refine go_iload C 6 rfl dX12_print_123 ?_
              refine go_iast C (saX12_a G) laX12_a hw.1 dX12_print_125 (go_nm fun σ_16 eσ_16 => ?_)
              replace hw := hw.2 σ_16 eσ_16
              refine go_aload_n C 1 rfl rfl dX12_print_126 ?_
              refine go_get (v := .ref (G.2.2.1 76)) C (shX12 G) ltX12 lkX12_7 rfl dX12_print_127 ?_
              refine go_iload C 0 rfl dX12_print_130 ?_
              refine go_iconst (v := 5) C rfl dX12_print_132 ?_
              refine go_iadd C dX12_print_133 ?_
              refine go_aload_n C 1 rfl rfl dX12_print_134 ?_
              refine go_get (v := .ref (G.2.2.1 76)) C (shX12 G) ltX12 lkX12_7 rfl dX12_print_135 ?_
              refine go_iconst (v := 0) C rfl dX12_print_138 ?_
              refine go_iald C (saX12_a G) laX12_a hw.1 dX12_print_139 ?_
              replace hw := hw.2
              refine go_iast C (saX12_a G) laX12_a hw.1 dX12_print_140 (go_nm fun σ_17 eσ_17 => ?_)
              replace hw := hw.2 σ_17 eσ_17
              refine go_aload_n C 1 rfl rfl dX12_print_141 ?_
              refine go_get (v := .ref (G.2.2.1 76)) C (shX12 G) ltX12 lkX12_7 rfl dX12_print_142 ?_
              refine go_iconst (v := 5) C rfl dX12_print_145 ?_
              refine go_dup2 C rfl rfl dX12_print_146 ?_
              refine go_iald C (saX12_a G) laX12_a hw.1 dX12_print_147 ?_
              replace hw := hw.2
              refine go_iconst (v := 1) C rfl dX12_print_148 ?_
              refine go_iadd C dX12_print_149 ?_
              refine go_iast C (saX12_a G) laX12_a hw.1 dX12_print_150 (go_nm fun σ_18 eσ_18 => ?_)
              replace hw := hw.2 σ_18 eσ_18
              refine go_aload_n C 1 rfl rfl dX12_print_151 ?_
              refine go_get (v := .ref (G.2.2.1 76)) C (shX12 G) ltX12 lkX12_7 rfl dX12_print_152 ?_
              refine go_iconst (v := 5) C rfl dX12_print_155 ?_
              refine go_iald C (saX12_a G) laX12_a hw.1 dX12_print_156 ?_
              replace hw := hw.2
              exact go_iret C hr ⟨_, rfl, hw⟩ dX12_print_157
            · replace hw := hw.2 hc
              refine go_iconst (v := (-1)) C rfl dX12_print_60 ?_
              exact go_iret C hr ⟨_, rfl, hw⟩ dX12_print_61
-- CradleNamesModel.isLet(II)Z
def wbX12_isLet_77   (post : Int32 → St → Prop) : Nat → Int32 → Int32 → Int32 → St → Prop
  | 0, _, _, _, _ => False
  | n + 1, v2, v4, v5, σ =>
    vp_in 5 9680 ∧ (
    (((gI σ 76 (5 : Int32).toNatClampNeg) ≤ v5 →
      (v4 = 0 ∨ v4 = 1) ∧ post v4 σ) ∧
    (¬ (gI σ 76 (5 : Int32).toNatClampNeg) ≤ v5 →
      ((v4 = 0 →
        (v4 = 0 ∨ v4 = 1) ∧ post v4 σ) ∧
      (¬ v4 = 0 →
        ∀ v6_1 : Int32, v6_1 = (100 + (6 * v5)) →
        vp_in (v6_1 + 5) 9680 ∧ (
        ((v2 < (gI σ 76 (v6_1 + 5).toNatClampNeg) →
          ∀ v5_2 : Int32, v5_2 = v5 + 1 →
          wbX12_isLet_77 post n v2 1 v5_2 σ) ∧
        (¬ v2 < (gI σ 76 (v6_1 + 5).toNatClampNeg) →
          vp_in v6_1 9680 ∧ (
          vp_in (v6_1 + 1) 9680 ∧ (
          vp_in (v6_1 + 2) 9680 ∧ (
          vp_in (v6_1 + 3) 9680 ∧ (
          wpX12_sumOf (gI σ 76 v6_1.toNatClampNeg) (gI σ 76 (v6_1 + 1).toNatClampNeg) (-1) (gI σ 76 (v6_1 + 2).toNatClampNeg) (gI σ 76 (v6_1 + 3).toNatClampNeg) σ (fun r_3 σ_4 =>
          vp_in (v6_1 + 4) 9680 ∧ (
          ((¬ r_3 = (gI σ_4 76 (v6_1 + 4).toNatClampNeg) →
            ∀ v5_5 : Int32, v5_5 = v5 + 1 →
            wbX12_isLet_77 post n v2 0 v5_5 σ_4) ∧
          (r_3 = (gI σ_4 76 (v6_1 + 4).toNatClampNeg) →
            ∀ v5_6 : Int32, v5_6 = v5 + 1 →
            wbX12_isLet_77 post n v2 1 v5_6 σ_4))))))))))))))))
def wbX12_isLet_5   (post : Int32 → St → Prop) : Nat → Int32 → Int32 → Int32 → Int32 → St → Prop
  | 0, _, _, _, _, _ => False
  | n + 1, v1, v2, v3, v4, σ =>
    vp_in 5 9680 ∧ (
    (((gI σ 76 (5 : Int32).toNatClampNeg) ≤ v4 →
      wpX12_runs (v3 + 1) (-1) 0 v1 σ (fun σ_2 =>
      ∃ n, wbX12_isLet_77 post n v2 1 0 σ_2)) ∧
    (¬ (gI σ 76 (5 : Int32).toNatClampNeg) ≤ v4 →
      ∀ v5_3 : Int32, v5_3 = (100 + (6 * v4)) →
      vp_in (v5_3 + 5) 9680 ∧ (
      ((v2 < (gI σ 76 (v5_3 + 5).toNatClampNeg) →
        ∀ v4_4 : Int32, v4_4 = v4 + 1 →
        wbX12_isLet_5 post n v1 v2 v3 v4_4 σ) ∧
      (¬ v2 < (gI σ 76 (v5_3 + 5).toNatClampNeg) →
        vp_in v5_3 9680 ∧ (
        wpX12_greater v3 (gI σ 76 v5_3.toNatClampNeg) σ (fun r_5 σ_6 =>
        ∀ v4_7 : Int32, v4_7 = v4 + 1 →
        wbX12_isLet_5 post n v1 v2 r_5 v4_7 σ_6))))))))
def wpX12_isLet  (a1 : Int32) (a2 : Int32) (σ : St) (post : Int32 → St → Prop) : Prop :=
  ∃ n, wbX12_isLet_5 post n a1 a2 (-1) 0 σ
set_option maxRecDepth 20000 in
set_option maxHeartbeats 4000000 in
theorem gbX12_isLet_77 {X : XT} {G : GT} {l : Launch} {d : Nat}  {post : Int32 → St → Prop} (C : Cx X G cX12_isLet RX12) (hr : Rt X G (some .boolean) (fun v τ => ∃ r : Int32, v = some (.int r) ∧ post r τ)) (hR : Rm X l d) (hnl : X.2.2.2.2.2.2.2.2.2.2.1 = 7)  (hd : 9 ≤ d)   
    : ∀ (n : Nat) (v2 : Int32) (v4 : Int32) (v5 : Int32) (σ : St), wbX12_isLet_77   post n v2 v4 v5 σ → Go X G 77 [(0, .ref (G.2.2.1 75)), (2, .int v2), (4, .int v4), (5, .int v5)] [] σ := by
  intro n
  induction n with
  | zero => intro v2 v4 v5 σ hw; exact hw.elim
  | succ n ih =>
    intro v2 v4 v5 σ hw
    have hw : vp_in 5 9680 ∧ (
    (((gI σ 76 (5 : Int32).toNatClampNeg) ≤ v5 →
      (v4 = 0 ∨ v4 = 1) ∧ post v4 σ) ∧
    (¬ (gI σ 76 (5 : Int32).toNatClampNeg) ≤ v5 →
      ((v4 = 0 →
        (v4 = 0 ∨ v4 = 1) ∧ post v4 σ) ∧
      (¬ v4 = 0 →
        ∀ v6_1 : Int32, v6_1 = (100 + (6 * v5)) →
        vp_in (v6_1 + 5) 9680 ∧ (
        ((v2 < (gI σ 76 (v6_1 + 5).toNatClampNeg) →
          ∀ v5_2 : Int32, v5_2 = v5 + 1 →
          wbX12_isLet_77 post n v2 1 v5_2 σ) ∧
        (¬ v2 < (gI σ 76 (v6_1 + 5).toNatClampNeg) →
          vp_in v6_1 9680 ∧ (
          vp_in (v6_1 + 1) 9680 ∧ (
          vp_in (v6_1 + 2) 9680 ∧ (
          vp_in (v6_1 + 3) 9680 ∧ (
          wpX12_sumOf (gI σ 76 v6_1.toNatClampNeg) (gI σ 76 (v6_1 + 1).toNatClampNeg) (-1) (gI σ 76 (v6_1 + 2).toNatClampNeg) (gI σ 76 (v6_1 + 3).toNatClampNeg) σ (fun r_3 σ_4 =>
          vp_in (v6_1 + 4) 9680 ∧ (
          ((¬ r_3 = (gI σ_4 76 (v6_1 + 4).toNatClampNeg) →
            ∀ v5_5 : Int32, v5_5 = v5 + 1 →
            wbX12_isLet_77 post n v2 0 v5_5 σ_4) ∧
          (r_3 = (gI σ_4 76 (v6_1 + 4).toNatClampNeg) →
            ∀ v5_6 : Int32, v5_6 = v5 + 1 →
            wbX12_isLet_77 post n v2 1 v5_6 σ_4)))))))))))))))) := hw
    refine go_iload C 3 rfl dX12_isLet_77 ?_
    refine go_aload_n C 0 rfl rfl dX12_isLet_79 ?_
    refine go_get (v := .ref (G.2.2.1 76)) C (shX12 G) ltX12 lkX12_7 rfl dX12_isLet_80 ?_
    refine go_iconst (v := 5) C rfl dX12_isLet_83 ?_
    refine go_iald C (saX12_a G) laX12_a hw.1 dX12_isLet_84 ?_
    replace hw := hw.2
    refine go_icmp_ge C 180 rfl dX12_isLet_85 (fun hc => ?_) (fun hc => ?_)
    · replace hw := hw.1 hc
      refine go_iload C 2 rfl dX12_isLet_180 ?_
      exact go_zret C hr (bool_nar hw.1) ⟨_, rfl, hw.2⟩ dX12_isLet_182
    · replace hw := hw.2 hc
      refine go_iload C 2 rfl dX12_isLet_88 ?_
      refine go_if_eq C 180 rfl dX12_isLet_90 (fun hc => ?_) (fun hc => ?_)
      · replace hw := hw.1 hc
        refine go_iload C 2 rfl dX12_isLet_180 ?_
        exact go_zret C hr (bool_nar hw.1) ⟨_, rfl, hw.2⟩ dX12_isLet_182
      · replace hw := hw.2 hc
        refine go_bipush (v := 100) C rfl dX12_isLet_93 ?_
        refine go_bipush (v := 6) C rfl dX12_isLet_95 ?_
        refine go_iload C 3 rfl dX12_isLet_97 ?_
        refine go_imul C dX12_isLet_99 ?_
        refine go_iadd C dX12_isLet_100 ?_
        refine go_topi (fun v6_1 ev6_1 => ?_)
        replace hw := hw v6_1 ev6_1
        refine go_istore (lv2 := [(6, .int v6_1), (0, .ref (G.2.2.1 75)), (2, .int v2), (4, .int v4), (5, .int v5)]) C (by rw [hnl]; decide) rfl dX12_isLet_101 ?_
        refine go_aload_n C 1 rfl rfl dX12_isLet_103 ?_
        refine go_get (v := .ref (G.2.2.1 76)) C (shX12 G) ltX12 lkX12_7 rfl dX12_isLet_104 ?_
        refine go_iload C 0 rfl dX12_isLet_107 ?_
        refine go_iconst (v := 5) C rfl dX12_isLet_109 ?_
        refine go_iadd C dX12_isLet_110 ?_
        refine go_iald C (saX12_a G) laX12_a hw.1 dX12_isLet_111 ?_
        replace hw := hw.2
        refine go_iload_n C 2 rfl rfl dX12_isLet_112 ?_
        refine go_icmp_gt C 167 rfl dX12_isLet_113 (fun hc => ?_) (fun hc => ?_)
        · replace hw := hw.1 hc
          refine go_iconst (v := 1) C rfl dX12_isLet_167 ?_
          refine go_goto C 172 rfl dX12_isLet_168 ?_
          refine go_istore (lv2 := [(4, .int 1), (6, .int v6_1), (0, .ref (G.2.2.1 75)), (2, .int v2), (5, .int v5)]) C (by rw [hnl]; decide) rfl dX12_isLet_172 ?_
          obtain ⟨v5_2, ev5_2⟩ : ∃ z : Int32, z = v5 + 1 := ⟨_, rfl⟩
          replace hw := hw v5_2 ev5_2
          refine go_iinc (v := v5_2) (lv2 := [(5, .int v5_2), (4, .int 1), (6, .int v6_1), (0, .ref (G.2.2.1 75)), (2, .int v2)]) C 4 rfl (by rw [ev5_2]; rfl) (by rw [hnl]; decide) rfl dX12_isLet_174 ?_
          refine go_goto C 77 rfl dX12_isLet_177 ?_
          refine go_sub [3, 4, 1, 0] rfl ?_
          exact ih _ _ _ _ hw
        · replace hw := hw.2 hc
          refine go_aload_n C 1 rfl rfl dX12_isLet_116 ?_
          refine go_aload_n C 1 rfl rfl dX12_isLet_117 ?_
          refine go_get (v := .ref (G.2.2.1 76)) C (shX12 G) ltX12 lkX12_7 rfl dX12_isLet_118 ?_
          refine go_iload C 0 rfl dX12_isLet_121 ?_
          refine go_iald C (saX12_a G) laX12_a hw.1 dX12_isLet_123 ?_
          replace hw := hw.2
          refine go_aload_n C 1 rfl rfl dX12_isLet_124 ?_
          refine go_get (v := .ref (G.2.2.1 76)) C (shX12 G) ltX12 lkX12_7 rfl dX12_isLet_125 ?_
          refine go_iload C 0 rfl dX12_isLet_128 ?_
          refine go_iconst (v := 1) C rfl dX12_isLet_130 ?_
          refine go_iadd C dX12_isLet_131 ?_
          refine go_iald C (saX12_a G) laX12_a hw.1 dX12_isLet_132 ?_
          replace hw := hw.2
          refine go_iconst (v := (-1)) C rfl dX12_isLet_133 ?_
          refine go_aload_n C 1 rfl rfl dX12_isLet_134 ?_
          refine go_get (v := .ref (G.2.2.1 76)) C (shX12 G) ltX12 lkX12_7 rfl dX12_isLet_135 ?_
          refine go_iload C 0 rfl dX12_isLet_138 ?_
          refine go_iconst (v := 2) C rfl dX12_isLet_140 ?_
          refine go_iadd C dX12_isLet_141 ?_
          refine go_iald C (saX12_a G) laX12_a hw.1 dX12_isLet_142 ?_
          replace hw := hw.2
          refine go_aload_n C 1 rfl rfl dX12_isLet_143 ?_
          refine go_get (v := .ref (G.2.2.1 76)) C (shX12 G) ltX12 lkX12_7 rfl dX12_isLet_144 ?_
          refine go_iload C 0 rfl dX12_isLet_147 ?_
          refine go_iconst (v := 3) C rfl dX12_isLet_149 ?_
          refine go_iadd C dX12_isLet_150 ?_
          refine go_iald C (saX12_a G) laX12_a hw.1 dX12_isLet_151 ?_
          replace hw := hw.2
          refine go_callV (as := [.int (gI σ 76 v6_1.toNatClampNeg), .int (gI σ 76 (v6_1 + 1).toNatClampNeg), .int (-1), .int (gI σ 76 (v6_1 + 2).toNatClampNeg), .int (gI σ 76 (v6_1 + 3).toNatClampNeg)]) C hR (shX12 G) ltX12 cwX12_471 (Nat.le_trans (by decide) hd) (by decide) rfl rfl (by decide) dX12_isLet_152 (spX12_sumOf (Nat.le_refl _) hw) (fun v_ τ_ hw => ?_)
          obtain ⟨r_3, rfl, hw⟩ := hw
          obtain ⟨σ_4, rfl⟩ : ∃ z, z = τ_ := ⟨_, rfl⟩
          refine go_aload_n C 1 rfl rfl dX12_isLet_155 ?_
          refine go_get (v := .ref (G.2.2.1 76)) C (shX12 G) ltX12 lkX12_7 rfl dX12_isLet_156 ?_
          refine go_iload C 0 rfl dX12_isLet_159 ?_
          refine go_iconst (v := 4) C rfl dX12_isLet_161 ?_
          refine go_iadd C dX12_isLet_162 ?_
          refine go_iald C (saX12_a G) laX12_a hw.1 dX12_isLet_163 ?_
          replace hw := hw.2
          refine go_icmp_ne C 171 rfl dX12_isLet_164 (fun hc => ?_) (fun hc => ?_)
          · replace hw := hw.1 hc
            refine go_iconst (v := 0) C rfl dX12_isLet_171 ?_
            refine go_istore (lv2 := [(4, .int 0), (6, .int v6_1), (0, .ref (G.2.2.1 75)), (2, .int v2), (5, .int v5)]) C (by rw [hnl]; decide) rfl dX12_isLet_172 ?_
            obtain ⟨v5_5, ev5_5⟩ : ∃ z : Int32, z = v5 + 1 := ⟨_, rfl⟩
            replace hw := hw v5_5 ev5_5
            refine go_iinc (v := v5_5) (lv2 := [(5, .int v5_5), (4, .int 0), (6, .int v6_1), (0, .ref (G.2.2.1 75)), (2, .int v2)]) C 4 rfl (by rw [ev5_5]; rfl) (by rw [hnl]; decide) rfl dX12_isLet_174 ?_
            refine go_goto C 77 rfl dX12_isLet_177 ?_
            refine go_sub [3, 4, 1, 0] rfl ?_
            exact ih _ _ _ _ hw
          · replace hw := hw.2 hc
            refine go_iconst (v := 1) C rfl dX12_isLet_167 ?_
            refine go_goto C 172 rfl dX12_isLet_168 ?_
            refine go_istore (lv2 := [(4, .int 1), (6, .int v6_1), (0, .ref (G.2.2.1 75)), (2, .int v2), (5, .int v5)]) C (by rw [hnl]; decide) rfl dX12_isLet_172 ?_
            obtain ⟨v5_6, ev5_6⟩ : ∃ z : Int32, z = v5 + 1 := ⟨_, rfl⟩
            replace hw := hw v5_6 ev5_6
            refine go_iinc (v := v5_6) (lv2 := [(5, .int v5_6), (4, .int 1), (6, .int v6_1), (0, .ref (G.2.2.1 75)), (2, .int v2)]) C 4 rfl (by rw [ev5_6]; rfl) (by rw [hnl]; decide) rfl dX12_isLet_174 ?_
            refine go_goto C 77 rfl dX12_isLet_177 ?_
            refine go_sub [3, 4, 1, 0] rfl ?_
            exact ih _ _ _ _ hw
set_option maxRecDepth 20000 in
set_option maxHeartbeats 4000000 in
theorem gbX12_isLet_5 {X : XT} {G : GT} {l : Launch} {d : Nat}  {post : Int32 → St → Prop} (C : Cx X G cX12_isLet RX12) (hr : Rt X G (some .boolean) (fun v τ => ∃ r : Int32, v = some (.int r) ∧ post r τ)) (hR : Rm X l d) (hnl : X.2.2.2.2.2.2.2.2.2.2.1 = 7)  (hd : 9 ≤ d)   
    : ∀ (n : Nat) (v1 : Int32) (v2 : Int32) (v3 : Int32) (v4 : Int32) (σ : St), wbX12_isLet_5   post n v1 v2 v3 v4 σ → Go X G 5 [(0, .ref (G.2.2.1 75)), (1, .int v1), (2, .int v2), (3, .int v3), (4, .int v4)] [] σ := by
  intro n
  induction n with
  | zero => intro v1 v2 v3 v4 σ hw; exact hw.elim
  | succ n ih =>
    intro v1 v2 v3 v4 σ hw
    have hw : vp_in 5 9680 ∧ (
    (((gI σ 76 (5 : Int32).toNatClampNeg) ≤ v4 →
      wpX12_runs (v3 + 1) (-1) 0 v1 σ (fun σ_2 =>
      ∃ n, wbX12_isLet_77 post n v2 1 0 σ_2)) ∧
    (¬ (gI σ 76 (5 : Int32).toNatClampNeg) ≤ v4 →
      ∀ v5_3 : Int32, v5_3 = (100 + (6 * v4)) →
      vp_in (v5_3 + 5) 9680 ∧ (
      ((v2 < (gI σ 76 (v5_3 + 5).toNatClampNeg) →
        ∀ v4_4 : Int32, v4_4 = v4 + 1 →
        wbX12_isLet_5 post n v1 v2 v3 v4_4 σ) ∧
      (¬ v2 < (gI σ 76 (v5_3 + 5).toNatClampNeg) →
        vp_in v5_3 9680 ∧ (
        wpX12_greater v3 (gI σ 76 v5_3.toNatClampNeg) σ (fun r_5 σ_6 =>
        ∀ v4_7 : Int32, v4_7 = v4 + 1 →
        wbX12_isLet_5 post n v1 v2 r_5 v4_7 σ_6)))))))) := hw
    refine go_iload C 4 rfl dX12_isLet_5 ?_
    refine go_aload_n C 0 rfl rfl dX12_isLet_7 ?_
    refine go_get (v := .ref (G.2.2.1 76)) C (shX12 G) ltX12 lkX12_7 rfl dX12_isLet_8 ?_
    refine go_iconst (v := 5) C rfl dX12_isLet_11 ?_
    refine go_iald C (saX12_a G) laX12_a hw.1 dX12_isLet_12 ?_
    replace hw := hw.2
    refine go_icmp_ge C 61 rfl dX12_isLet_13 (fun hc => ?_) (fun hc => ?_)
    · replace hw := hw.1 hc
      refine go_aload_n C 0 rfl rfl dX12_isLet_61 ?_
      refine go_iload_n C 3 rfl rfl dX12_isLet_62 ?_
      refine go_iconst (v := 1) C rfl dX12_isLet_63 ?_
      refine go_iadd C dX12_isLet_64 ?_
      refine go_iconst (v := (-1)) C rfl dX12_isLet_65 ?_
      refine go_iconst (v := 0) C rfl dX12_isLet_66 ?_
      refine go_iload_n C 1 rfl rfl dX12_isLet_67 ?_
      refine go_callV (as := [.int (v3 + 1), .int (-1), .int 0, .int v1]) C hR (shX12 G) ltX12 cwX12_188 (Nat.le_trans (by decide) hd) (by decide) rfl rfl (by decide) dX12_isLet_68 (spX12_runs (Nat.le_refl _) hw) (fun v_ τ_ hw => ?_)
      obtain ⟨rfl, hw⟩ := hw
      obtain ⟨σ_2, rfl⟩ : ∃ z, z = τ_ := ⟨_, rfl⟩
      refine go_iconst (v := 1) C rfl dX12_isLet_71 ?_
      refine go_istore (lv2 := [(4, .int 1), (0, .ref (G.2.2.1 75)), (1, .int v1), (2, .int v2), (3, .int v3)]) C (by rw [hnl]; decide) rfl dX12_isLet_72 ?_
      refine go_iconst (v := 0) C rfl dX12_isLet_74 ?_
      refine go_istore (lv2 := [(5, .int 0), (4, .int 1), (0, .ref (G.2.2.1 75)), (1, .int v1), (2, .int v2), (3, .int v3)]) C (by rw [hnl]; decide) rfl dX12_isLet_75 ?_
      refine go_sub [2, 4, 1, 0] rfl ?_
      obtain ⟨n_0, hw⟩ := hw
      exact (gbX12_isLet_77 C hr hR hnl hd) n_0 _ _ _ _ hw
    · replace hw := hw.2 hc
      refine go_bipush (v := 100) C rfl dX12_isLet_16 ?_
      refine go_bipush (v := 6) C rfl dX12_isLet_18 ?_
      refine go_iload C 4 rfl dX12_isLet_20 ?_
      refine go_imul C dX12_isLet_22 ?_
      refine go_iadd C dX12_isLet_23 ?_
      refine go_topi (fun v5_3 ev5_3 => ?_)
      replace hw := hw v5_3 ev5_3
      refine go_istore (lv2 := [(5, .int v5_3), (0, .ref (G.2.2.1 75)), (1, .int v1), (2, .int v2), (3, .int v3), (4, .int v4)]) C (by rw [hnl]; decide) rfl dX12_isLet_24 ?_
      refine go_aload_n C 1 rfl rfl dX12_isLet_26 ?_
      refine go_get (v := .ref (G.2.2.1 76)) C (shX12 G) ltX12 lkX12_7 rfl dX12_isLet_27 ?_
      refine go_iload C 0 rfl dX12_isLet_30 ?_
      refine go_iconst (v := 5) C rfl dX12_isLet_32 ?_
      refine go_iadd C dX12_isLet_33 ?_
      refine go_iald C (saX12_a G) laX12_a hw.1 dX12_isLet_34 ?_
      replace hw := hw.2
      refine go_iload_n C 3 rfl rfl dX12_isLet_35 ?_
      refine go_icmp_gt C 53 rfl dX12_isLet_36 (fun hc => ?_) (fun hc => ?_)
      · replace hw := hw.1 hc
        refine go_iload_n C 4 rfl rfl dX12_isLet_53 ?_
        refine go_istore_n (lv2 := [(3, .int v3), (5, .int v5_3), (0, .ref (G.2.2.1 75)), (1, .int v1), (2, .int v2), (4, .int v4)]) C rfl (by rw [hnl]; decide) rfl dX12_isLet_54 ?_
        obtain ⟨v4_4, ev4_4⟩ : ∃ z : Int32, z = v4 + 1 := ⟨_, rfl⟩
        replace hw := hw v4_4 ev4_4
        refine go_iinc (v := v4_4) (lv2 := [(4, .int v4_4), (3, .int v3), (5, .int v5_3), (0, .ref (G.2.2.1 75)), (1, .int v1), (2, .int v2)]) C 5 rfl (by rw [ev4_4]; rfl) (by rw [hnl]; decide) rfl dX12_isLet_55 ?_
        refine go_goto C 5 rfl dX12_isLet_58 ?_
        refine go_sub [3, 4, 5, 1, 0] rfl ?_
        exact ih _ _ _ _ _ hw
      · replace hw := hw.2 hc
        refine go_iload_n C 4 rfl rfl dX12_isLet_39 ?_
        refine go_aload_n C 1 rfl rfl dX12_isLet_40 ?_
        refine go_get (v := .ref (G.2.2.1 76)) C (shX12 G) ltX12 lkX12_7 rfl dX12_isLet_41 ?_
        refine go_iload C 0 rfl dX12_isLet_44 ?_
        refine go_iald C (saX12_a G) laX12_a hw.1 dX12_isLet_46 ?_
        replace hw := hw.2
        refine go_callS (as := [.int v3, .int (gI σ 76 v5_3.toNatClampNeg)]) C hR cwX12_410 (Nat.le_trans (by decide) hd) (by decide) rfl rfl (by decide) dX12_isLet_47 (spX12_greater (Nat.le_refl _) hw) (fun v_ τ_ hw => ?_)
        obtain ⟨r_5, rfl, hw⟩ := hw
        obtain ⟨σ_6, rfl⟩ : ∃ z, z = τ_ := ⟨_, rfl⟩
        refine go_goto C 54 rfl dX12_isLet_50 ?_
        refine go_istore_n (lv2 := [(3, .int r_5), (5, .int v5_3), (0, .ref (G.2.2.1 75)), (1, .int v1), (2, .int v2), (4, .int v4)]) C rfl (by rw [hnl]; decide) rfl dX12_isLet_54 ?_
        obtain ⟨v4_7, ev4_7⟩ : ∃ z : Int32, z = v4 + 1 := ⟨_, rfl⟩
        replace hw := hw v4_7 ev4_7
        refine go_iinc (v := v4_7) (lv2 := [(4, .int v4_7), (3, .int r_5), (5, .int v5_3), (0, .ref (G.2.2.1 75)), (1, .int v1), (2, .int v2)]) C 5 rfl (by rw [ev4_7]; rfl) (by rw [hnl]; decide) rfl dX12_isLet_55 ?_
        refine go_goto C 5 rfl dX12_isLet_58 ?_
        refine go_sub [3, 4, 5, 1, 0] rfl ?_
        exact ih _ _ _ _ _ hw
set_option maxRecDepth 20000 in
set_option maxHeartbeats 4000000 in
theorem spX12_isLet {l : Launch} {G : GT} {d : Nat}  (hd : 9 ≤ d)   {a1 : Int32} {a2 : Int32} {σ : St} {post : Int32 → St → Prop} (hw : wpX12_isLet  a1 a2 σ post) : Sp l G d yX12_isLet cX12_isLet 7 (some .boolean) [.ref (G.2.2.1 75), .int a1, .int a2] σ (fun v τ => ∃ r : Int32, v = some (.int r) ∧ post r τ) := by
  refine Sp.of (by decide) (by decide) fun X C hr hR hnl => ?_
  show Go X G 0 [(0, .ref (G.2.2.1 75)), (1, .int a1), (2, .int a2)] [] σ
  have hw : ∃ n, wbX12_isLet_5 post n a1 a2 (-1) 0 σ := hw
  refine go_iconst (v := (-1)) C rfl dX12_isLet_0 ?_
  refine go_istore_n (lv2 := [(3, .int (-1)), (0, .ref (G.2.2.1 75)), (1, .int a1), (2, .int a2)]) C rfl (by rw [hnl]; decide) rfl dX12_isLet_1 ?_
  refine go_iconst (v := 0) C rfl dX12_isLet_2 ?_
  refine go_istore (lv2 := [(4, .int 0), (3, .int (-1)), (0, .ref (G.2.2.1 75)), (1, .int a1), (2, .int a2)]) C (by rw [hnl]; decide) rfl dX12_isLet_3 ?_
  refine go_sub [2, 3, 4, 1, 0] rfl ?_
  obtain ⟨n_0, hw⟩ := hw
  exact (gbX12_isLet_5 C hr hR hnl hd) n_0 _ _ _ _ _ hw
-- CradleNamesModel.let(II)I
def wbX12_let_53  (K30 : Int32 → Int32 → Int32 → Int32 → St → Prop) (post : Int32 → St → Prop) (v1 : Int32) (v2 : Int32) (v4 : Int32) (s0 : Int32) (σ : St) : Prop :=
  wpX12_isLet v4 v2 σ (fun r_1 σ_2 =>
  ((r_1 = 0 →
    ∀ v3_3 : Int32, v3_3 = (s0 + 0) →
    ∀ v4_4 : Int32, v4_4 = v4 + 1 →
    K30 v1 v2 v3_3 v4_4 σ_2) ∧
  (¬ r_1 = 0 →
    ∀ v3_5 : Int32, v3_5 = (s0 + 1) →
    ∀ v4_6 : Int32, v4_6 = v4 + 1 →
    K30 v1 v2 v3_5 v4_6 σ_2)))
def wbX12_let_30   (post : Int32 → St → Prop) : Nat → Int32 → Int32 → Int32 → Int32 → St → Prop
  | 0, _, _, _, _, _ => False
  | n + 1, v1, v2, v3, v4, σ =>
    vp_in 4 9680 ∧ (
    (((gI σ 76 (4 : Int32).toNatClampNeg) ≤ v4 →
      post v3 σ) ∧
    (¬ (gI σ 76 (4 : Int32).toNatClampNeg) ≤ v4 →
      ((v1 = (-1) →
        wbX12_let_53 (wbX12_let_30 post n) post v1 v2 v4 v3 σ) ∧
      (¬ v1 = (-1) →
        ((¬ v1 = v4 →
          ∀ v3_1 : Int32, v3_1 = (v3 + 0) →
          ∀ v4_2 : Int32, v4_2 = v4 + 1 →
          wbX12_let_30 post n v1 v2 v3_1 v4_2 σ) ∧
        (v1 = v4 →
          wbX12_let_53 (wbX12_let_30 post n) post v1 v2 v4 v3 σ)))))))
def wbX12_let_13   (post : Int32 → St → Prop) (v1 : Int32) (v2 : Int32) (σ : St) : Prop :=
  wpX12_in v2 0 61 σ (fun r_1 σ_2 =>
  ((¬ r_1 = 0 →
    ∃ n, wbX12_let_30 post n v1 v2 0 0 σ_2) ∧
  (r_1 = 0 →
    post (-1) σ_2)))
def wpX12_let  (a1 : Int32) (a2 : Int32) (σ : St) (post : Int32 → St → Prop) : Prop :=
  ((a1 = (-1) →
    wbX12_let_13 post a1 a2 σ) ∧
  (¬ a1 = (-1) →
    wpX12_isTaste a1 σ (fun r_1 σ_2 =>
    ((r_1 = 0 →
      post (-1) σ_2) ∧
    (¬ r_1 = 0 →
      wbX12_let_13 post a1 a2 σ_2)))))
set_option maxRecDepth 20000 in
set_option maxHeartbeats 4000000 in
theorem gbX12_let_53 {X : XT} {G : GT} {l : Launch} {d : Nat}  {post : Int32 → St → Prop} (C : Cx X G cX12_let RX12) (hr : Rt X G (some .int) (fun v τ => ∃ r : Int32, v = some (.int r) ∧ post r τ)) (hR : Rm X l d) (hnl : X.2.2.2.2.2.2.2.2.2.2.1 = 5)  (hd : 10 ≤ d)  {K30 : Int32 → Int32 → Int32 → Int32 → St → Prop} (hK30 : ∀ (v1 : Int32) (v2 : Int32) (v3 : Int32) (v4 : Int32) (σ : St), K30 v1 v2 v3 v4 σ → Go X G 30 [(0, .ref (G.2.2.1 75)), (1, .int v1), (2, .int v2), (3, .int v3), (4, .int v4)] [] σ)
    : ∀ (v1 : Int32) (v2 : Int32) (v4 : Int32) (s0 : Int32) (σ : St), wbX12_let_53  K30 post v1 v2 v4 s0 σ → Go X G 53 [(0, .ref (G.2.2.1 75)), (1, .int v1), (2, .int v2), (4, .int v4)] [.int s0] σ := by
  intro v1 v2 v4 s0 σ hw
  have hw : wpX12_isLet v4 v2 σ (fun r_1 σ_2 =>
  ((r_1 = 0 →
    ∀ v3_3 : Int32, v3_3 = (s0 + 0) →
    ∀ v4_4 : Int32, v4_4 = v4 + 1 →
    K30 v1 v2 v3_3 v4_4 σ_2) ∧
  (¬ r_1 = 0 →
    ∀ v3_5 : Int32, v3_5 = (s0 + 1) →
    ∀ v4_6 : Int32, v4_6 = v4 + 1 →
    K30 v1 v2 v3_5 v4_6 σ_2))) := hw
  refine go_aload_n C 0 rfl rfl dX12_let_53 ?_
  refine go_iload C 3 rfl dX12_let_54 ?_
  refine go_iload_n C 2 rfl rfl dX12_let_56 ?_
  refine go_callV (as := [.int v4, .int v2]) C hR (shX12 G) ltX12 cwX12_532 (Nat.le_trans (by decide) hd) (by decide) rfl rfl (by decide) dX12_let_57 (spX12_isLet (Nat.le_refl _) hw) (fun v_ τ_ hw => ?_)
  obtain ⟨r_1, rfl, hw⟩ := hw
  obtain ⟨σ_2, rfl⟩ : ∃ z, z = τ_ := ⟨_, rfl⟩
  refine go_if_eq C 67 rfl dX12_let_60 (fun hc => ?_) (fun hc => ?_)
  · replace hw := hw.1 hc
    refine go_iconst (v := 0) C rfl dX12_let_67 ?_
    refine go_iadd C dX12_let_68 ?_
    refine go_topi (fun v3_3 ev3_3 => ?_)
    replace hw := hw v3_3 ev3_3
    refine go_istore_n (lv2 := [(3, .int v3_3), (0, .ref (G.2.2.1 75)), (1, .int v1), (2, .int v2), (4, .int v4)]) C rfl (by rw [hnl]; decide) rfl dX12_let_69 ?_
    obtain ⟨v4_4, ev4_4⟩ : ∃ z : Int32, z = v4 + 1 := ⟨_, rfl⟩
    replace hw := hw v4_4 ev4_4
    refine go_iinc (v := v4_4) (lv2 := [(4, .int v4_4), (3, .int v3_3), (0, .ref (G.2.2.1 75)), (1, .int v1), (2, .int v2)]) C 4 rfl (by rw [ev4_4]; rfl) (by rw [hnl]; decide) rfl dX12_let_70 ?_
    refine go_goto C 30 rfl dX12_let_73 ?_
    refine go_sub [2, 3, 4, 1, 0] rfl ?_
    exact hK30 _ _ _ _ _ hw
  · replace hw := hw.2 hc
    refine go_iconst (v := 1) C rfl dX12_let_63 ?_
    refine go_goto C 68 rfl dX12_let_64 ?_
    refine go_iadd C dX12_let_68 ?_
    refine go_topi (fun v3_5 ev3_5 => ?_)
    replace hw := hw v3_5 ev3_5
    refine go_istore_n (lv2 := [(3, .int v3_5), (0, .ref (G.2.2.1 75)), (1, .int v1), (2, .int v2), (4, .int v4)]) C rfl (by rw [hnl]; decide) rfl dX12_let_69 ?_
    obtain ⟨v4_6, ev4_6⟩ : ∃ z : Int32, z = v4 + 1 := ⟨_, rfl⟩
    replace hw := hw v4_6 ev4_6
    refine go_iinc (v := v4_6) (lv2 := [(4, .int v4_6), (3, .int v3_5), (0, .ref (G.2.2.1 75)), (1, .int v1), (2, .int v2)]) C 4 rfl (by rw [ev4_6]; rfl) (by rw [hnl]; decide) rfl dX12_let_70 ?_
    refine go_goto C 30 rfl dX12_let_73 ?_
    refine go_sub [2, 3, 4, 1, 0] rfl ?_
    exact hK30 _ _ _ _ _ hw
set_option maxRecDepth 20000 in
set_option maxHeartbeats 4000000 in
theorem gbX12_let_30 {X : XT} {G : GT} {l : Launch} {d : Nat}  {post : Int32 → St → Prop} (C : Cx X G cX12_let RX12) (hr : Rt X G (some .int) (fun v τ => ∃ r : Int32, v = some (.int r) ∧ post r τ)) (hR : Rm X l d) (hnl : X.2.2.2.2.2.2.2.2.2.2.1 = 5)  (hd : 10 ≤ d)   
    : ∀ (n : Nat) (v1 : Int32) (v2 : Int32) (v3 : Int32) (v4 : Int32) (σ : St), wbX12_let_30   post n v1 v2 v3 v4 σ → Go X G 30 [(0, .ref (G.2.2.1 75)), (1, .int v1), (2, .int v2), (3, .int v3), (4, .int v4)] [] σ := by
  intro n
  induction n with
  | zero => intro v1 v2 v3 v4 σ hw; exact hw.elim
  | succ n ih =>
    intro v1 v2 v3 v4 σ hw
    have hw : vp_in 4 9680 ∧ (
    (((gI σ 76 (4 : Int32).toNatClampNeg) ≤ v4 →
      post v3 σ) ∧
    (¬ (gI σ 76 (4 : Int32).toNatClampNeg) ≤ v4 →
      ((v1 = (-1) →
        wbX12_let_53 (wbX12_let_30 post n) post v1 v2 v4 v3 σ) ∧
      (¬ v1 = (-1) →
        ((¬ v1 = v4 →
          ∀ v3_1 : Int32, v3_1 = (v3 + 0) →
          ∀ v4_2 : Int32, v4_2 = v4 + 1 →
          wbX12_let_30 post n v1 v2 v3_1 v4_2 σ) ∧
        (v1 = v4 →
          wbX12_let_53 (wbX12_let_30 post n) post v1 v2 v4 v3 σ))))))) := hw
    refine go_iload C 4 rfl dX12_let_30 ?_
    refine go_aload_n C 0 rfl rfl dX12_let_32 ?_
    refine go_get (v := .ref (G.2.2.1 76)) C (shX12 G) ltX12 lkX12_7 rfl dX12_let_33 ?_
    refine go_iconst (v := 4) C rfl dX12_let_36 ?_
    refine go_iald C (saX12_a G) laX12_a hw.1 dX12_let_37 ?_
    replace hw := hw.2
    refine go_icmp_ge C 76 rfl dX12_let_38 (fun hc => ?_) (fun hc => ?_)
    · replace hw := hw.1 hc
      refine go_iload_n C 3 rfl rfl dX12_let_76 ?_
      exact go_iret C hr ⟨_, rfl, hw⟩ dX12_let_77
    · replace hw := hw.2 hc
      refine go_iload_n C 3 rfl rfl dX12_let_41 ?_
      refine go_iload_n C 1 rfl rfl dX12_let_42 ?_
      refine go_iconst (v := (-1)) C rfl dX12_let_43 ?_
      refine go_icmp_eq C 53 rfl dX12_let_44 (fun hc => ?_) (fun hc => ?_)
      · replace hw := hw.1 hc
        refine go_sub [0, 1, 2, 4] rfl ?_
        exact (gbX12_let_53 C hr hR hnl hd ih) _ _ _ _ _ hw
      · replace hw := hw.2 hc
        refine go_iload_n C 1 rfl rfl dX12_let_47 ?_
        refine go_iload C 4 rfl dX12_let_48 ?_
        refine go_icmp_ne C 67 rfl dX12_let_50 (fun hc => ?_) (fun hc => ?_)
        · replace hw := hw.1 hc
          refine go_iconst (v := 0) C rfl dX12_let_67 ?_
          refine go_iadd C dX12_let_68 ?_
          refine go_topi (fun v3_1 ev3_1 => ?_)
          replace hw := hw v3_1 ev3_1
          refine go_istore_n (lv2 := [(3, .int v3_1), (0, .ref (G.2.2.1 75)), (1, .int v1), (2, .int v2), (4, .int v4)]) C rfl (by rw [hnl]; decide) rfl dX12_let_69 ?_
          obtain ⟨v4_2, ev4_2⟩ : ∃ z : Int32, z = v4 + 1 := ⟨_, rfl⟩
          replace hw := hw v4_2 ev4_2
          refine go_iinc (v := v4_2) (lv2 := [(4, .int v4_2), (3, .int v3_1), (0, .ref (G.2.2.1 75)), (1, .int v1), (2, .int v2)]) C 4 rfl (by rw [ev4_2]; rfl) (by rw [hnl]; decide) rfl dX12_let_70 ?_
          refine go_goto C 30 rfl dX12_let_73 ?_
          refine go_sub [2, 3, 4, 1, 0] rfl ?_
          exact ih _ _ _ _ _ hw
        · replace hw := hw.2 hc
          refine go_sub [0, 1, 2, 4] rfl ?_
          exact (gbX12_let_53 C hr hR hnl hd ih) _ _ _ _ _ hw
set_option maxRecDepth 20000 in
set_option maxHeartbeats 4000000 in
theorem gbX12_let_13 {X : XT} {G : GT} {l : Launch} {d : Nat}  {post : Int32 → St → Prop} (C : Cx X G cX12_let RX12) (hr : Rt X G (some .int) (fun v τ => ∃ r : Int32, v = some (.int r) ∧ post r τ)) (hR : Rm X l d) (hnl : X.2.2.2.2.2.2.2.2.2.2.1 = 5)  (hd : 10 ≤ d)   
    : ∀ (v1 : Int32) (v2 : Int32) (σ : St), wbX12_let_13   post v1 v2 σ → Go X G 13 [(0, .ref (G.2.2.1 75)), (1, .int v1), (2, .int v2)] [] σ := by
  intro v1 v2 σ hw
  have hw : wpX12_in v2 0 61 σ (fun r_1 σ_2 =>
  ((¬ r_1 = 0 →
    ∃ n, wbX12_let_30 post n v1 v2 0 0 σ_2) ∧
  (r_1 = 0 →
    post (-1) σ_2))) := hw
  refine go_iload_n C 2 rfl rfl dX12_let_13 ?_
  refine go_iconst (v := 0) C rfl dX12_let_14 ?_
  refine go_bipush (v := 61) C rfl dX12_let_15 ?_
  refine go_callS (as := [.int v2, .int 0, .int 61]) C hR cwX12_152 (Nat.le_trans (by decide) hd) (by decide) rfl rfl (by decide) dX12_let_17 (spX12_in (Nat.le_refl _) hw) (fun v_ τ_ hw => ?_)
  obtain ⟨r_1, rfl, hw⟩ := hw
  obtain ⟨σ_2, rfl⟩ : ∃ z, z = τ_ := ⟨_, rfl⟩
  refine go_if_ne C 25 rfl dX12_let_20 (fun hc => ?_) (fun hc => ?_)
  · replace hw := hw.1 hc
    refine go_iconst (v := 0) C rfl dX12_let_25 ?_
    refine go_istore_n (lv2 := [(3, .int 0), (0, .ref (G.2.2.1 75)), (1, .int v1), (2, .int v2)]) C rfl (by rw [hnl]; decide) rfl dX12_let_26 ?_
    refine go_iconst (v := 0) C rfl dX12_let_27 ?_
    refine go_istore (lv2 := [(4, .int 0), (3, .int 0), (0, .ref (G.2.2.1 75)), (1, .int v1), (2, .int v2)]) C (by rw [hnl]; decide) rfl dX12_let_28 ?_
    refine go_sub [2, 3, 4, 1, 0] rfl ?_
    obtain ⟨n_0, hw⟩ := hw
    exact (gbX12_let_30 C hr hR hnl hd) n_0 _ _ _ _ _ hw
  · replace hw := hw.2 hc
    refine go_iconst (v := (-1)) C rfl dX12_let_23 ?_
    exact go_iret C hr ⟨_, rfl, hw⟩ dX12_let_24
set_option maxRecDepth 20000 in
set_option maxHeartbeats 4000000 in
theorem spX12_let {l : Launch} {G : GT} {d : Nat}  (hd : 10 ≤ d)   {a1 : Int32} {a2 : Int32} {σ : St} {post : Int32 → St → Prop} (hw : wpX12_let  a1 a2 σ post) : Sp l G d yX12_let cX12_let 5 (some .int) [.ref (G.2.2.1 75), .int a1, .int a2] σ (fun v τ => ∃ r : Int32, v = some (.int r) ∧ post r τ) := by
  refine Sp.of (by decide) (by decide) fun X C hr hR hnl => ?_
  show Go X G 0 [(0, .ref (G.2.2.1 75)), (1, .int a1), (2, .int a2)] [] σ
  have hw : ((a1 = (-1) →
    wbX12_let_13 post a1 a2 σ) ∧
  (¬ a1 = (-1) →
    wpX12_isTaste a1 σ (fun r_1 σ_2 =>
    ((r_1 = 0 →
      post (-1) σ_2) ∧
    (¬ r_1 = 0 →
      wbX12_let_13 post a1 a2 σ_2))))) := hw
  refine go_iload_n C 1 rfl rfl dX12_let_0 ?_
  refine go_iconst (v := (-1)) C rfl dX12_let_1 ?_
  refine go_icmp_eq C 13 rfl dX12_let_2 (fun hc => ?_) (fun hc => ?_)
  · replace hw := hw.1 hc
    exact (gbX12_let_13 C hr hR hnl hd) _ _ _ hw
  · replace hw := hw.2 hc
    refine go_aload_n C 0 rfl rfl dX12_let_5 ?_
    refine go_iload_n C 1 rfl rfl dX12_let_6 ?_
    refine go_callV (as := [.int a1]) C hR (shX12 G) ltX12 cwX12_404 (Nat.le_trans (by decide) hd) (by decide) rfl rfl (by decide) dX12_let_7 (spX12_isTaste (Nat.le_refl _) hw) (fun v_ τ_ hw => ?_)
    obtain ⟨r_1, rfl, hw⟩ := hw
    obtain ⟨σ_2, rfl⟩ : ∃ z, z = τ_ := ⟨_, rfl⟩
    refine go_if_eq C 23 rfl dX12_let_10 (fun hc => ?_) (fun hc => ?_)
    · replace hw := hw.1 hc
      refine go_iconst (v := (-1)) C rfl dX12_let_23 ?_
      exact go_iret C hr ⟨_, rfl, hw⟩ dX12_let_24
    · replace hw := hw.2 hc
      exact (gbX12_let_13 C hr hR hnl hd) _ _ _ hw
-- CradleNamesModel.span(IIIIZ)I
def wbX12_span_115  (K48 : Int32 → Int32 → Int32 → Int32 → Int32 → Int32 → Int32 → Int32 → St → Prop) (post : Int32 → St → Prop) (v1 : Int32) (v2 : Int32) (v3 : Int32) (v4 : Int32) (v5 : Int32) (v7 : Int32) (v8 : Int32) (v9 : Int32) (s0 : Int32) (σ : St) : Prop :=
  wpX12_greater v7 v9 σ (fun r_1 σ_2 =>
  ∀ v8_3 : Int32, v8_3 = v8 + 1 →
  K48 v1 v2 v3 v4 v5 s0 r_1 v8_3 σ_2)
def wbX12_span_48   (post : Int32 → St → Prop) : Nat → Int32 → Int32 → Int32 → Int32 → Int32 → Int32 → Int32 → Int32 → St → Prop
  | 0, _, _, _, _, _, _, _, _, _ => False
  | n + 1, v1, v2, v3, v4, v5, v6, v7, v8, σ =>
    vp_in 4 9680 ∧ (
    (((gI σ 76 (4 : Int32).toNatClampNeg) ≤ v8 →
      ((v5 = 0 →
        post v6 σ) ∧
      (¬ v5 = 0 →
        post v7 σ))) ∧
    (¬ (gI σ 76 (4 : Int32).toNatClampNeg) ≤ v8 →
      vp_in 0 9680 ∧ (
      wpX12_isLet v8 (gI σ 76 (0 : Int32).toNatClampNeg) σ (fun r_1 σ_2 =>
      ((r_1 = 0 →
        ∀ v8_3 : Int32, v8_3 = v8 + 1 →
        wbX12_span_48 post n v1 v2 v3 v4 v5 v6 v7 v8_3 σ_2) ∧
      (¬ r_1 = 0 →
        wpX12_runs (v1 + 1) (-1) 0 v8 σ_2 (fun σ_5 =>
        wpX12_sumOf v1 v2 (-1) v3 v4 σ_5 (fun r_6 σ_7 =>
        ((¬ v6 = (-1) →
          wpX12_lesser v6 r_6 σ_7 (fun r_8 σ_9 =>
          wbX12_span_115 (wbX12_span_48 post n) post v1 v2 v3 v4 v5 v7 v8 r_6 r_8 σ_9)) ∧
        (v6 = (-1) →
          wbX12_span_115 (wbX12_span_48 post n) post v1 v2 v3 v4 v5 v7 v8 r_6 r_6 σ_7)))))))))))
def wpX12_span  (a1 : Int32) (a2 : Int32) (a3 : Int32) (a4 : Int32) (a5 : Int32) (σ : St) (post : Int32 → St → Prop) : Prop :=
  wpX12_in a1 0 60 σ (fun r_1 σ_2 =>
  ((r_1 = 0 →
    post (-1) σ_2) ∧
  (¬ r_1 = 0 →
    wpX12_in a2 0 2 σ_2 (fun r_3 σ_4 =>
    ((r_3 = 0 →
      post (-1) σ_4) ∧
    (¬ r_3 = 0 →
      wpX12_in a3 0 1 σ_4 (fun r_5 σ_6 =>
      ((r_5 = 0 →
        post (-1) σ_6) ∧
      (¬ r_5 = 0 →
        wpX12_isName a4 σ_6 (fun r_7 σ_8 =>
        ((¬ r_7 = 0 →
          ∃ n, wbX12_span_48 post n a1 a2 a3 a4 a5 (-1) (-1) 0 σ_8) ∧
        (r_7 = 0 →
          post (-1) σ_8))))))))))))
set_option maxRecDepth 20000 in
set_option maxHeartbeats 4000000 in
theorem gbX12_span_115 {X : XT} {G : GT} {l : Launch} {d : Nat}  {post : Int32 → St → Prop} (C : Cx X G cX12_span RX12) (hr : Rt X G (some .int) (fun v τ => ∃ r : Int32, v = some (.int r) ∧ post r τ)) (hR : Rm X l d) (hnl : X.2.2.2.2.2.2.2.2.2.2.1 = 10)  (hd : 10 ≤ d)  {K48 : Int32 → Int32 → Int32 → Int32 → Int32 → Int32 → Int32 → Int32 → St → Prop} (hK48 : ∀ (v1 : Int32) (v2 : Int32) (v3 : Int32) (v4 : Int32) (v5 : Int32) (v6 : Int32) (v7 : Int32) (v8 : Int32) (σ : St), K48 v1 v2 v3 v4 v5 v6 v7 v8 σ → Go X G 48 [(0, .ref (G.2.2.1 75)), (1, .int v1), (2, .int v2), (3, .int v3), (4, .int v4), (5, .int v5), (6, .int v6), (7, .int v7), (8, .int v8)] [] σ)
    : ∀ (v1 : Int32) (v2 : Int32) (v3 : Int32) (v4 : Int32) (v5 : Int32) (v7 : Int32) (v8 : Int32) (v9 : Int32) (s0 : Int32) (σ : St), wbX12_span_115  K48 post v1 v2 v3 v4 v5 v7 v8 v9 s0 σ → Go X G 115 [(0, .ref (G.2.2.1 75)), (1, .int v1), (2, .int v2), (3, .int v3), (4, .int v4), (5, .int v5), (7, .int v7), (8, .int v8), (9, .int v9)] [.int s0] σ := by
  intro v1 v2 v3 v4 v5 v7 v8 v9 s0 σ hw
  have hw : wpX12_greater v7 v9 σ (fun r_1 σ_2 =>
  ∀ v8_3 : Int32, v8_3 = v8 + 1 →
  K48 v1 v2 v3 v4 v5 s0 r_1 v8_3 σ_2) := hw
  refine go_istore (lv2 := [(6, .int s0), (0, .ref (G.2.2.1 75)), (1, .int v1), (2, .int v2), (3, .int v3), (4, .int v4), (5, .int v5), (7, .int v7), (8, .int v8), (9, .int v9)]) C (by rw [hnl]; decide) rfl dX12_span_115 ?_
  refine go_iload C 7 rfl dX12_span_117 ?_
  refine go_iload C 9 rfl dX12_span_119 ?_
  refine go_callS (as := [.int v7, .int v9]) C hR cwX12_410 (Nat.le_trans (by decide) hd) (by decide) rfl rfl (by decide) dX12_span_121 (spX12_greater (Nat.le_refl _) hw) (fun v_ τ_ hw => ?_)
  obtain ⟨r_1, rfl, hw⟩ := hw
  obtain ⟨σ_2, rfl⟩ : ∃ z, z = τ_ := ⟨_, rfl⟩
  refine go_istore (lv2 := [(7, .int r_1), (6, .int s0), (0, .ref (G.2.2.1 75)), (1, .int v1), (2, .int v2), (3, .int v3), (4, .int v4), (5, .int v5), (8, .int v8), (9, .int v9)]) C (by rw [hnl]; decide) rfl dX12_span_124 ?_
  obtain ⟨v8_3, ev8_3⟩ : ∃ z : Int32, z = v8 + 1 := ⟨_, rfl⟩
  replace hw := hw v8_3 ev8_3
  refine go_iinc (v := v8_3) (lv2 := [(8, .int v8_3), (7, .int r_1), (6, .int s0), (0, .ref (G.2.2.1 75)), (1, .int v1), (2, .int v2), (3, .int v3), (4, .int v4), (5, .int v5), (9, .int v9)]) C 8 rfl (by rw [ev8_3]; rfl) (by rw [hnl]; decide) rfl dX12_span_126 ?_
  refine go_goto C 48 rfl dX12_span_129 ?_
  refine go_sub [3, 4, 5, 6, 7, 8, 2, 1, 0] rfl ?_
  exact hK48 _ _ _ _ _ _ _ _ _ hw
set_option maxRecDepth 20000 in
set_option maxHeartbeats 4000000 in
theorem gbX12_span_48 {X : XT} {G : GT} {l : Launch} {d : Nat}  {post : Int32 → St → Prop} (C : Cx X G cX12_span RX12) (hr : Rt X G (some .int) (fun v τ => ∃ r : Int32, v = some (.int r) ∧ post r τ)) (hR : Rm X l d) (hnl : X.2.2.2.2.2.2.2.2.2.2.1 = 10)  (hd : 10 ≤ d)   
    : ∀ (n : Nat) (v1 : Int32) (v2 : Int32) (v3 : Int32) (v4 : Int32) (v5 : Int32) (v6 : Int32) (v7 : Int32) (v8 : Int32) (σ : St), wbX12_span_48   post n v1 v2 v3 v4 v5 v6 v7 v8 σ → Go X G 48 [(0, .ref (G.2.2.1 75)), (1, .int v1), (2, .int v2), (3, .int v3), (4, .int v4), (5, .int v5), (6, .int v6), (7, .int v7), (8, .int v8)] [] σ := by
  intro n
  induction n with
  | zero => intro v1 v2 v3 v4 v5 v6 v7 v8 σ hw; exact hw.elim
  | succ n ih =>
    intro v1 v2 v3 v4 v5 v6 v7 v8 σ hw
    have hw : vp_in 4 9680 ∧ (
    (((gI σ 76 (4 : Int32).toNatClampNeg) ≤ v8 →
      ((v5 = 0 →
        post v6 σ) ∧
      (¬ v5 = 0 →
        post v7 σ))) ∧
    (¬ (gI σ 76 (4 : Int32).toNatClampNeg) ≤ v8 →
      vp_in 0 9680 ∧ (
      wpX12_isLet v8 (gI σ 76 (0 : Int32).toNatClampNeg) σ (fun r_1 σ_2 =>
      ((r_1 = 0 →
        ∀ v8_3 : Int32, v8_3 = v8 + 1 →
        wbX12_span_48 post n v1 v2 v3 v4 v5 v6 v7 v8_3 σ_2) ∧
      (¬ r_1 = 0 →
        wpX12_runs (v1 + 1) (-1) 0 v8 σ_2 (fun σ_5 =>
        wpX12_sumOf v1 v2 (-1) v3 v4 σ_5 (fun r_6 σ_7 =>
        ((¬ v6 = (-1) →
          wpX12_lesser v6 r_6 σ_7 (fun r_8 σ_9 =>
          wbX12_span_115 (wbX12_span_48 post n) post v1 v2 v3 v4 v5 v7 v8 r_6 r_8 σ_9)) ∧
        (v6 = (-1) →
          wbX12_span_115 (wbX12_span_48 post n) post v1 v2 v3 v4 v5 v7 v8 r_6 r_6 σ_7))))))))))) := hw
    refine go_iload C 8 rfl dX12_span_48 ?_
    refine go_aload_n C 0 rfl rfl dX12_span_50 ?_
    refine go_get (v := .ref (G.2.2.1 76)) C (shX12 G) ltX12 lkX12_7 rfl dX12_span_51 ?_
    refine go_iconst (v := 4) C rfl dX12_span_54 ?_
    refine go_iald C (saX12_a G) laX12_a hw.1 dX12_span_55 ?_
    replace hw := hw.2
    refine go_icmp_ge C 132 rfl dX12_span_56 (fun hc => ?_) (fun hc => ?_)
    · replace hw := hw.1 hc
      refine go_iload C 5 rfl dX12_span_132 ?_
      refine go_if_eq C 142 rfl dX12_span_134 (fun hc => ?_) (fun hc => ?_)
      · replace hw := hw.1 hc
        refine go_iload C 6 rfl dX12_span_142 ?_
        exact go_iret C hr ⟨_, rfl, hw⟩ dX12_span_144
      · replace hw := hw.2 hc
        refine go_iload C 7 rfl dX12_span_137 ?_
        refine go_goto C 144 rfl dX12_span_139 ?_
        exact go_iret C hr ⟨_, rfl, hw⟩ dX12_span_144
    · replace hw := hw.2 hc
      refine go_aload_n C 0 rfl rfl dX12_span_59 ?_
      refine go_iload C 8 rfl dX12_span_60 ?_
      refine go_aload_n C 0 rfl rfl dX12_span_62 ?_
      refine go_get (v := .ref (G.2.2.1 76)) C (shX12 G) ltX12 lkX12_7 rfl dX12_span_63 ?_
      refine go_iconst (v := 0) C rfl dX12_span_66 ?_
      refine go_iald C (saX12_a G) laX12_a hw.1 dX12_span_67 ?_
      replace hw := hw.2
      refine go_callV (as := [.int v8, .int (gI σ 76 (0 : Int32).toNatClampNeg)]) C hR (shX12 G) ltX12 cwX12_532 (Nat.le_trans (by decide) hd) (by decide) rfl rfl (by decide) dX12_span_68 (spX12_isLet (Nat.le_refl _) hw) (fun v_ τ_ hw => ?_)
      obtain ⟨r_1, rfl, hw⟩ := hw
      obtain ⟨σ_2, rfl⟩ : ∃ z, z = τ_ := ⟨_, rfl⟩
      refine go_if_eq C 126 rfl dX12_span_71 (fun hc => ?_) (fun hc => ?_)
      · replace hw := hw.1 hc
        obtain ⟨v8_3, ev8_3⟩ : ∃ z : Int32, z = v8 + 1 := ⟨_, rfl⟩
        replace hw := hw v8_3 ev8_3
        refine go_iinc (v := v8_3) (lv2 := [(8, .int v8_3), (0, .ref (G.2.2.1 75)), (1, .int v1), (2, .int v2), (3, .int v3), (4, .int v4), (5, .int v5), (6, .int v6), (7, .int v7)]) C 8 rfl (by rw [ev8_3]; rfl) (by rw [hnl]; decide) rfl dX12_span_126 ?_
        refine go_goto C 48 rfl dX12_span_129 ?_
        refine go_sub [1, 2, 3, 4, 5, 6, 7, 8, 0] rfl ?_
        exact ih _ _ _ _ _ _ _ _ _ hw
      · replace hw := hw.2 hc
        refine go_aload_n C 0 rfl rfl dX12_span_74 ?_
        refine go_iload_n C 1 rfl rfl dX12_span_75 ?_
        refine go_iconst (v := 1) C rfl dX12_span_76 ?_
        refine go_iadd C dX12_span_77 ?_
        refine go_iconst (v := (-1)) C rfl dX12_span_78 ?_
        refine go_iconst (v := 0) C rfl dX12_span_79 ?_
        refine go_iload C 8 rfl dX12_span_80 ?_
        refine go_callV (as := [.int (v1 + 1), .int (-1), .int 0, .int v8]) C hR (shX12 G) ltX12 cwX12_188 (Nat.le_trans (by decide) hd) (by decide) rfl rfl (by decide) dX12_span_82 (spX12_runs (Nat.le_refl _) hw) (fun v_ τ_ hw => ?_)
        obtain ⟨rfl, hw⟩ := hw
        obtain ⟨σ_5, rfl⟩ : ∃ z, z = τ_ := ⟨_, rfl⟩
        refine go_aload_n C 0 rfl rfl dX12_span_85 ?_
        refine go_iload_n C 1 rfl rfl dX12_span_86 ?_
        refine go_iload_n C 2 rfl rfl dX12_span_87 ?_
        refine go_iconst (v := (-1)) C rfl dX12_span_88 ?_
        refine go_iload_n C 3 rfl rfl dX12_span_89 ?_
        refine go_iload C 4 rfl dX12_span_90 ?_
        refine go_callV (as := [.int v1, .int v2, .int (-1), .int v3, .int v4]) C hR (shX12 G) ltX12 cwX12_471 (Nat.le_trans (by decide) hd) (by decide) rfl rfl (by decide) dX12_span_92 (spX12_sumOf (Nat.le_refl _) hw) (fun v_ τ_ hw => ?_)
        obtain ⟨r_6, rfl, hw⟩ := hw
        obtain ⟨σ_7, rfl⟩ : ∃ z, z = τ_ := ⟨_, rfl⟩
        refine go_istore (lv2 := [(9, .int r_6), (0, .ref (G.2.2.1 75)), (1, .int v1), (2, .int v2), (3, .int v3), (4, .int v4), (5, .int v5), (6, .int v6), (7, .int v7), (8, .int v8)]) C (by rw [hnl]; decide) rfl dX12_span_95 ?_
        refine go_iload C 7 rfl dX12_span_97 ?_
        refine go_iconst (v := (-1)) C rfl dX12_span_99 ?_
        refine go_icmp_ne C 108 rfl dX12_span_100 (fun hc => ?_) (fun hc => ?_)
        · replace hw := hw.1 hc
          refine go_iload C 7 rfl dX12_span_108 ?_
          refine go_iload C 0 rfl dX12_span_110 ?_
          refine go_callS (as := [.int v6, .int r_6]) C hR cwX12_428 (Nat.le_trans (by decide) hd) (by decide) rfl rfl (by decide) dX12_span_112 (spX12_lesser (Nat.le_refl _) hw) (fun v_ τ_ hw => ?_)
          obtain ⟨r_8, rfl, hw⟩ := hw
          obtain ⟨σ_9, rfl⟩ : ∃ z, z = τ_ := ⟨_, rfl⟩
          refine go_sub [1, 2, 3, 4, 5, 6, 8, 9, 0] rfl ?_
          exact (gbX12_span_115 C hr hR hnl hd ih) _ _ _ _ _ _ _ _ _ _ hw
        · replace hw := hw.2 hc
          refine go_iload C 0 rfl dX12_span_103 ?_
          refine go_goto C 115 rfl dX12_span_105 ?_
          refine go_sub [1, 2, 3, 4, 5, 6, 8, 9, 0] rfl ?_
          exact (gbX12_span_115 C hr hR hnl hd ih) _ _ _ _ _ _ _ _ _ _ hw
set_option maxRecDepth 20000 in
set_option maxHeartbeats 4000000 in
theorem spX12_span {l : Launch} {G : GT} {d : Nat}  (hd : 10 ≤ d)   {a1 : Int32} {a2 : Int32} {a3 : Int32} {a4 : Int32} {a5 : Int32} {σ : St} {post : Int32 → St → Prop} (hw : wpX12_span  a1 a2 a3 a4 a5 σ post) : Sp l G d yX12_span cX12_span 10 (some .int) [.ref (G.2.2.1 75), .int a1, .int a2, .int a3, .int a4, .int a5] σ (fun v τ => ∃ r : Int32, v = some (.int r) ∧ post r τ) := by
  refine Sp.of (by decide) (by decide) fun X C hr hR hnl => ?_
  show Go X G 0 [(0, .ref (G.2.2.1 75)), (1, .int a1), (2, .int a2), (3, .int a3), (4, .int a4), (5, .int a5)] [] σ
  have hw : wpX12_in a1 0 60 σ (fun r_1 σ_2 =>
  ((r_1 = 0 →
    post (-1) σ_2) ∧
  (¬ r_1 = 0 →
    wpX12_in a2 0 2 σ_2 (fun r_3 σ_4 =>
    ((r_3 = 0 →
      post (-1) σ_4) ∧
    (¬ r_3 = 0 →
      wpX12_in a3 0 1 σ_4 (fun r_5 σ_6 =>
      ((r_5 = 0 →
        post (-1) σ_6) ∧
      (¬ r_5 = 0 →
        wpX12_isName a4 σ_6 (fun r_7 σ_8 =>
        ((¬ r_7 = 0 →
          ∃ n, wbX12_span_48 post n a1 a2 a3 a4 a5 (-1) (-1) 0 σ_8) ∧
        (r_7 = 0 →
          post (-1) σ_8)))))))))))) := hw
  refine go_iload_n C 1 rfl rfl dX12_span_0 ?_
  refine go_iconst (v := 0) C rfl dX12_span_1 ?_
  refine go_bipush (v := 60) C rfl dX12_span_2 ?_
  refine go_callS (as := [.int a1, .int 0, .int 60]) C hR cwX12_152 (Nat.le_trans (by decide) hd) (by decide) rfl rfl (by decide) dX12_span_4 (spX12_in (Nat.le_refl _) hw) (fun v_ τ_ hw => ?_)
  obtain ⟨r_1, rfl, hw⟩ := hw
  obtain ⟨σ_2, rfl⟩ : ∃ z, z = τ_ := ⟨_, rfl⟩
  refine go_if_eq C 37 rfl dX12_span_7 (fun hc => ?_) (fun hc => ?_)
  · replace hw := hw.1 hc
    refine go_iconst (v := (-1)) C rfl dX12_span_37 ?_
    exact go_iret C hr ⟨_, rfl, hw⟩ dX12_span_38
  · replace hw := hw.2 hc
    refine go_iload_n C 2 rfl rfl dX12_span_10 ?_
    refine go_iconst (v := 0) C rfl dX12_span_11 ?_
    refine go_iconst (v := 2) C rfl dX12_span_12 ?_
    refine go_callS (as := [.int a2, .int 0, .int 2]) C hR cwX12_152 (Nat.le_trans (by decide) hd) (by decide) rfl rfl (by decide) dX12_span_13 (spX12_in (Nat.le_refl _) hw) (fun v_ τ_ hw => ?_)
    obtain ⟨r_3, rfl, hw⟩ := hw
    obtain ⟨σ_4, rfl⟩ : ∃ z, z = τ_ := ⟨_, rfl⟩
    refine go_if_eq C 37 rfl dX12_span_16 (fun hc => ?_) (fun hc => ?_)
    · replace hw := hw.1 hc
      refine go_iconst (v := (-1)) C rfl dX12_span_37 ?_
      exact go_iret C hr ⟨_, rfl, hw⟩ dX12_span_38
    · replace hw := hw.2 hc
      refine go_iload_n C 3 rfl rfl dX12_span_19 ?_
      refine go_iconst (v := 0) C rfl dX12_span_20 ?_
      refine go_iconst (v := 1) C rfl dX12_span_21 ?_
      refine go_callS (as := [.int a3, .int 0, .int 1]) C hR cwX12_152 (Nat.le_trans (by decide) hd) (by decide) rfl rfl (by decide) dX12_span_22 (spX12_in (Nat.le_refl _) hw) (fun v_ τ_ hw => ?_)
      obtain ⟨r_5, rfl, hw⟩ := hw
      obtain ⟨σ_6, rfl⟩ : ∃ z, z = τ_ := ⟨_, rfl⟩
      refine go_if_eq C 37 rfl dX12_span_25 (fun hc => ?_) (fun hc => ?_)
      · replace hw := hw.1 hc
        refine go_iconst (v := (-1)) C rfl dX12_span_37 ?_
        exact go_iret C hr ⟨_, rfl, hw⟩ dX12_span_38
      · replace hw := hw.2 hc
        refine go_aload_n C 0 rfl rfl dX12_span_28 ?_
        refine go_iload C 4 rfl dX12_span_29 ?_
        refine go_callV (as := [.int a4]) C hR (shX12 G) ltX12 cwX12_182 (Nat.le_trans (by decide) hd) (by decide) rfl rfl (by decide) dX12_span_31 (spX12_isName (Nat.le_refl _) hw) (fun v_ τ_ hw => ?_)
        obtain ⟨r_7, rfl, hw⟩ := hw
        obtain ⟨σ_8, rfl⟩ : ∃ z, z = τ_ := ⟨_, rfl⟩
        refine go_if_ne C 39 rfl dX12_span_34 (fun hc => ?_) (fun hc => ?_)
        · replace hw := hw.1 hc
          refine go_iconst (v := (-1)) C rfl dX12_span_39 ?_
          refine go_istore (lv2 := [(6, .int (-1)), (0, .ref (G.2.2.1 75)), (1, .int a1), (2, .int a2), (3, .int a3), (4, .int a4), (5, .int a5)]) C (by rw [hnl]; decide) rfl dX12_span_40 ?_
          refine go_iconst (v := (-1)) C rfl dX12_span_42 ?_
          refine go_istore (lv2 := [(7, .int (-1)), (6, .int (-1)), (0, .ref (G.2.2.1 75)), (1, .int a1), (2, .int a2), (3, .int a3), (4, .int a4), (5, .int a5)]) C (by rw [hnl]; decide) rfl dX12_span_43 ?_
          refine go_iconst (v := 0) C rfl dX12_span_45 ?_
          refine go_istore (lv2 := [(8, .int 0), (7, .int (-1)), (6, .int (-1)), (0, .ref (G.2.2.1 75)), (1, .int a1), (2, .int a2), (3, .int a3), (4, .int a4), (5, .int a5)]) C (by rw [hnl]; decide) rfl dX12_span_46 ?_
          refine go_sub [3, 4, 5, 6, 7, 8, 2, 1, 0] rfl ?_
          obtain ⟨n_0, hw⟩ := hw
          exact (gbX12_span_48 C hr hR hnl hd) n_0 _ _ _ _ _ _ _ _ _ hw
        · replace hw := hw.2 hc
          refine go_iconst (v := (-1)) C rfl dX12_span_37 ?_
          exact go_iret C hr ⟨_, rfl, hw⟩ dX12_span_38
-- CradleNamesModel.parts(II)I
def wbX12_parts_143  (K66 : Int32 → Int32 → Int32 → Int32 → Int32 → St → Prop) (post : Int32 → St → Prop) (v1 : Int32) (v2 : Int32) (v3 : Int32) (v4 : Int32) (v5 : Int32) (v6 : Int32) (s0 : Int32) (s1 : Int32) (σ : St) : Prop :=
  vp_in s1 96 ∧ (
  ∀ σ_1 : St, σ_1 = sI σ 117 s1.toNatClampNeg s0 →
  ((v3 = 0 →
    vp_in v5 96 ∧ (
    ∀ σ_2 : St, σ_2 = sI σ_1 118 v5.toNatClampNeg v6 →
    ∀ v5_3 : Int32, v5_3 = v5 + 1 →
    K66 v1 v2 v3 v4 v5_3 σ_2)) ∧
  (¬ v3 = 0 →
    vp_in v5 96 ∧ (
    wpX12_greater (gI σ_1 118 v5.toNatClampNeg) v6 σ_1 (fun r_4 σ_5 =>
    vp_in v5 96 ∧ (
    ∀ σ_6 : St, σ_6 = sI σ_5 118 v5.toNatClampNeg r_4 →
    ∀ v5_7 : Int32, v5_7 = v5 + 1 →
    K66 v1 v2 v3 v4 v5_7 σ_6))))))
def wbX12_parts_114  (K66 : Int32 → Int32 → Int32 → Int32 → Int32 → St → Prop) (post : Int32 → St → Prop) (v1 : Int32) (v2 : Int32) (v3 : Int32) (v4 : Int32) (v5 : Int32) (s0 : Int32) (σ : St) : Prop :=
  ((v3 = 0 →
    wbX12_parts_143 K66 post v1 v2 v3 v4 v5 s0 s0 v5 σ) ∧
  (¬ v3 = 0 →
    vp_in v5 96 ∧ (
    wpX12_lesser (gI σ 117 v5.toNatClampNeg) s0 σ (fun r_1 σ_2 =>
    wbX12_parts_143 K66 post v1 v2 v3 v4 v5 s0 r_1 v5 σ_2))))
def wbX12_parts_253   (post : Int32 → St → Prop) (v2 : Int32) (v4 : Int32) (v5 : Int32) (σ : St) : Prop :=
  ((¬ v4 = (-1) →
    ((¬ v2 = 0 →
      ((¬ v2 = 1 →
        ((¬ v2 = 2 →
          post v5 σ) ∧
        (v2 = 2 →
          post (v4 - v4 / 16 * 16) σ))) ∧
      (v2 = 1 →
        post ((v4 / 16) - (v4 / 16) / 2 * 2) σ))) ∧
    (v2 = 0 →
      post (v4 / 32) σ))) ∧
  (v4 = (-1) →
    post (-1) σ))
def wbX12_parts_66  (K26 : Int32 → Int32 → Int32 → Int32 → St → Prop) (post : Int32 → St → Prop) : Nat → Int32 → Int32 → Int32 → Int32 → Int32 → St → Prop
  | 0, _, _, _, _, _, _ => False
  | n + 1, v1, v2, v3, v4, v5, σ =>
    ((96 ≤ v5 →
      ∀ v4_1 : Int32, v4_1 = v4 + 1 →
      K26 v1 v2 1 v4_1 σ) ∧
    (¬ 96 ≤ v5 →
      vp_in 1 9680 ∧ (
      (((gI σ 76 (1 : Int32).toNatClampNeg) ≤ (v5 - v5 / 16 * 16) →
        wbX12_parts_114 (wbX12_parts_66 K26 post n) post v1 v2 v3 v4 v5 0 σ) ∧
      (¬ (gI σ 76 (1 : Int32).toNatClampNeg) ≤ (v5 - v5 / 16 * 16) →
        wpX12_sumOf v1 (v5 / 32) (-1) ((v5 / 16) - (v5 / 16) / 2 * 2) (v5 - v5 / 16 * 16) σ (fun r_2 σ_3 =>
        wbX12_parts_114 (wbX12_parts_66 K26 post n) post v1 v2 v3 v4 v5 r_2 σ_3))))))
def wbX12_parts_195   (post : Int32 → St → Prop) : Nat → Int32 → Int32 → Int32 → Int32 → Int32 → St → Prop
  | 0, _, _, _, _, _, _ => False
  | n + 1, v2, v3, v4, v5, v6, σ =>
    ((96 ≤ v6 →
      wbX12_parts_253 post v2 v4 v5 σ) ∧
    (¬ 96 ≤ v6 →
      ((v3 = 0 →
        wbX12_parts_253 post v2 v4 v5 σ) ∧
      (¬ v3 = 0 →
        vp_in v6 96 ∧ (
        vp_in v6 96 ∧ (
        ((((gI σ 118 v6.toNatClampNeg) - (gI σ 117 v6.toNatClampNeg)) ≤ v5 →
          ∀ v6_1 : Int32, v6_1 = v6 + 1 →
          wbX12_parts_195 post n v2 v3 v4 v5 v6_1 σ) ∧
        (¬ ((gI σ 118 v6.toNatClampNeg) - (gI σ 117 v6.toNatClampNeg)) ≤ v5 →
          vp_in v6 96 ∧ (
          vp_in v6 96 ∧ (
          ∀ v5_2 : Int32, v5_2 = ((gI σ 118 v6.toNatClampNeg) - (gI σ 117 v6.toNatClampNeg)) →
          ∀ v6_3 : Int32, v6_3 = v6 + 1 →
          wbX12_parts_195 post n v2 v3 v6 v5_2 v6_3 σ))))))))))
def wbX12_parts_26   (post : Int32 → St → Prop) : Nat → Int32 → Int32 → Int32 → Int32 → St → Prop
  | 0, _, _, _, _, _ => False
  | n + 1, v1, v2, v3, v4, σ =>
    vp_in 4 9680 ∧ (
    (((gI σ 76 (4 : Int32).toNatClampNeg) ≤ v4 →
      ∃ n, wbX12_parts_195 post n v2 v3 (-1) 0 0 σ) ∧
    (¬ (gI σ 76 (4 : Int32).toNatClampNeg) ≤ v4 →
      vp_in 0 9680 ∧ (
      wpX12_isLet v4 (gI σ 76 (0 : Int32).toNatClampNeg) σ (fun r_1 σ_2 =>
      ((r_1 = 0 →
        ∀ v4_3 : Int32, v4_3 = v4 + 1 →
        wbX12_parts_26 post n v1 v2 v3 v4_3 σ_2) ∧
      (¬ r_1 = 0 →
        wpX12_runs (v1 + 1) (-1) 0 v4 σ_2 (fun σ_5 =>
        ∃ n, wbX12_parts_66 (wbX12_parts_26 post n) post n v1 v2 v3 v4 0 σ_5))))))))
def wpX12_parts  (a1 : Int32) (a2 : Int32) (σ : St) (post : Int32 → St → Prop) : Prop :=
  wpX12_in a1 0 60 σ (fun r_1 σ_2 =>
  ((r_1 = 0 →
    post (-1) σ_2) ∧
  (¬ r_1 = 0 →
    wpX12_in a2 0 3 σ_2 (fun r_3 σ_4 =>
    ((¬ r_3 = 0 →
      ∃ n, wbX12_parts_26 post n a1 a2 0 0 σ_4) ∧
    (r_3 = 0 →
      post (-1) σ_4))))))
set_option maxRecDepth 20000 in
set_option maxHeartbeats 4000000 in
theorem gbX12_parts_143 {X : XT} {G : GT} {l : Launch} {d : Nat}  {post : Int32 → St → Prop} (C : Cx X G cX12_parts RX12) (hr : Rt X G (some .int) (fun v τ => ∃ r : Int32, v = some (.int r) ∧ post r τ)) (hR : Rm X l d) (hnl : X.2.2.2.2.2.2.2.2.2.2.1 = 7)  (hd : 10 ≤ d)  {K66 : Int32 → Int32 → Int32 → Int32 → Int32 → St → Prop} (hK66 : ∀ (v1 : Int32) (v2 : Int32) (v3 : Int32) (v4 : Int32) (v5 : Int32) (σ : St), K66 v1 v2 v3 v4 v5 σ → Go X G 66 [(0, .ref (G.2.2.1 75)), (1, .int v1), (2, .int v2), (3, .int v3), (4, .int v4), (5, .int v5)] [] σ)
    : ∀ (v1 : Int32) (v2 : Int32) (v3 : Int32) (v4 : Int32) (v5 : Int32) (v6 : Int32) (s0 : Int32) (s1 : Int32) (σ : St), wbX12_parts_143  K66 post v1 v2 v3 v4 v5 v6 s0 s1 σ → Go X G 143 [(0, .ref (G.2.2.1 75)), (1, .int v1), (2, .int v2), (3, .int v3), (4, .int v4), (5, .int v5), (6, .int v6)] [.int s0, .int s1, .ref (G.2.2.1 117)] σ := by
  intro v1 v2 v3 v4 v5 v6 s0 s1 σ hw
  have hw : vp_in s1 96 ∧ (
  ∀ σ_1 : St, σ_1 = sI σ 117 s1.toNatClampNeg s0 →
  ((v3 = 0 →
    vp_in v5 96 ∧ (
    ∀ σ_2 : St, σ_2 = sI σ_1 118 v5.toNatClampNeg v6 →
    ∀ v5_3 : Int32, v5_3 = v5 + 1 →
    K66 v1 v2 v3 v4 v5_3 σ_2)) ∧
  (¬ v3 = 0 →
    vp_in v5 96 ∧ (
    wpX12_greater (gI σ_1 118 v5.toNatClampNeg) v6 σ_1 (fun r_4 σ_5 =>
    vp_in v5 96 ∧ (
    ∀ σ_6 : St, σ_6 = sI σ_5 118 v5.toNatClampNeg r_4 →
    ∀ v5_7 : Int32, v5_7 = v5 + 1 →
    K66 v1 v2 v3 v4 v5_7 σ_6)))))) := hw
  refine go_iast C (saX12_lowest G) laX12_lowest hw.1 dX12_parts_143 (go_nm fun σ_1 eσ_1 => ?_)
  replace hw := hw.2 σ_1 eσ_1
  refine go_aload_n C 0 rfl rfl dX12_parts_144 ?_
  refine go_get (v := .ref (G.2.2.1 118)) C (shX12 G) ltX12 lkX12_145 rfl dX12_parts_145 ?_
  refine go_iload C 5 rfl dX12_parts_148 ?_
  refine go_iload_n C 3 rfl rfl dX12_parts_150 ?_
  refine go_if_eq C 169 rfl dX12_parts_151 (fun hc => ?_) (fun hc => ?_)
  · replace hw := hw.1 hc
    refine go_iload C 6 rfl dX12_parts_169 ?_
    refine go_iast C (saX12_highest G) laX12_highest hw.1 dX12_parts_171 (go_nm fun σ_2 eσ_2 => ?_)
    replace hw := hw.2 σ_2 eσ_2
    obtain ⟨v5_3, ev5_3⟩ : ∃ z : Int32, z = v5 + 1 := ⟨_, rfl⟩
    replace hw := hw v5_3 ev5_3
    refine go_iinc (v := v5_3) (lv2 := [(5, .int v5_3), (0, .ref (G.2.2.1 75)), (1, .int v1), (2, .int v2), (3, .int v3), (4, .int v4), (6, .int v6)]) C 5 rfl (by rw [ev5_3]; rfl) (by rw [hnl]; decide) rfl dX12_parts_172 ?_
    refine go_goto C 66 rfl dX12_parts_175 ?_
    refine go_sub [1, 2, 3, 4, 5, 0] rfl ?_
    exact hK66 _ _ _ _ _ _ hw
  · replace hw := hw.2 hc
    refine go_aload_n C 0 rfl rfl dX12_parts_154 ?_
    refine go_get (v := .ref (G.2.2.1 118)) C (shX12 G) ltX12 lkX12_145 rfl dX12_parts_155 ?_
    refine go_iload C 5 rfl dX12_parts_158 ?_
    refine go_iald C (saX12_highest G) laX12_highest hw.1 dX12_parts_160 ?_
    replace hw := hw.2
    refine go_iload C 6 rfl dX12_parts_161 ?_
    refine go_callS (as := [.int (gI σ_1 118 v5.toNatClampNeg), .int v6]) C hR cwX12_410 (Nat.le_trans (by decide) hd) (by decide) rfl rfl (by decide) dX12_parts_163 (spX12_greater (Nat.le_refl _) hw) (fun v_ τ_ hw => ?_)
    obtain ⟨r_4, rfl, hw⟩ := hw
    obtain ⟨σ_5, rfl⟩ : ∃ z, z = τ_ := ⟨_, rfl⟩
    refine go_goto C 171 rfl dX12_parts_166 ?_
    refine go_iast C (saX12_highest G) laX12_highest hw.1 dX12_parts_171 (go_nm fun σ_6 eσ_6 => ?_)
    replace hw := hw.2 σ_6 eσ_6
    obtain ⟨v5_7, ev5_7⟩ : ∃ z : Int32, z = v5 + 1 := ⟨_, rfl⟩
    replace hw := hw v5_7 ev5_7
    refine go_iinc (v := v5_7) (lv2 := [(5, .int v5_7), (0, .ref (G.2.2.1 75)), (1, .int v1), (2, .int v2), (3, .int v3), (4, .int v4), (6, .int v6)]) C 5 rfl (by rw [ev5_7]; rfl) (by rw [hnl]; decide) rfl dX12_parts_172 ?_
    refine go_goto C 66 rfl dX12_parts_175 ?_
    refine go_sub [1, 2, 3, 4, 5, 0] rfl ?_
    exact hK66 _ _ _ _ _ _ hw
set_option maxRecDepth 20000 in
set_option maxHeartbeats 4000000 in
theorem gbX12_parts_114 {X : XT} {G : GT} {l : Launch} {d : Nat}  {post : Int32 → St → Prop} (C : Cx X G cX12_parts RX12) (hr : Rt X G (some .int) (fun v τ => ∃ r : Int32, v = some (.int r) ∧ post r τ)) (hR : Rm X l d) (hnl : X.2.2.2.2.2.2.2.2.2.2.1 = 7)  (hd : 10 ≤ d)  {K66 : Int32 → Int32 → Int32 → Int32 → Int32 → St → Prop} (hK66 : ∀ (v1 : Int32) (v2 : Int32) (v3 : Int32) (v4 : Int32) (v5 : Int32) (σ : St), K66 v1 v2 v3 v4 v5 σ → Go X G 66 [(0, .ref (G.2.2.1 75)), (1, .int v1), (2, .int v2), (3, .int v3), (4, .int v4), (5, .int v5)] [] σ)
    : ∀ (v1 : Int32) (v2 : Int32) (v3 : Int32) (v4 : Int32) (v5 : Int32) (s0 : Int32) (σ : St), wbX12_parts_114  K66 post v1 v2 v3 v4 v5 s0 σ → Go X G 114 [(0, .ref (G.2.2.1 75)), (1, .int v1), (2, .int v2), (3, .int v3), (4, .int v4), (5, .int v5)] [.int s0] σ := by
  intro v1 v2 v3 v4 v5 s0 σ hw
  have hw : ((v3 = 0 →
    wbX12_parts_143 K66 post v1 v2 v3 v4 v5 s0 s0 v5 σ) ∧
  (¬ v3 = 0 →
    vp_in v5 96 ∧ (
    wpX12_lesser (gI σ 117 v5.toNatClampNeg) s0 σ (fun r_1 σ_2 =>
    wbX12_parts_143 K66 post v1 v2 v3 v4 v5 s0 r_1 v5 σ_2)))) := hw
  refine go_istore (lv2 := [(6, .int s0), (0, .ref (G.2.2.1 75)), (1, .int v1), (2, .int v2), (3, .int v3), (4, .int v4), (5, .int v5)]) C (by rw [hnl]; decide) rfl dX12_parts_114 ?_
  refine go_aload_n C 1 rfl rfl dX12_parts_116 ?_
  refine go_get (v := .ref (G.2.2.1 117)) C (shX12 G) ltX12 lkX12_142 rfl dX12_parts_117 ?_
  refine go_iload C 6 rfl dX12_parts_120 ?_
  refine go_iload_n C 4 rfl rfl dX12_parts_122 ?_
  refine go_if_eq C 141 rfl dX12_parts_123 (fun hc => ?_) (fun hc => ?_)
  · replace hw := hw.1 hc
    refine go_iload C 0 rfl dX12_parts_141 ?_
    refine go_sub [1, 2, 3, 4, 5, 6, 0] rfl ?_
    exact (gbX12_parts_143 C hr hR hnl hd hK66) _ _ _ _ _ _ _ _ _ hw
  · replace hw := hw.2 hc
    refine go_aload_n C 1 rfl rfl dX12_parts_126 ?_
    refine go_get (v := .ref (G.2.2.1 117)) C (shX12 G) ltX12 lkX12_142 rfl dX12_parts_127 ?_
    refine go_iload C 6 rfl dX12_parts_130 ?_
    refine go_iald C (saX12_lowest G) laX12_lowest hw.1 dX12_parts_132 ?_
    replace hw := hw.2
    refine go_iload C 0 rfl dX12_parts_133 ?_
    refine go_callS (as := [.int (gI σ 117 v5.toNatClampNeg), .int s0]) C hR cwX12_428 (Nat.le_trans (by decide) hd) (by decide) rfl rfl (by decide) dX12_parts_135 (spX12_lesser (Nat.le_refl _) hw) (fun v_ τ_ hw => ?_)
    obtain ⟨r_1, rfl, hw⟩ := hw
    obtain ⟨σ_2, rfl⟩ : ∃ z, z = τ_ := ⟨_, rfl⟩
    refine go_goto C 143 rfl dX12_parts_138 ?_
    refine go_sub [1, 2, 3, 4, 5, 6, 0] rfl ?_
    exact (gbX12_parts_143 C hr hR hnl hd hK66) _ _ _ _ _ _ _ _ _ hw
set_option maxRecDepth 20000 in
set_option maxHeartbeats 4000000 in
theorem gbX12_parts_253 {X : XT} {G : GT} {l : Launch} {d : Nat}  {post : Int32 → St → Prop} (C : Cx X G cX12_parts RX12) (hr : Rt X G (some .int) (fun v τ => ∃ r : Int32, v = some (.int r) ∧ post r τ)) (hR : Rm X l d) (hnl : X.2.2.2.2.2.2.2.2.2.2.1 = 7)  (hd : 10 ≤ d)   
    : ∀ (v2 : Int32) (v4 : Int32) (v5 : Int32) (σ : St), wbX12_parts_253   post v2 v4 v5 σ → Go X G 253 [(2, .int v2), (4, .int v4), (5, .int v5)] [] σ := by
  intro v2 v4 v5 σ hw
  have hw : ((¬ v4 = (-1) →
    ((¬ v2 = 0 →
      ((¬ v2 = 1 →
        ((¬ v2 = 2 →
          post v5 σ) ∧
        (v2 = 2 →
          post (v4 - v4 / 16 * 16) σ))) ∧
      (v2 = 1 →
        post ((v4 / 16) - (v4 / 16) / 2 * 2) σ))) ∧
    (v2 = 0 →
      post (v4 / 32) σ))) ∧
  (v4 = (-1) →
    post (-1) σ)) := hw
  refine go_iload C 1 rfl dX12_parts_253 ?_
  refine go_iconst (v := (-1)) C rfl dX12_parts_255 ?_
  refine go_icmp_ne C 263 rfl dX12_parts_256 (fun hc => ?_) (fun hc => ?_)
  · replace hw := hw.1 hc
    refine go_iload_n C 0 rfl rfl dX12_parts_263 ?_
    refine go_if_ne C 275 rfl dX12_parts_264 (fun hc => ?_) (fun hc => ?_)
    · replace hw := hw.1 hc
      refine go_iload_n C 0 rfl rfl dX12_parts_275 ?_
      refine go_iconst (v := 1) C rfl dX12_parts_276 ?_
      refine go_icmp_ne C 290 rfl dX12_parts_277 (fun hc => ?_) (fun hc => ?_)
      · replace hw := hw.1 hc
        refine go_iload_n C 0 rfl rfl dX12_parts_290 ?_
        refine go_iconst (v := 2) C rfl dX12_parts_291 ?_
        refine go_icmp_ne C 303 rfl dX12_parts_292 (fun hc => ?_) (fun hc => ?_)
        · replace hw := hw.1 hc
          refine go_iload C 2 rfl dX12_parts_303 ?_
          exact go_iret C hr ⟨_, rfl, hw⟩ dX12_parts_305
        · replace hw := hw.2 hc
          refine go_iload C 1 rfl dX12_parts_295 ?_
          refine go_bipush (v := 16) C rfl dX12_parts_297 ?_
          refine go_irem C (by decide) dX12_parts_299 ?_
          refine go_goto C 305 rfl dX12_parts_300 ?_
          exact go_iret C hr ⟨_, rfl, hw⟩ dX12_parts_305
      · replace hw := hw.2 hc
        refine go_iload C 1 rfl dX12_parts_280 ?_
        refine go_bipush (v := 16) C rfl dX12_parts_282 ?_
        refine go_idiv C (by decide) dX12_parts_284 ?_
        refine go_iconst (v := 2) C rfl dX12_parts_285 ?_
        refine go_irem C (by decide) dX12_parts_286 ?_
        refine go_goto C 305 rfl dX12_parts_287 ?_
        exact go_iret C hr ⟨_, rfl, hw⟩ dX12_parts_305
    · replace hw := hw.2 hc
      refine go_iload C 1 rfl dX12_parts_267 ?_
      refine go_bipush (v := 32) C rfl dX12_parts_269 ?_
      refine go_idiv C (by decide) dX12_parts_271 ?_
      refine go_goto C 305 rfl dX12_parts_272 ?_
      exact go_iret C hr ⟨_, rfl, hw⟩ dX12_parts_305
  · replace hw := hw.2 hc
    refine go_iconst (v := (-1)) C rfl dX12_parts_259 ?_
    refine go_goto C 305 rfl dX12_parts_260 ?_
    exact go_iret C hr ⟨_, rfl, hw⟩ dX12_parts_305
set_option maxRecDepth 20000 in
set_option maxHeartbeats 4000000 in
theorem gbX12_parts_66 {X : XT} {G : GT} {l : Launch} {d : Nat}  {post : Int32 → St → Prop} (C : Cx X G cX12_parts RX12) (hr : Rt X G (some .int) (fun v τ => ∃ r : Int32, v = some (.int r) ∧ post r τ)) (hR : Rm X l d) (hnl : X.2.2.2.2.2.2.2.2.2.2.1 = 7)  (hd : 10 ≤ d)  {K26 : Int32 → Int32 → Int32 → Int32 → St → Prop} (hK26 : ∀ (v1 : Int32) (v2 : Int32) (v3 : Int32) (v4 : Int32) (σ : St), K26 v1 v2 v3 v4 σ → Go X G 26 [(0, .ref (G.2.2.1 75)), (1, .int v1), (2, .int v2), (3, .int v3), (4, .int v4)] [] σ)
    : ∀ (n : Nat) (v1 : Int32) (v2 : Int32) (v3 : Int32) (v4 : Int32) (v5 : Int32) (σ : St), wbX12_parts_66  K26 post n v1 v2 v3 v4 v5 σ → Go X G 66 [(0, .ref (G.2.2.1 75)), (1, .int v1), (2, .int v2), (3, .int v3), (4, .int v4), (5, .int v5)] [] σ := by
  intro n
  induction n with
  | zero => intro v1 v2 v3 v4 v5 σ hw; exact hw.elim
  | succ n ih =>
    intro v1 v2 v3 v4 v5 σ hw
    have hw : ((96 ≤ v5 →
      ∀ v4_1 : Int32, v4_1 = v4 + 1 →
      K26 v1 v2 1 v4_1 σ) ∧
    (¬ 96 ≤ v5 →
      vp_in 1 9680 ∧ (
      (((gI σ 76 (1 : Int32).toNatClampNeg) ≤ (v5 - v5 / 16 * 16) →
        wbX12_parts_114 (wbX12_parts_66 K26 post n) post v1 v2 v3 v4 v5 0 σ) ∧
      (¬ (gI σ 76 (1 : Int32).toNatClampNeg) ≤ (v5 - v5 / 16 * 16) →
        wpX12_sumOf v1 (v5 / 32) (-1) ((v5 / 16) - (v5 / 16) / 2 * 2) (v5 - v5 / 16 * 16) σ (fun r_2 σ_3 =>
        wbX12_parts_114 (wbX12_parts_66 K26 post n) post v1 v2 v3 v4 v5 r_2 σ_3)))))) := hw
    refine go_iload C 5 rfl dX12_parts_66 ?_
    refine go_bipush (v := 96) C rfl dX12_parts_68 ?_
    refine go_icmp_ge C 178 rfl dX12_parts_70 (fun hc => ?_) (fun hc => ?_)
    · replace hw := hw.1 hc
      refine go_iconst (v := 1) C rfl dX12_parts_178 ?_
      refine go_istore_n (lv2 := [(3, .int 1), (0, .ref (G.2.2.1 75)), (1, .int v1), (2, .int v2), (4, .int v4), (5, .int v5)]) C rfl (by rw [hnl]; decide) rfl dX12_parts_179 ?_
      obtain ⟨v4_1, ev4_1⟩ : ∃ z : Int32, z = v4 + 1 := ⟨_, rfl⟩
      replace hw := hw v4_1 ev4_1
      refine go_iinc (v := v4_1) (lv2 := [(4, .int v4_1), (3, .int 1), (0, .ref (G.2.2.1 75)), (1, .int v1), (2, .int v2), (5, .int v5)]) C 4 rfl (by rw [ev4_1]; rfl) (by rw [hnl]; decide) rfl dX12_parts_180 ?_
      refine go_goto C 26 rfl dX12_parts_183 ?_
      refine go_sub [2, 3, 4, 1, 0] rfl ?_
      exact hK26 _ _ _ _ _ hw
    · replace hw := hw.2 hc
      refine go_iload C 5 rfl dX12_parts_73 ?_
      refine go_bipush (v := 16) C rfl dX12_parts_75 ?_
      refine go_irem C (by decide) dX12_parts_77 ?_
      refine go_aload_n C 0 rfl rfl dX12_parts_78 ?_
      refine go_get (v := .ref (G.2.2.1 76)) C (shX12 G) ltX12 lkX12_7 rfl dX12_parts_79 ?_
      refine go_iconst (v := 1) C rfl dX12_parts_82 ?_
      refine go_iald C (saX12_a G) laX12_a hw.1 dX12_parts_83 ?_
      replace hw := hw.2
      refine go_icmp_ge C 113 rfl dX12_parts_84 (fun hc => ?_) (fun hc => ?_)
      · replace hw := hw.1 hc
        refine go_iconst (v := 0) C rfl dX12_parts_113 ?_
        exact (gbX12_parts_114 C hr hR hnl hd ih) _ _ _ _ _ _ _ hw
      · replace hw := hw.2 hc
        refine go_aload_n C 0 rfl rfl dX12_parts_87 ?_
        refine go_iload_n C 1 rfl rfl dX12_parts_88 ?_
        refine go_iload C 5 rfl dX12_parts_89 ?_
        refine go_bipush (v := 32) C rfl dX12_parts_91 ?_
        refine go_idiv C (by decide) dX12_parts_93 ?_
        refine go_iconst (v := (-1)) C rfl dX12_parts_94 ?_
        refine go_iload C 5 rfl dX12_parts_95 ?_
        refine go_bipush (v := 16) C rfl dX12_parts_97 ?_
        refine go_idiv C (by decide) dX12_parts_99 ?_
        refine go_iconst (v := 2) C rfl dX12_parts_100 ?_
        refine go_irem C (by decide) dX12_parts_101 ?_
        refine go_iload C 5 rfl dX12_parts_102 ?_
        refine go_bipush (v := 16) C rfl dX12_parts_104 ?_
        refine go_irem C (by decide) dX12_parts_106 ?_
        refine go_callV (as := [.int v1, .int (v5 / 32), .int (-1), .int ((v5 / 16) - (v5 / 16) / 2 * 2), .int (v5 - v5 / 16 * 16)]) C hR (shX12 G) ltX12 cwX12_471 (Nat.le_trans (by decide) hd) (by decide) rfl rfl (by decide) dX12_parts_107 (spX12_sumOf (Nat.le_refl _) hw) (fun v_ τ_ hw => ?_)
        obtain ⟨r_2, rfl, hw⟩ := hw
        obtain ⟨σ_3, rfl⟩ : ∃ z, z = τ_ := ⟨_, rfl⟩
        refine go_goto C 114 rfl dX12_parts_110 ?_
        exact (gbX12_parts_114 C hr hR hnl hd ih) _ _ _ _ _ _ _ hw
set_option maxRecDepth 20000 in
set_option maxHeartbeats 4000000 in
theorem gbX12_parts_195 {X : XT} {G : GT} {l : Launch} {d : Nat}  {post : Int32 → St → Prop} (C : Cx X G cX12_parts RX12) (hr : Rt X G (some .int) (fun v τ => ∃ r : Int32, v = some (.int r) ∧ post r τ)) (hR : Rm X l d) (hnl : X.2.2.2.2.2.2.2.2.2.2.1 = 7)  (hd : 10 ≤ d)   
    : ∀ (n : Nat) (v2 : Int32) (v3 : Int32) (v4 : Int32) (v5 : Int32) (v6 : Int32) (σ : St), wbX12_parts_195   post n v2 v3 v4 v5 v6 σ → Go X G 195 [(0, .ref (G.2.2.1 75)), (2, .int v2), (3, .int v3), (4, .int v4), (5, .int v5), (6, .int v6)] [] σ := by
  intro n
  induction n with
  | zero => intro v2 v3 v4 v5 v6 σ hw; exact hw.elim
  | succ n ih =>
    intro v2 v3 v4 v5 v6 σ hw
    have hw : ((96 ≤ v6 →
      wbX12_parts_253 post v2 v4 v5 σ) ∧
    (¬ 96 ≤ v6 →
      ((v3 = 0 →
        wbX12_parts_253 post v2 v4 v5 σ) ∧
      (¬ v3 = 0 →
        vp_in v6 96 ∧ (
        vp_in v6 96 ∧ (
        ((((gI σ 118 v6.toNatClampNeg) - (gI σ 117 v6.toNatClampNeg)) ≤ v5 →
          ∀ v6_1 : Int32, v6_1 = v6 + 1 →
          wbX12_parts_195 post n v2 v3 v4 v5 v6_1 σ) ∧
        (¬ ((gI σ 118 v6.toNatClampNeg) - (gI σ 117 v6.toNatClampNeg)) ≤ v5 →
          vp_in v6 96 ∧ (
          vp_in v6 96 ∧ (
          ∀ v5_2 : Int32, v5_2 = ((gI σ 118 v6.toNatClampNeg) - (gI σ 117 v6.toNatClampNeg)) →
          ∀ v6_3 : Int32, v6_3 = v6 + 1 →
          wbX12_parts_195 post n v2 v3 v6 v5_2 v6_3 σ)))))))))) := hw
    refine go_iload C 5 rfl dX12_parts_195 ?_
    refine go_bipush (v := 96) C rfl dX12_parts_197 ?_
    refine go_icmp_ge C 253 rfl dX12_parts_199 (fun hc => ?_) (fun hc => ?_)
    · replace hw := hw.1 hc
      refine go_sub [1, 3, 4] rfl ?_
      exact (gbX12_parts_253 C hr hR hnl hd) _ _ _ _ hw
    · replace hw := hw.2 hc
      refine go_iload_n C 2 rfl rfl dX12_parts_202 ?_
      refine go_if_eq C 253 rfl dX12_parts_203 (fun hc => ?_) (fun hc => ?_)
      · replace hw := hw.1 hc
        refine go_sub [1, 3, 4] rfl ?_
        exact (gbX12_parts_253 C hr hR hnl hd) _ _ _ _ hw
      · replace hw := hw.2 hc
        refine go_aload_n C 0 rfl rfl dX12_parts_206 ?_
        refine go_get (v := .ref (G.2.2.1 118)) C (shX12 G) ltX12 lkX12_145 rfl dX12_parts_207 ?_
        refine go_iload C 5 rfl dX12_parts_210 ?_
        refine go_iald C (saX12_highest G) laX12_highest hw.1 dX12_parts_212 ?_
        replace hw := hw.2
        refine go_aload_n C 0 rfl rfl dX12_parts_213 ?_
        refine go_get (v := .ref (G.2.2.1 117)) C (shX12 G) ltX12 lkX12_142 rfl dX12_parts_214 ?_
        refine go_iload C 5 rfl dX12_parts_217 ?_
        refine go_iald C (saX12_lowest G) laX12_lowest hw.1 dX12_parts_219 ?_
        replace hw := hw.2
        refine go_isub C dX12_parts_220 ?_
        refine go_iload C 4 rfl dX12_parts_221 ?_
        refine go_icmp_le C 247 rfl dX12_parts_223 (fun hc => ?_) (fun hc => ?_)
        · replace hw := hw.1 hc
          obtain ⟨v6_1, ev6_1⟩ : ∃ z : Int32, z = v6 + 1 := ⟨_, rfl⟩
          replace hw := hw v6_1 ev6_1
          refine go_iinc (v := v6_1) (lv2 := [(6, .int v6_1), (0, .ref (G.2.2.1 75)), (2, .int v2), (3, .int v3), (4, .int v4), (5, .int v5)]) C 5 rfl (by rw [ev6_1]; rfl) (by rw [hnl]; decide) rfl dX12_parts_247 ?_
          refine go_goto C 195 rfl dX12_parts_250 ?_
          refine go_sub [1, 2, 3, 4, 5, 0] rfl ?_
          exact ih _ _ _ _ _ _ hw
        · replace hw := hw.2 hc
          refine go_aload_n C 0 rfl rfl dX12_parts_226 ?_
          refine go_get (v := .ref (G.2.2.1 118)) C (shX12 G) ltX12 lkX12_145 rfl dX12_parts_227 ?_
          refine go_iload C 5 rfl dX12_parts_230 ?_
          refine go_iald C (saX12_highest G) laX12_highest hw.1 dX12_parts_232 ?_
          replace hw := hw.2
          refine go_aload_n C 0 rfl rfl dX12_parts_233 ?_
          refine go_get (v := .ref (G.2.2.1 117)) C (shX12 G) ltX12 lkX12_142 rfl dX12_parts_234 ?_
          refine go_iload C 5 rfl dX12_parts_237 ?_
          refine go_iald C (saX12_lowest G) laX12_lowest hw.1 dX12_parts_239 ?_
          replace hw := hw.2
          refine go_isub C dX12_parts_240 ?_
          refine go_topi (fun v5_2 ev5_2 => ?_)
          replace hw := hw v5_2 ev5_2
          refine go_istore (lv2 := [(5, .int v5_2), (0, .ref (G.2.2.1 75)), (2, .int v2), (3, .int v3), (4, .int v4), (6, .int v6)]) C (by rw [hnl]; decide) rfl dX12_parts_241 ?_
          refine go_iload C 5 rfl dX12_parts_243 ?_
          refine go_istore (lv2 := [(4, .int v6), (5, .int v5_2), (0, .ref (G.2.2.1 75)), (2, .int v2), (3, .int v3), (6, .int v6)]) C (by rw [hnl]; decide) rfl dX12_parts_245 ?_
          obtain ⟨v6_3, ev6_3⟩ : ∃ z : Int32, z = v6 + 1 := ⟨_, rfl⟩
          replace hw := hw v6_3 ev6_3
          refine go_iinc (v := v6_3) (lv2 := [(6, .int v6_3), (4, .int v6), (5, .int v5_2), (0, .ref (G.2.2.1 75)), (2, .int v2), (3, .int v3)]) C 5 rfl (by rw [ev6_3]; rfl) (by rw [hnl]; decide) rfl dX12_parts_247 ?_
          refine go_goto C 195 rfl dX12_parts_250 ?_
          refine go_sub [3, 4, 5, 1, 2, 0] rfl ?_
          exact ih _ _ _ _ _ _ hw
set_option maxRecDepth 20000 in
set_option maxHeartbeats 4000000 in
theorem gbX12_parts_26 {X : XT} {G : GT} {l : Launch} {d : Nat}  {post : Int32 → St → Prop} (C : Cx X G cX12_parts RX12) (hr : Rt X G (some .int) (fun v τ => ∃ r : Int32, v = some (.int r) ∧ post r τ)) (hR : Rm X l d) (hnl : X.2.2.2.2.2.2.2.2.2.2.1 = 7)  (hd : 10 ≤ d)   
    : ∀ (n : Nat) (v1 : Int32) (v2 : Int32) (v3 : Int32) (v4 : Int32) (σ : St), wbX12_parts_26   post n v1 v2 v3 v4 σ → Go X G 26 [(0, .ref (G.2.2.1 75)), (1, .int v1), (2, .int v2), (3, .int v3), (4, .int v4)] [] σ := by
  intro n
  induction n with
  | zero => intro v1 v2 v3 v4 σ hw; exact hw.elim
  | succ n ih =>
    intro v1 v2 v3 v4 σ hw
    have hw : vp_in 4 9680 ∧ (
    (((gI σ 76 (4 : Int32).toNatClampNeg) ≤ v4 →
      ∃ n, wbX12_parts_195 post n v2 v3 (-1) 0 0 σ) ∧
    (¬ (gI σ 76 (4 : Int32).toNatClampNeg) ≤ v4 →
      vp_in 0 9680 ∧ (
      wpX12_isLet v4 (gI σ 76 (0 : Int32).toNatClampNeg) σ (fun r_1 σ_2 =>
      ((r_1 = 0 →
        ∀ v4_3 : Int32, v4_3 = v4 + 1 →
        wbX12_parts_26 post n v1 v2 v3 v4_3 σ_2) ∧
      (¬ r_1 = 0 →
        wpX12_runs (v1 + 1) (-1) 0 v4 σ_2 (fun σ_5 =>
        ∃ n, wbX12_parts_66 (wbX12_parts_26 post n) post n v1 v2 v3 v4 0 σ_5)))))))) := hw
    refine go_iload C 4 rfl dX12_parts_26 ?_
    refine go_aload_n C 0 rfl rfl dX12_parts_28 ?_
    refine go_get (v := .ref (G.2.2.1 76)) C (shX12 G) ltX12 lkX12_7 rfl dX12_parts_29 ?_
    refine go_iconst (v := 4) C rfl dX12_parts_32 ?_
    refine go_iald C (saX12_a G) laX12_a hw.1 dX12_parts_33 ?_
    replace hw := hw.2
    refine go_icmp_ge C 186 rfl dX12_parts_34 (fun hc => ?_) (fun hc => ?_)
    · replace hw := hw.1 hc
      refine go_iconst (v := (-1)) C rfl dX12_parts_186 ?_
      refine go_istore (lv2 := [(4, .int (-1)), (0, .ref (G.2.2.1 75)), (1, .int v1), (2, .int v2), (3, .int v3)]) C (by rw [hnl]; decide) rfl dX12_parts_187 ?_
      refine go_iconst (v := 0) C rfl dX12_parts_189 ?_
      refine go_istore (lv2 := [(5, .int 0), (4, .int (-1)), (0, .ref (G.2.2.1 75)), (1, .int v1), (2, .int v2), (3, .int v3)]) C (by rw [hnl]; decide) rfl dX12_parts_190 ?_
      refine go_iconst (v := 0) C rfl dX12_parts_192 ?_
      refine go_istore (lv2 := [(6, .int 0), (5, .int 0), (4, .int (-1)), (0, .ref (G.2.2.1 75)), (1, .int v1), (2, .int v2), (3, .int v3)]) C (by rw [hnl]; decide) rfl dX12_parts_193 ?_
      refine go_sub [3, 5, 6, 2, 1, 0] rfl ?_
      obtain ⟨n_0, hw⟩ := hw
      exact (gbX12_parts_195 C hr hR hnl hd) n_0 _ _ _ _ _ _ hw
    · replace hw := hw.2 hc
      refine go_aload_n C 0 rfl rfl dX12_parts_37 ?_
      refine go_iload C 4 rfl dX12_parts_38 ?_
      refine go_aload_n C 0 rfl rfl dX12_parts_40 ?_
      refine go_get (v := .ref (G.2.2.1 76)) C (shX12 G) ltX12 lkX12_7 rfl dX12_parts_41 ?_
      refine go_iconst (v := 0) C rfl dX12_parts_44 ?_
      refine go_iald C (saX12_a G) laX12_a hw.1 dX12_parts_45 ?_
      replace hw := hw.2
      refine go_callV (as := [.int v4, .int (gI σ 76 (0 : Int32).toNatClampNeg)]) C hR (shX12 G) ltX12 cwX12_532 (Nat.le_trans (by decide) hd) (by decide) rfl rfl (by decide) dX12_parts_46 (spX12_isLet (Nat.le_refl _) hw) (fun v_ τ_ hw => ?_)
      obtain ⟨r_1, rfl, hw⟩ := hw
      obtain ⟨σ_2, rfl⟩ : ∃ z, z = τ_ := ⟨_, rfl⟩
      refine go_if_eq C 180 rfl dX12_parts_49 (fun hc => ?_) (fun hc => ?_)
      · replace hw := hw.1 hc
        obtain ⟨v4_3, ev4_3⟩ : ∃ z : Int32, z = v4 + 1 := ⟨_, rfl⟩
        replace hw := hw v4_3 ev4_3
        refine go_iinc (v := v4_3) (lv2 := [(4, .int v4_3), (0, .ref (G.2.2.1 75)), (1, .int v1), (2, .int v2), (3, .int v3)]) C 4 rfl (by rw [ev4_3]; rfl) (by rw [hnl]; decide) rfl dX12_parts_180 ?_
        refine go_goto C 26 rfl dX12_parts_183 ?_
        refine go_sub [1, 2, 3, 4, 0] rfl ?_
        exact ih _ _ _ _ _ hw
      · replace hw := hw.2 hc
        refine go_aload_n C 0 rfl rfl dX12_parts_52 ?_
        refine go_iload_n C 1 rfl rfl dX12_parts_53 ?_
        refine go_iconst (v := 1) C rfl dX12_parts_54 ?_
        refine go_iadd C dX12_parts_55 ?_
        refine go_iconst (v := (-1)) C rfl dX12_parts_56 ?_
        refine go_iconst (v := 0) C rfl dX12_parts_57 ?_
        refine go_iload C 4 rfl dX12_parts_58 ?_
        refine go_callV (as := [.int (v1 + 1), .int (-1), .int 0, .int v4]) C hR (shX12 G) ltX12 cwX12_188 (Nat.le_trans (by decide) hd) (by decide) rfl rfl (by decide) dX12_parts_60 (spX12_runs (Nat.le_refl _) hw) (fun v_ τ_ hw => ?_)
        obtain ⟨rfl, hw⟩ := hw
        obtain ⟨σ_5, rfl⟩ : ∃ z, z = τ_ := ⟨_, rfl⟩
        refine go_iconst (v := 0) C rfl dX12_parts_63 ?_
        refine go_istore (lv2 := [(5, .int 0), (0, .ref (G.2.2.1 75)), (1, .int v1), (2, .int v2), (3, .int v3), (4, .int v4)]) C (by rw [hnl]; decide) rfl dX12_parts_64 ?_
        refine go_sub [1, 2, 3, 4, 5, 0] rfl ?_
        obtain ⟨n_0, hw⟩ := hw
        exact (gbX12_parts_66 C hr hR hnl hd ih) n_0 _ _ _ _ _ _ hw
set_option maxRecDepth 20000 in
set_option maxHeartbeats 4000000 in
theorem spX12_parts {l : Launch} {G : GT} {d : Nat}  (hd : 10 ≤ d)   {a1 : Int32} {a2 : Int32} {σ : St} {post : Int32 → St → Prop} (hw : wpX12_parts  a1 a2 σ post) : Sp l G d yX12_parts cX12_parts 7 (some .int) [.ref (G.2.2.1 75), .int a1, .int a2] σ (fun v τ => ∃ r : Int32, v = some (.int r) ∧ post r τ) := by
  refine Sp.of (by decide) (by decide) fun X C hr hR hnl => ?_
  show Go X G 0 [(0, .ref (G.2.2.1 75)), (1, .int a1), (2, .int a2)] [] σ
  have hw : wpX12_in a1 0 60 σ (fun r_1 σ_2 =>
  ((r_1 = 0 →
    post (-1) σ_2) ∧
  (¬ r_1 = 0 →
    wpX12_in a2 0 3 σ_2 (fun r_3 σ_4 =>
    ((¬ r_3 = 0 →
      ∃ n, wbX12_parts_26 post n a1 a2 0 0 σ_4) ∧
    (r_3 = 0 →
      post (-1) σ_4)))))) := hw
  refine go_iload_n C 1 rfl rfl dX12_parts_0 ?_
  refine go_iconst (v := 0) C rfl dX12_parts_1 ?_
  refine go_bipush (v := 60) C rfl dX12_parts_2 ?_
  refine go_callS (as := [.int a1, .int 0, .int 60]) C hR cwX12_152 (Nat.le_trans (by decide) hd) (by decide) rfl rfl (by decide) dX12_parts_4 (spX12_in (Nat.le_refl _) hw) (fun v_ τ_ hw => ?_)
  obtain ⟨r_1, rfl, hw⟩ := hw
  obtain ⟨σ_2, rfl⟩ : ∃ z, z = τ_ := ⟨_, rfl⟩
  refine go_if_eq C 19 rfl dX12_parts_7 (fun hc => ?_) (fun hc => ?_)
  · replace hw := hw.1 hc
    refine go_iconst (v := (-1)) C rfl dX12_parts_19 ?_
    exact go_iret C hr ⟨_, rfl, hw⟩ dX12_parts_20
  · replace hw := hw.2 hc
    refine go_iload_n C 2 rfl rfl dX12_parts_10 ?_
    refine go_iconst (v := 0) C rfl dX12_parts_11 ?_
    refine go_iconst (v := 3) C rfl dX12_parts_12 ?_
    refine go_callS (as := [.int a2, .int 0, .int 3]) C hR cwX12_152 (Nat.le_trans (by decide) hd) (by decide) rfl rfl (by decide) dX12_parts_13 (spX12_in (Nat.le_refl _) hw) (fun v_ τ_ hw => ?_)
    obtain ⟨r_3, rfl, hw⟩ := hw
    obtain ⟨σ_4, rfl⟩ : ∃ z, z = τ_ := ⟨_, rfl⟩
    refine go_if_ne C 21 rfl dX12_parts_16 (fun hc => ?_) (fun hc => ?_)
    · replace hw := hw.1 hc
      refine go_iconst (v := 0) C rfl dX12_parts_21 ?_
      refine go_istore_n (lv2 := [(3, .int 0), (0, .ref (G.2.2.1 75)), (1, .int a1), (2, .int a2)]) C rfl (by rw [hnl]; decide) rfl dX12_parts_22 ?_
      refine go_iconst (v := 0) C rfl dX12_parts_23 ?_
      refine go_istore (lv2 := [(4, .int 0), (3, .int 0), (0, .ref (G.2.2.1 75)), (1, .int a1), (2, .int a2)]) C (by rw [hnl]; decide) rfl dX12_parts_24 ?_
      refine go_sub [2, 3, 4, 1, 0] rfl ?_
      obtain ⟨n_0, hw⟩ := hw
      exact (gbX12_parts_26 C hr hR hnl hd) n_0 _ _ _ _ _ hw
    · replace hw := hw.2 hc
      refine go_iconst (v := (-1)) C rfl dX12_parts_19 ?_
      exact go_iret C hr ⟨_, rfl, hw⟩ dX12_parts_20
-- CradleNamesModel.image()I
def wpX12_image   (σ : St) (post : Int32 → St → Prop) : Prop :=
  wpX12_copies 1 σ (fun σ_2 =>
  vp_in 0 9680 ∧ (
  post (gI σ_2 76 (0 : Int32).toNatClampNeg) σ_2))
set_option maxRecDepth 20000 in
set_option maxHeartbeats 4000000 in
theorem spX12_image {l : Launch} {G : GT} {d : Nat}  (hd : 2 ≤ d)    {σ : St} {post : Int32 → St → Prop} (hw : wpX12_image   σ post) : Sp l G d yX12_image cX12_image 1 (some .int) [.ref (G.2.2.1 75)] σ (fun v τ => ∃ r : Int32, v = some (.int r) ∧ post r τ) := by
  refine Sp.of (by decide) (by decide) fun X C hr hR hnl => ?_
  show Go X G 0 [(0, .ref (G.2.2.1 75))] [] σ
  have hw : wpX12_copies 1 σ (fun σ_2 =>
  vp_in 0 9680 ∧ (
  post (gI σ_2 76 (0 : Int32).toNatClampNeg) σ_2)) := hw
  refine go_aload_n C 0 rfl rfl dX12_image_0 ?_
  refine go_iconst (v := 1) C rfl dX12_image_1 ?_
  refine go_callV (as := [.int 1]) C hR (shX12 G) ltX12 cwX12_148 (Nat.le_trans (by decide) hd) (by decide) rfl rfl (by decide) dX12_image_2 (spX12_copies (Nat.le_refl _) hw) (fun v_ τ_ hw => ?_)
  obtain ⟨rfl, hw⟩ := hw
  obtain ⟨σ_2, rfl⟩ : ∃ z, z = τ_ := ⟨_, rfl⟩
  refine go_aload_n C 0 rfl rfl dX12_image_5 ?_
  refine go_get (v := .ref (G.2.2.1 76)) C (shX12 G) ltX12 lkX12_7 rfl dX12_image_6 ?_
  refine go_iconst (v := 0) C rfl dX12_image_9 ?_
  refine go_iald C (saX12_a G) laX12_a hw.1 dX12_image_10 ?_
  replace hw := hw.2
  exact go_iret C hr ⟨_, rfl, hw⟩ dX12_image_11
-- CradleNamesModel.back()I
def wpX12_back   (σ : St) (post : Int32 → St → Prop) : Prop :=
  wpX12_copies 0 σ (fun σ_2 =>
  vp_in 0 9680 ∧ (
  post (gI σ_2 76 (0 : Int32).toNatClampNeg) σ_2))
set_option maxRecDepth 20000 in
set_option maxHeartbeats 4000000 in
theorem spX12_back {l : Launch} {G : GT} {d : Nat}  (hd : 2 ≤ d)    {σ : St} {post : Int32 → St → Prop} (hw : wpX12_back   σ post) : Sp l G d yX12_back cX12_back 1 (some .int) [.ref (G.2.2.1 75)] σ (fun v τ => ∃ r : Int32, v = some (.int r) ∧ post r τ) := by
  refine Sp.of (by decide) (by decide) fun X C hr hR hnl => ?_
  show Go X G 0 [(0, .ref (G.2.2.1 75))] [] σ
  have hw : wpX12_copies 0 σ (fun σ_2 =>
  vp_in 0 9680 ∧ (
  post (gI σ_2 76 (0 : Int32).toNatClampNeg) σ_2)) := hw
  refine go_aload_n C 0 rfl rfl dX12_back_0 ?_
  refine go_iconst (v := 0) C rfl dX12_back_1 ?_
  refine go_callV (as := [.int 0]) C hR (shX12 G) ltX12 cwX12_148 (Nat.le_trans (by decide) hd) (by decide) rfl rfl (by decide) dX12_back_2 (spX12_copies (Nat.le_refl _) hw) (fun v_ τ_ hw => ?_)
  obtain ⟨rfl, hw⟩ := hw
  obtain ⟨σ_2, rfl⟩ : ∃ z, z = τ_ := ⟨_, rfl⟩
  refine go_aload_n C 0 rfl rfl dX12_back_5 ?_
  refine go_get (v := .ref (G.2.2.1 76)) C (shX12 G) ltX12 lkX12_7 rfl dX12_back_6 ?_
  refine go_iconst (v := 0) C rfl dX12_back_9 ?_
  refine go_iald C (saX12_a G) laX12_a hw.1 dX12_back_10 ?_
  replace hw := hw.2
  exact go_iret C hr ⟨_, rfl, hw⟩ dX12_back_11
-- CradleNamesModel.about(I)I
def wpX12_about  (a1 : Int32) (σ : St) (post : Int32 → St → Prop) : Prop :=
  ((a1 = 0 →
    vp_in 0 9680 ∧ (
    post (gI σ 76 (0 : Int32).toNatClampNeg) σ)) ∧
  (¬ a1 = 0 →
  ((a1 = 1 →
    vp_in 1 9680 ∧ (
    post (gI σ 76 (1 : Int32).toNatClampNeg) σ)) ∧
  (¬ a1 = 1 →
  ((a1 = 2 →
    vp_in 2 9680 ∧ (
    post (gI σ 76 (2 : Int32).toNatClampNeg) σ)) ∧
  (¬ a1 = 2 →
  ((a1 = 3 →
    vp_in 3 9680 ∧ (
    post (gI σ 76 (3 : Int32).toNatClampNeg) σ)) ∧
  (¬ a1 = 3 →
  ((a1 = 4 →
    vp_in 4 9680 ∧ (
    post (gI σ 76 (4 : Int32).toNatClampNeg) σ)) ∧
  (¬ a1 = 4 →
  ((a1 = 5 →
    vp_in 5 9680 ∧ (
    post (gI σ 76 (5 : Int32).toNatClampNeg) σ)) ∧
  (¬ a1 = 5 →
  ((a1 = 6 →
    post (gI σ 75 4) σ) ∧
  (¬ a1 = 6 →
  ((a1 = 7 →
    vp_in 6 9680 ∧ (
    post (gI σ 76 (6 : Int32).toNatClampNeg) σ)) ∧
  (¬ a1 = 7 →
  wpX12_in a1 10 11 σ (fun r_1 σ_2 =>
  ((r_1 = 0 →
    wpX12_in a1 20 31 σ_2 (fun r_3 σ_4 =>
    ((r_3 = 0 →
      post (-1) σ_4) ∧
    (¬ r_3 = 0 →
      vp_in ((10 + a1) - 20) 9680 ∧ (
      post (gI σ_4 76 ((10 + a1) - 20).toNatClampNeg) σ_4))))) ∧
  (¬ r_1 = 0 →
    vp_in ((7 + a1) - 10) 9680 ∧ (
    post (gI σ_2 76 ((7 + a1) - 10).toNatClampNeg) σ_2))))))))))))))))))))
set_option maxRecDepth 20000 in
set_option maxHeartbeats 4000000 in
theorem spX12_about {l : Launch} {G : GT} {d : Nat}  (hd : 2 ≤ d)   {a1 : Int32} {σ : St} {post : Int32 → St → Prop} (hw : wpX12_about  a1 σ post) : Sp l G d yX12_about cX12_about 2 (some .int) [.ref (G.2.2.1 75), .int a1] σ (fun v τ => ∃ r : Int32, v = some (.int r) ∧ post r τ) := by
  refine Sp.of (by decide) (by decide) fun X C hr hR hnl => ?_
  show Go X G 0 [(0, .ref (G.2.2.1 75)), (1, .int a1)] [] σ
  have hw : ((a1 = 0 →
    vp_in 0 9680 ∧ (
    post (gI σ 76 (0 : Int32).toNatClampNeg) σ)) ∧
  (¬ a1 = 0 →
  ((a1 = 1 →
    vp_in 1 9680 ∧ (
    post (gI σ 76 (1 : Int32).toNatClampNeg) σ)) ∧
  (¬ a1 = 1 →
  ((a1 = 2 →
    vp_in 2 9680 ∧ (
    post (gI σ 76 (2 : Int32).toNatClampNeg) σ)) ∧
  (¬ a1 = 2 →
  ((a1 = 3 →
    vp_in 3 9680 ∧ (
    post (gI σ 76 (3 : Int32).toNatClampNeg) σ)) ∧
  (¬ a1 = 3 →
  ((a1 = 4 →
    vp_in 4 9680 ∧ (
    post (gI σ 76 (4 : Int32).toNatClampNeg) σ)) ∧
  (¬ a1 = 4 →
  ((a1 = 5 →
    vp_in 5 9680 ∧ (
    post (gI σ 76 (5 : Int32).toNatClampNeg) σ)) ∧
  (¬ a1 = 5 →
  ((a1 = 6 →
    post (gI σ 75 4) σ) ∧
  (¬ a1 = 6 →
  ((a1 = 7 →
    vp_in 6 9680 ∧ (
    post (gI σ 76 (6 : Int32).toNatClampNeg) σ)) ∧
  (¬ a1 = 7 →
  wpX12_in a1 10 11 σ (fun r_1 σ_2 =>
  ((r_1 = 0 →
    wpX12_in a1 20 31 σ_2 (fun r_3 σ_4 =>
    ((r_3 = 0 →
      post (-1) σ_4) ∧
    (¬ r_3 = 0 →
      vp_in ((10 + a1) - 20) 9680 ∧ (
      post (gI σ_4 76 ((10 + a1) - 20).toNatClampNeg) σ_4))))) ∧
  (¬ r_1 = 0 →
    vp_in ((7 + a1) - 10) 9680 ∧ (
    post (gI σ_2 76 ((7 + a1) - 10).toNatClampNeg) σ_2)))))))))))))))))))) := hw
  refine go_iload_n C 1 rfl rfl dX12_about_0 ?_
  by_cases hc0 : a1 = 0
  · replace hw := hw.1 hc0
    refine go_tableIn C 48 (by rw [hc0]; decide) (by rw [hc0]; decide) (by rw [hc0]; rfl) rfl dX12_about_1 ?_
    refine go_aload_n C 0 rfl rfl dX12_about_48 ?_
    refine go_get (v := .ref (G.2.2.1 76)) C (shX12 G) ltX12 lkX12_7 rfl dX12_about_49 ?_
    refine go_iconst (v := 0) C rfl dX12_about_52 ?_
    refine go_iald C (saX12_a G) laX12_a hw.1 dX12_about_53 ?_
    replace hw := hw.2
    exact go_iret C hr ⟨_, rfl, hw⟩ dX12_about_54
  replace hw := hw.2 hc0
  by_cases hc1 : a1 = 1
  · replace hw := hw.1 hc1
    refine go_tableIn C 55 (by rw [hc1]; decide) (by rw [hc1]; decide) (by rw [hc1]; rfl) rfl dX12_about_1 ?_
    refine go_aload_n C 0 rfl rfl dX12_about_55 ?_
    refine go_get (v := .ref (G.2.2.1 76)) C (shX12 G) ltX12 lkX12_7 rfl dX12_about_56 ?_
    refine go_iconst (v := 1) C rfl dX12_about_59 ?_
    refine go_iald C (saX12_a G) laX12_a hw.1 dX12_about_60 ?_
    replace hw := hw.2
    exact go_iret C hr ⟨_, rfl, hw⟩ dX12_about_61
  replace hw := hw.2 hc1
  by_cases hc2 : a1 = 2
  · replace hw := hw.1 hc2
    refine go_tableIn C 62 (by rw [hc2]; decide) (by rw [hc2]; decide) (by rw [hc2]; rfl) rfl dX12_about_1 ?_
    refine go_aload_n C 0 rfl rfl dX12_about_62 ?_
    refine go_get (v := .ref (G.2.2.1 76)) C (shX12 G) ltX12 lkX12_7 rfl dX12_about_63 ?_
    refine go_iconst (v := 2) C rfl dX12_about_66 ?_
    refine go_iald C (saX12_a G) laX12_a hw.1 dX12_about_67 ?_
    replace hw := hw.2
    exact go_iret C hr ⟨_, rfl, hw⟩ dX12_about_68
  replace hw := hw.2 hc2
  by_cases hc3 : a1 = 3
  · replace hw := hw.1 hc3
    refine go_tableIn C 69 (by rw [hc3]; decide) (by rw [hc3]; decide) (by rw [hc3]; rfl) rfl dX12_about_1 ?_
    refine go_aload_n C 0 rfl rfl dX12_about_69 ?_
    refine go_get (v := .ref (G.2.2.1 76)) C (shX12 G) ltX12 lkX12_7 rfl dX12_about_70 ?_
    refine go_iconst (v := 3) C rfl dX12_about_73 ?_
    refine go_iald C (saX12_a G) laX12_a hw.1 dX12_about_74 ?_
    replace hw := hw.2
    exact go_iret C hr ⟨_, rfl, hw⟩ dX12_about_75
  replace hw := hw.2 hc3
  by_cases hc4 : a1 = 4
  · replace hw := hw.1 hc4
    refine go_tableIn C 76 (by rw [hc4]; decide) (by rw [hc4]; decide) (by rw [hc4]; rfl) rfl dX12_about_1 ?_
    refine go_aload_n C 0 rfl rfl dX12_about_76 ?_
    refine go_get (v := .ref (G.2.2.1 76)) C (shX12 G) ltX12 lkX12_7 rfl dX12_about_77 ?_
    refine go_iconst (v := 4) C rfl dX12_about_80 ?_
    refine go_iald C (saX12_a G) laX12_a hw.1 dX12_about_81 ?_
    replace hw := hw.2
    exact go_iret C hr ⟨_, rfl, hw⟩ dX12_about_82
  replace hw := hw.2 hc4
  by_cases hc5 : a1 = 5
  · replace hw := hw.1 hc5
    refine go_tableIn C 83 (by rw [hc5]; decide) (by rw [hc5]; decide) (by rw [hc5]; rfl) rfl dX12_about_1 ?_
    refine go_aload_n C 0 rfl rfl dX12_about_83 ?_
    refine go_get (v := .ref (G.2.2.1 76)) C (shX12 G) ltX12 lkX12_7 rfl dX12_about_84 ?_
    refine go_iconst (v := 5) C rfl dX12_about_87 ?_
    refine go_iald C (saX12_a G) laX12_a hw.1 dX12_about_88 ?_
    replace hw := hw.2
    exact go_iret C hr ⟨_, rfl, hw⟩ dX12_about_89
  replace hw := hw.2 hc5
  by_cases hc6 : a1 = 6
  · replace hw := hw.1 hc6
    refine go_tableIn C 90 (by rw [hc6]; decide) (by rw [hc6]; decide) (by rw [hc6]; rfl) rfl dX12_about_1 ?_
    refine go_aload_n C 0 rfl rfl dX12_about_90 ?_
    refine go_get (v := .int (gI σ 75 4)) C (shX12 G) ltX12 lkX12_210 rfl dX12_about_91 ?_
    exact go_iret C hr ⟨_, rfl, hw⟩ dX12_about_94
  replace hw := hw.2 hc6
  by_cases hc7 : a1 = 7
  · replace hw := hw.1 hc7
    refine go_tableIn C 95 (by rw [hc7]; decide) (by rw [hc7]; decide) (by rw [hc7]; rfl) rfl dX12_about_1 ?_
    refine go_aload_n C 0 rfl rfl dX12_about_95 ?_
    refine go_get (v := .ref (G.2.2.1 76)) C (shX12 G) ltX12 lkX12_7 rfl dX12_about_96 ?_
    refine go_bipush (v := 6) C rfl dX12_about_99 ?_
    refine go_iald C (saX12_a G) laX12_a hw.1 dX12_about_101 ?_
    replace hw := hw.2
    exact go_iret C hr ⟨_, rfl, hw⟩ dX12_about_102
  replace hw := hw.2 hc7
  refine go_tableOut C 103 (by have g0 := lv_neT hc0 (show (0 : Int32).toInt = 0 from rfl); have g1 := lv_neT hc1 (show (1 : Int32).toInt = 1 from rfl); have g2 := lv_neT hc2 (show (2 : Int32).toInt = 2 from rfl); have g3 := lv_neT hc3 (show (3 : Int32).toInt = 3 from rfl); have g4 := lv_neT hc4 (show (4 : Int32).toInt = 4 from rfl); have g5 := lv_neT hc5 (show (5 : Int32).toInt = 5 from rfl); have g6 := lv_neT hc6 (show (6 : Int32).toInt = 6 from rfl); have g7 := lv_neT hc7 (show (7 : Int32).toInt = 7 from rfl); omega) rfl dX12_about_1 ?_
  refine go_iload_n C 1 rfl rfl dX12_about_103 ?_
  refine go_bipush (v := 10) C rfl dX12_about_104 ?_
  refine go_bipush (v := 11) C rfl dX12_about_106 ?_
  refine go_callS (as := [.int a1, .int 10, .int 11]) C hR cwX12_152 (Nat.le_trans (by decide) hd) (by decide) rfl rfl (by decide) dX12_about_108 (spX12_in (Nat.le_refl _) hw) (fun v_ τ_ hw => ?_)
  obtain ⟨r_1, rfl, hw⟩ := hw
  obtain ⟨σ_2, rfl⟩ : ∃ z, z = τ_ := ⟨_, rfl⟩
  refine go_if_eq C 129 rfl dX12_about_111 (fun hc => ?_) (fun hc => ?_)
  · replace hw := hw.1 hc
    refine go_iload_n C 1 rfl rfl dX12_about_129 ?_
    refine go_bipush (v := 20) C rfl dX12_about_130 ?_
    refine go_bipush (v := 31) C rfl dX12_about_132 ?_
    refine go_callS (as := [.int a1, .int 20, .int 31]) C hR cwX12_152 (Nat.le_trans (by decide) hd) (by decide) rfl rfl (by decide) dX12_about_134 (spX12_in (Nat.le_refl _) hw) (fun v_ τ_ hw => ?_)
    obtain ⟨r_3, rfl, hw⟩ := hw
    obtain ⟨σ_4, rfl⟩ : ∃ z, z = τ_ := ⟨_, rfl⟩
    refine go_if_eq C 155 rfl dX12_about_137 (fun hc => ?_) (fun hc => ?_)
    · replace hw := hw.1 hc
      refine go_iconst (v := (-1)) C rfl dX12_about_155 ?_
      exact go_iret C hr ⟨_, rfl, hw⟩ dX12_about_156
    · replace hw := hw.2 hc
      refine go_aload_n C 0 rfl rfl dX12_about_140 ?_
      refine go_get (v := .ref (G.2.2.1 76)) C (shX12 G) ltX12 lkX12_7 rfl dX12_about_141 ?_
      refine go_bipush (v := 10) C rfl dX12_about_144 ?_
      refine go_iload_n C 1 rfl rfl dX12_about_146 ?_
      refine go_iadd C dX12_about_147 ?_
      refine go_bipush (v := 20) C rfl dX12_about_148 ?_
      refine go_isub C dX12_about_150 ?_
      refine go_iald C (saX12_a G) laX12_a hw.1 dX12_about_151 ?_
      replace hw := hw.2
      refine go_goto C 156 rfl dX12_about_152 ?_
      exact go_iret C hr ⟨_, rfl, hw⟩ dX12_about_156
  · replace hw := hw.2 hc
    refine go_aload_n C 0 rfl rfl dX12_about_114 ?_
    refine go_get (v := .ref (G.2.2.1 76)) C (shX12 G) ltX12 lkX12_7 rfl dX12_about_115 ?_
    refine go_bipush (v := 7) C rfl dX12_about_118 ?_
    refine go_iload_n C 1 rfl rfl dX12_about_120 ?_
    refine go_iadd C dX12_about_121 ?_
    refine go_bipush (v := 10) C rfl dX12_about_122 ?_
    refine go_isub C dX12_about_124 ?_
    refine go_iald C (saX12_a G) laX12_a hw.1 dX12_about_125 ?_
    replace hw := hw.2
    refine go_goto C 156 rfl dX12_about_126 ?_
    exact go_iret C hr ⟨_, rfl, hw⟩ dX12_about_156
