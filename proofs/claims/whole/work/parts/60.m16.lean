-- CradleNamesModel.returned(III)I
set_option maxRecDepth 20000 in
set_option maxHeartbeats 4000000 in
theorem gbX12_returned_41 {X : XT} {G : GT} {l : Launch} {d : Nat}  {post : Int32 → St → Prop} (C : Cx X G cX12_returned RX12) (hr : Rt X G (some .int) (fun v τ => ∃ r : Int32, v = some (.int r) ∧ post r τ)) (hR : Rm X l d) (hnl : X.2.2.2.2.2.2.2.2.2.2.1 = 7)  (hd : 10 ≤ d) (hN : 119 ≤ G.2.2.2.2.2)   
    : ∀ (n : Nat) (v1 : Int32) (v2 : Int32) (v3 : Int32) (v4 : Int32) (v5 : Int32) (σ : St), wbX12_returned_41   post n v1 v2 v3 v4 v5 σ → Go X G 41 [(0, .ref (G.2.2.1 75)), (1, .int v1), (2, .int v2), (3, .int v3), (4, .int v4), (5, .int v5)] [] σ := by
  intro n
  induction n with
  | zero => intro v1 v2 v3 v4 v5 σ hw; exact hw.elim
  | succ n ih =>
    intro v1 v2 v3 v4 v5 σ hw
    have hw : vp_in 0 9680 ∧ (
    (((gI σ 76 (0 : Int32).toNatClampNeg) ≤ v5 →
      post (-1) σ) ∧
    (¬ (gI σ 76 (0 : Int32).toNatClampNeg) ≤ v5 →
      wpX12_all v5 v1 σ (fun r_1 σ_2 =>
      ((r_1 ≤ 0 →
        ∀ v5_3 : Int32, v5_3 = v5 + 1 →
        wbX12_returned_41 post n v1 v2 v3 v4 v5_3 σ_2) ∧
      (¬ r_1 ≤ 0 →
        ∀ v6_4 : Int32, v6_4 = ((v5 - v4) - 1) →
        ((v5 < 0 →
          ∀ v5_5 : Int32, v5_5 = v5 + 1 →
          wbX12_returned_41 post n v1 v2 v3 v5 v5_5 σ_2) ∧
        (¬ v5 < 0 →
          ((v4 ≤ (-100) →
            ∀ v5_6 : Int32, v5_6 = v5 + 1 →
            wbX12_returned_41 post n v1 v2 v3 v5 v5_6 σ_2) ∧
          (¬ v4 ≤ (-100) →
            ((v6_4 < v2 →
              ∀ v5_7 : Int32, v5_7 = v5 + 1 →
              wbX12_returned_41 post n v1 v2 v3 v5 v5_7 σ_2) ∧
            (¬ v6_4 < v2 →
              ((¬ v3 = 0 →
                ((¬ v3 = 1 →
                  wpX12_living v1 (v5 - 1) σ_2 (fun r_8 σ_9 =>
                  post r_8 σ_9)) ∧
                (v3 = 1 →
                  post v6_4 σ_2))) ∧
              (v3 = 0 →
                post v5 σ_2)))))))))))))) := hw
    refine go_iload C 5 rfl dX12_returned_41 ?_
    refine go_aload_n C 0 rfl rfl dX12_returned_43 ?_
    refine go_get (v := .ref (G.2.2.1 76)) C (shX12 G) (ltX12 hN) lkX12_7 rfl dX12_returned_44 ?_
    refine go_iconst (v := 0) C rfl dX12_returned_47 ?_
    refine go_iald C (saX12_a G) (laX12_a hN) hw.1 dX12_returned_48 ?_
    replace hw := hw.2
    refine go_icmp_ge C 128 rfl dX12_returned_49 (fun hc => ?_) (fun hc => ?_)
    · replace hw := hw.1 hc
      refine go_iconst (v := (-1)) C rfl dX12_returned_128 ?_
      exact go_iret C hr ⟨_, rfl, hw⟩ dX12_returned_129
    · replace hw := hw.2 hc
      refine go_aload_n C 0 rfl rfl dX12_returned_52 ?_
      refine go_iload C 5 rfl dX12_returned_53 ?_
      refine go_iload_n C 1 rfl rfl dX12_returned_55 ?_
      refine go_callV (as := [.int v5, .int v1]) C hR (shX12 G) (ltX12 hN) cwX12_407 (Nat.le_trans (by decide) hd) (by decide) rfl rfl (Nat.le_of_ble_eq_true rfl) dX12_returned_56 (spX12_all (Nat.le_refl _) hN hw) (fun v_ τ_ hw => ?_)
      obtain ⟨r_1, rfl, hw⟩ := hw
      obtain ⟨σ_2, rfl⟩ : ∃ z, z = τ_ := ⟨_, rfl⟩
      refine go_if_le C 122 rfl dX12_returned_59 (fun hc => ?_) (fun hc => ?_)
      · replace hw := hw.1 hc
        obtain ⟨v5_3, ev5_3⟩ : ∃ z : Int32, z = v5 + 1 := ⟨_, rfl⟩
        replace hw := hw v5_3 ev5_3
        refine go_iinc (v := v5_3) (lv2 := [(5, .int v5_3), (0, .ref (G.2.2.1 75)), (1, .int v1), (2, .int v2), (3, .int v3), (4, .int v4)]) C 5 rfl (by rw [ev5_3]; rfl) (by rw [hnl]; decide) rfl dX12_returned_122 ?_
        refine go_goto C 41 rfl dX12_returned_125 ?_
        refine go_sub [1, 2, 3, 4, 5, 0] rfl ?_
        exact ih _ _ _ _ _ _ hw
      · replace hw := hw.2 hc
        refine go_iload C 5 rfl dX12_returned_62 ?_
        refine go_iload C 4 rfl dX12_returned_64 ?_
        refine go_isub C dX12_returned_66 ?_
        refine go_iconst (v := 1) C rfl dX12_returned_67 ?_
        refine go_isub C dX12_returned_68 ?_
        refine go_topi (fun v6_4 ev6_4 => ?_)
        replace hw := hw v6_4 ev6_4
        refine go_istore (lv2 := [(6, .int v6_4), (0, .ref (G.2.2.1 75)), (1, .int v1), (2, .int v2), (3, .int v3), (4, .int v4), (5, .int v5)]) C (by rw [hnl]; decide) rfl dX12_returned_69 ?_
        refine go_iload C 6 rfl dX12_returned_71 ?_
        refine go_if_lt C 118 rfl dX12_returned_73 (fun hc => ?_) (fun hc => ?_)
        · replace hw := hw.1 hc
          refine go_iload C 6 rfl dX12_returned_118 ?_
          refine go_istore (lv2 := [(4, .int v5), (6, .int v6_4), (0, .ref (G.2.2.1 75)), (1, .int v1), (2, .int v2), (3, .int v3), (5, .int v5)]) C (by rw [hnl]; decide) rfl dX12_returned_120 ?_
          obtain ⟨v5_5, ev5_5⟩ : ∃ z : Int32, z = v5 + 1 := ⟨_, rfl⟩
          replace hw := hw v5_5 ev5_5
          refine go_iinc (v := v5_5) (lv2 := [(5, .int v5_5), (4, .int v5), (6, .int v6_4), (0, .ref (G.2.2.1 75)), (1, .int v1), (2, .int v2), (3, .int v3)]) C 6 rfl (by rw [ev5_5]; rfl) (by rw [hnl]; decide) rfl dX12_returned_122 ?_
          refine go_goto C 41 rfl dX12_returned_125 ?_
          refine go_sub [3, 4, 5, 6, 1, 0] rfl ?_
          exact ih _ _ _ _ _ _ hw
        · replace hw := hw.2 hc
          refine go_iload C 5 rfl dX12_returned_76 ?_
          refine go_bipush (v := (-100)) C rfl dX12_returned_78 ?_
          refine go_icmp_le C 118 rfl dX12_returned_80 (fun hc => ?_) (fun hc => ?_)
          · replace hw := hw.1 hc
            refine go_iload C 6 rfl dX12_returned_118 ?_
            refine go_istore (lv2 := [(4, .int v5), (6, .int v6_4), (0, .ref (G.2.2.1 75)), (1, .int v1), (2, .int v2), (3, .int v3), (5, .int v5)]) C (by rw [hnl]; decide) rfl dX12_returned_120 ?_
            obtain ⟨v5_6, ev5_6⟩ : ∃ z : Int32, z = v5 + 1 := ⟨_, rfl⟩
            replace hw := hw v5_6 ev5_6
            refine go_iinc (v := v5_6) (lv2 := [(5, .int v5_6), (4, .int v5), (6, .int v6_4), (0, .ref (G.2.2.1 75)), (1, .int v1), (2, .int v2), (3, .int v3)]) C 6 rfl (by rw [ev5_6]; rfl) (by rw [hnl]; decide) rfl dX12_returned_122 ?_
            refine go_goto C 41 rfl dX12_returned_125 ?_
            refine go_sub [3, 4, 5, 6, 1, 0] rfl ?_
            exact ih _ _ _ _ _ _ hw
          · replace hw := hw.2 hc
            refine go_iload C 0 rfl dX12_returned_83 ?_
            refine go_iload_n C 3 rfl rfl dX12_returned_85 ?_
            refine go_icmp_lt C 118 rfl dX12_returned_86 (fun hc => ?_) (fun hc => ?_)
            · replace hw := hw.1 hc
              refine go_iload C 6 rfl dX12_returned_118 ?_
              refine go_istore (lv2 := [(4, .int v5), (6, .int v6_4), (0, .ref (G.2.2.1 75)), (1, .int v1), (2, .int v2), (3, .int v3), (5, .int v5)]) C (by rw [hnl]; decide) rfl dX12_returned_120 ?_
              obtain ⟨v5_7, ev5_7⟩ : ∃ z : Int32, z = v5 + 1 := ⟨_, rfl⟩
              replace hw := hw v5_7 ev5_7
              refine go_iinc (v := v5_7) (lv2 := [(5, .int v5_7), (4, .int v5), (6, .int v6_4), (0, .ref (G.2.2.1 75)), (1, .int v1), (2, .int v2), (3, .int v3)]) C 6 rfl (by rw [ev5_7]; rfl) (by rw [hnl]; decide) rfl dX12_returned_122 ?_
              refine go_goto C 41 rfl dX12_returned_125 ?_
              refine go_sub [3, 4, 5, 6, 1, 0] rfl ?_
              exact ih _ _ _ _ _ _ hw
            · replace hw := hw.2 hc
              refine go_iload_n C 4 rfl rfl dX12_returned_89 ?_
              refine go_if_ne C 98 rfl dX12_returned_90 (fun hc => ?_) (fun hc => ?_)
              · replace hw := hw.1 hc
                refine go_iload_n C 4 rfl rfl dX12_returned_98 ?_
                refine go_iconst (v := 1) C rfl dX12_returned_99 ?_
                refine go_icmp_ne C 108 rfl dX12_returned_100 (fun hc => ?_) (fun hc => ?_)
                · replace hw := hw.1 hc
                  refine go_aload_n C 1 rfl rfl dX12_returned_108 ?_
                  refine go_iload_n C 2 rfl rfl dX12_returned_109 ?_
                  refine go_iload C 6 rfl dX12_returned_110 ?_
                  refine go_iconst (v := 1) C rfl dX12_returned_112 ?_
                  refine go_isub C dX12_returned_113 ?_
                  refine go_callV (as := [.int v1, .int (v5 - 1)]) C hR (shX12 G) (ltX12 hN) cwX12_192 (Nat.le_trans (by decide) hd) (by decide) rfl rfl (Nat.le_of_ble_eq_true rfl) dX12_returned_114 (spX12_living (Nat.le_refl _) hN hw) (fun v_ τ_ hw => ?_)
                  obtain ⟨r_8, rfl, hw⟩ := hw
                  obtain ⟨σ_9, rfl⟩ : ∃ z, z = τ_ := ⟨_, rfl⟩
                  exact go_iret C hr ⟨_, rfl, hw⟩ dX12_returned_117
                · replace hw := hw.2 hc
                  refine go_iload C 0 rfl dX12_returned_103 ?_
                  refine go_goto C 117 rfl dX12_returned_105 ?_
                  exact go_iret C hr ⟨_, rfl, hw⟩ dX12_returned_117
              · replace hw := hw.2 hc
                refine go_iload C 6 rfl dX12_returned_93 ?_
                refine go_goto C 117 rfl dX12_returned_95 ?_
                exact go_iret C hr ⟨_, rfl, hw⟩ dX12_returned_117
set_option maxRecDepth 20000 in
set_option maxHeartbeats 4000000 in
theorem spX12_returned {l : Launch} {G : GT} {d : Nat}  (hd : 10 ≤ d)  (hN : 119 ≤ G.2.2.2.2.2)  {a1 : Int32} {a2 : Int32} {a3 : Int32} {σ : St} {post : Int32 → St → Prop} (hw : wpX12_returned  a1 a2 a3 σ post) : Sp l G d yX12_returned cX12_returned 7 (some .int) [.ref (G.2.2.1 75), .int a1, .int a2, .int a3] σ (fun v τ => ∃ r : Int32, v = some (.int r) ∧ post r τ) := by
  refine Sp.of (by decide) (Nat.le_of_ble_eq_true rfl) fun X C hr hR hnl => ?_
  show Go X G 0 [(0, .ref (G.2.2.1 75)), (1, .int a1), (2, .int a2), (3, .int a3)] [] σ
  have hw : wpX12_isName a1 σ (fun r_1 σ_2 =>
  ((r_1 = 0 →
    post (-1) σ_2) ∧
  (¬ r_1 = 0 →
    wpX12_in a2 1 60 σ_2 (fun r_3 σ_4 =>
    ((r_3 = 0 →
      post (-1) σ_4) ∧
    (¬ r_3 = 0 →
      wpX12_in a3 0 2 σ_4 (fun r_5 σ_6 =>
      ((¬ r_5 = 0 →
        wpX12_runsAll  σ_6 (fun σ_8 =>
        ∃ m_41, wbX12_returned_41 post m_41 a1 a2 a3 (-100) (-40) σ_8)) ∧
      (r_5 = 0 →
        post (-1) σ_6))))))))) := hw
  refine go_aload_n C 0 rfl rfl dX12_returned_0 ?_
  refine go_iload_n C 1 rfl rfl dX12_returned_1 ?_
  refine go_callV (as := [.int a1]) C hR (shX12 G) (ltX12 hN) cwX12_182 (Nat.le_trans (by decide) hd) (by decide) rfl rfl (Nat.le_of_ble_eq_true rfl) dX12_returned_2 (spX12_isName (Nat.le_refl _) hN hw) (fun v_ τ_ hw => ?_)
  obtain ⟨r_1, rfl, hw⟩ := hw
  obtain ⟨σ_2, rfl⟩ : ∃ z, z = τ_ := ⟨_, rfl⟩
  refine go_if_eq C 27 rfl dX12_returned_5 (fun hc => ?_) (fun hc => ?_)
  · replace hw := hw.1 hc
    refine go_iconst (v := (-1)) C rfl dX12_returned_27 ?_
    exact go_iret C hr ⟨_, rfl, hw⟩ dX12_returned_28
  · replace hw := hw.2 hc
    refine go_iload_n C 2 rfl rfl dX12_returned_8 ?_
    refine go_iconst (v := 1) C rfl dX12_returned_9 ?_
    refine go_bipush (v := 60) C rfl dX12_returned_10 ?_
    refine go_callS (as := [.int a2, .int 1, .int 60]) C hR cwX12_152 (Nat.le_trans (by decide) hd) (by decide) rfl rfl (Nat.le_of_ble_eq_true rfl) dX12_returned_12 (spX12_in (Nat.le_refl _) hN hw) (fun v_ τ_ hw => ?_)
    obtain ⟨r_3, rfl, hw⟩ := hw
    obtain ⟨σ_4, rfl⟩ : ∃ z, z = τ_ := ⟨_, rfl⟩
    refine go_if_eq C 27 rfl dX12_returned_15 (fun hc => ?_) (fun hc => ?_)
    · replace hw := hw.1 hc
      refine go_iconst (v := (-1)) C rfl dX12_returned_27 ?_
      exact go_iret C hr ⟨_, rfl, hw⟩ dX12_returned_28
    · replace hw := hw.2 hc
      refine go_iload_n C 3 rfl rfl dX12_returned_18 ?_
      refine go_iconst (v := 0) C rfl dX12_returned_19 ?_
      refine go_iconst (v := 2) C rfl dX12_returned_20 ?_
      refine go_callS (as := [.int a3, .int 0, .int 2]) C hR cwX12_152 (Nat.le_trans (by decide) hd) (by decide) rfl rfl (Nat.le_of_ble_eq_true rfl) dX12_returned_21 (spX12_in (Nat.le_refl _) hN hw) (fun v_ τ_ hw => ?_)
      obtain ⟨r_5, rfl, hw⟩ := hw
      obtain ⟨σ_6, rfl⟩ : ∃ z, z = τ_ := ⟨_, rfl⟩
      refine go_if_ne C 29 rfl dX12_returned_24 (fun hc => ?_) (fun hc => ?_)
      · replace hw := hw.1 hc
        refine go_aload_n C 0 rfl rfl dX12_returned_29 ?_
        refine go_callV (as := []) C hR (shX12 G) (ltX12 hN) cwX12_464 (Nat.le_trans (by decide) hd) (by decide) rfl rfl (Nat.le_of_ble_eq_true rfl) dX12_returned_30 (spX12_runsAll (Nat.le_refl _) hN hw) (fun v_ τ_ hw => ?_)
        obtain ⟨rfl, hw⟩ := hw
        obtain ⟨σ_8, rfl⟩ : ∃ z, z = τ_ := ⟨_, rfl⟩
        refine go_bipush (v := (-100)) C rfl dX12_returned_33 ?_
        refine go_istore (lv2 := [(4, .int (-100)), (0, .ref (G.2.2.1 75)), (1, .int a1), (2, .int a2), (3, .int a3)]) C (by rw [hnl]; decide) rfl dX12_returned_35 ?_
        refine go_bipush (v := (-40)) C rfl dX12_returned_37 ?_
        refine go_istore (lv2 := [(5, .int (-40)), (4, .int (-100)), (0, .ref (G.2.2.1 75)), (1, .int a1), (2, .int a2), (3, .int a3)]) C (by rw [hnl]; decide) rfl dX12_returned_39 ?_
        refine go_sub [2, 3, 4, 5, 1, 0] rfl ?_
        obtain ⟨n_0, hw⟩ := hw
        exact (gbX12_returned_41 C hr hR hnl hd hN) n_0 _ _ _ _ _ _ hw
      · replace hw := hw.2 hc
        refine go_iconst (v := (-1)) C rfl dX12_returned_27 ?_
        exact go_iret C hr ⟨_, rfl, hw⟩ dX12_returned_28
-- CradleNamesModel.isApart(I)Z
set_option maxRecDepth 20000 in
set_option maxHeartbeats 4000000 in
theorem gbX12_isApart_21 {X : XT} {G : GT} {l : Launch} {d : Nat}  {post : Int32 → St → Prop} (C : Cx X G cX12_isApart RX12) (hr : Rt X G (some .boolean) (fun v τ => ∃ r : Int32, v = some (.int r) ∧ post r τ)) (hR : Rm X l d) (hnl : X.2.2.2.2.2.2.2.2.2.2.1 = 5)  (hd : 5 ≤ d) (hN : 119 ≤ G.2.2.2.2.2)  {K4 : Int32 → Int32 → Int32 → St → Prop} (hK4 : ∀ (v1 : Int32) (v2 : Int32) (v3 : Int32) (σ : St), K4 v1 v2 v3 σ → Go X G 4 [(0, .ref (G.2.2.1 75)), (1, .int v1), (2, .int v2), (3, .int v3)] [] σ)
    : ∀ (n : Nat) (v1 : Int32) (v2 : Int32) (v3 : Int32) (v4 : Int32) (σ : St), wbX12_isApart_21  K4 post n v1 v2 v3 v4 σ → Go X G 21 [(0, .ref (G.2.2.1 75)), (1, .int v1), (2, .int v2), (3, .int v3), (4, .int v4)] [] σ := by
  intro n
  induction n with
  | zero => intro v1 v2 v3 v4 σ hw; exact hw.elim
  | succ n ih =>
    intro v1 v2 v3 v4 σ hw
    have hw : ((v3 ≤ v4 →
      ∀ v3_1 : Int32, v3_1 = v3 + 1 →
      K4 v1 v2 v3_1 σ) ∧
    (¬ v3 ≤ v4 →
      ((v2 = 0 →
        ∀ v3_2 : Int32, v3_2 = v3 + 1 →
        K4 v1 v2 v3_2 σ) ∧
      (¬ v2 = 0 →
        ((((v1 >>> (v3 &&& 31)) &&& 1) = 0 →
          ∀ v4_3 : Int32, v4_3 = v4 + 1 →
          wbX12_isApart_21 K4 post n v1 1 v3 v4_3 σ) ∧
        (¬ ((v1 >>> (v3 &&& 31)) &&& 1) = 0 →
          ((((v1 >>> (v4 &&& 31)) &&& 1) = 0 →
            ∀ v4_4 : Int32, v4_4 = v4 + 1 →
            wbX12_isApart_21 K4 post n v1 1 v3 v4_4 σ) ∧
          (¬ ((v1 >>> (v4 &&& 31)) &&& 1) = 0 →
            vp_in v3 16 ∧ (
            vp_in v4 16 ∧ (
            wpX12_areAlike (gL σ 78 v3.toNatClampNeg) (gL σ 78 v4.toNatClampNeg) σ (fun r_5 σ_6 =>
            ((¬ r_5 = 0 →
              ∀ v4_7 : Int32, v4_7 = v4 + 1 →
              wbX12_isApart_21 K4 post n v1 0 v3 v4_7 σ_6) ∧
            (r_5 = 0 →
              ∀ v4_8 : Int32, v4_8 = v4 + 1 →
              wbX12_isApart_21 K4 post n v1 1 v3 v4_8 σ_6))))))))))))) := hw
    refine go_iload C 4 rfl dX12_isApart_21 ?_
    refine go_iload_n C 3 rfl rfl dX12_isApart_23 ?_
    refine go_icmp_ge C 79 rfl dX12_isApart_24 (fun hc => ?_) (fun hc => ?_)
    · replace hw := hw.1 hc
      obtain ⟨v3_1, ev3_1⟩ : ∃ z : Int32, z = v3 + 1 := ⟨_, rfl⟩
      replace hw := hw v3_1 ev3_1
      refine go_iinc (v := v3_1) (lv2 := [(3, .int v3_1), (0, .ref (G.2.2.1 75)), (1, .int v1), (2, .int v2), (4, .int v4)]) C 3 rfl (by rw [ev3_1]; rfl) (by rw [hnl]; decide) rfl dX12_isApart_79 ?_
      refine go_goto C 4 rfl dX12_isApart_82 ?_
      refine go_sub [1, 2, 3, 0] rfl ?_
      exact hK4 _ _ _ _ hw
    · replace hw := hw.2 hc
      refine go_iload_n C 2 rfl rfl dX12_isApart_27 ?_
      refine go_if_eq C 79 rfl dX12_isApart_28 (fun hc => ?_) (fun hc => ?_)
      · replace hw := hw.1 hc
        obtain ⟨v3_2, ev3_2⟩ : ∃ z : Int32, z = v3 + 1 := ⟨_, rfl⟩
        replace hw := hw v3_2 ev3_2
        refine go_iinc (v := v3_2) (lv2 := [(3, .int v3_2), (0, .ref (G.2.2.1 75)), (1, .int v1), (2, .int v2), (4, .int v4)]) C 3 rfl (by rw [ev3_2]; rfl) (by rw [hnl]; decide) rfl dX12_isApart_79 ?_
        refine go_goto C 4 rfl dX12_isApart_82 ?_
        refine go_sub [1, 2, 3, 0] rfl ?_
        exact hK4 _ _ _ _ hw
      · replace hw := hw.2 hc
        refine go_iload_n C 1 rfl rfl dX12_isApart_31 ?_
        refine go_iload_n C 3 rfl rfl dX12_isApart_32 ?_
        refine go_ishr C dX12_isApart_33 ?_
        refine go_iconst (v := 1) C rfl dX12_isApart_34 ?_
        refine go_iand C dX12_isApart_35 ?_
        refine go_if_eq C 67 rfl dX12_isApart_36 (fun hc => ?_) (fun hc => ?_)
        · replace hw := hw.1 hc
          refine go_iconst (v := 1) C rfl dX12_isApart_67 ?_
          refine go_goto C 72 rfl dX12_isApart_68 ?_
          refine go_istore_n (lv2 := [(2, .int 1), (0, .ref (G.2.2.1 75)), (1, .int v1), (3, .int v3), (4, .int v4)]) C rfl (by rw [hnl]; decide) rfl dX12_isApart_72 ?_
          obtain ⟨v4_3, ev4_3⟩ : ∃ z : Int32, z = v4 + 1 := ⟨_, rfl⟩
          replace hw := hw v4_3 ev4_3
          refine go_iinc (v := v4_3) (lv2 := [(4, .int v4_3), (2, .int 1), (0, .ref (G.2.2.1 75)), (1, .int v1), (3, .int v3)]) C 4 rfl (by rw [ev4_3]; rfl) (by rw [hnl]; decide) rfl dX12_isApart_73 ?_
          refine go_goto C 21 rfl dX12_isApart_76 ?_
          refine go_sub [2, 3, 1, 4, 0] rfl ?_
          exact ih _ _ _ _ _ hw
        · replace hw := hw.2 hc
          refine go_iload_n C 1 rfl rfl dX12_isApart_39 ?_
          refine go_iload C 4 rfl dX12_isApart_40 ?_
          refine go_ishr C dX12_isApart_42 ?_
          refine go_iconst (v := 1) C rfl dX12_isApart_43 ?_
          refine go_iand C dX12_isApart_44 ?_
          refine go_if_eq C 67 rfl dX12_isApart_45 (fun hc => ?_) (fun hc => ?_)
          · replace hw := hw.1 hc
            refine go_iconst (v := 1) C rfl dX12_isApart_67 ?_
            refine go_goto C 72 rfl dX12_isApart_68 ?_
            refine go_istore_n (lv2 := [(2, .int 1), (0, .ref (G.2.2.1 75)), (1, .int v1), (3, .int v3), (4, .int v4)]) C rfl (by rw [hnl]; decide) rfl dX12_isApart_72 ?_
            obtain ⟨v4_4, ev4_4⟩ : ∃ z : Int32, z = v4 + 1 := ⟨_, rfl⟩
            replace hw := hw v4_4 ev4_4
            refine go_iinc (v := v4_4) (lv2 := [(4, .int v4_4), (2, .int 1), (0, .ref (G.2.2.1 75)), (1, .int v1), (3, .int v3)]) C 4 rfl (by rw [ev4_4]; rfl) (by rw [hnl]; decide) rfl dX12_isApart_73 ?_
            refine go_goto C 21 rfl dX12_isApart_76 ?_
            refine go_sub [2, 3, 1, 4, 0] rfl ?_
            exact ih _ _ _ _ _ hw
          · replace hw := hw.2 hc
            refine go_aload_n C 0 rfl rfl dX12_isApart_48 ?_
            refine go_get (v := .ref (G.2.2.1 78)) C (shX12 G) (ltX12 hN) lkX12_16 rfl dX12_isApart_49 ?_
            refine go_iload_n C 3 rfl rfl dX12_isApart_52 ?_
            refine go_lald C (saX12_letters G) (laX12_letters hN) hw.1 dX12_isApart_53 ?_
            replace hw := hw.2
            refine go_aload_n C 0 rfl rfl dX12_isApart_54 ?_
            refine go_get (v := .ref (G.2.2.1 78)) C (shX12 G) (ltX12 hN) lkX12_16 rfl dX12_isApart_55 ?_
            refine go_iload C 4 rfl dX12_isApart_58 ?_
            refine go_lald C (saX12_letters G) (laX12_letters hN) hw.1 dX12_isApart_60 ?_
            replace hw := hw.2
            refine go_callS (as := [.long (gL σ 78 v3.toNatClampNeg), .long (gL σ 78 v4.toNatClampNeg)]) C hR cwX12_199 (Nat.le_trans (by decide) hd) (by decide) rfl rfl (Nat.le_of_ble_eq_true rfl) dX12_isApart_61 (spX12_areAlike (Nat.le_refl _) hN hw) (fun v_ τ_ hw => ?_)
            obtain ⟨r_5, rfl, hw⟩ := hw
            obtain ⟨σ_6, rfl⟩ : ∃ z, z = τ_ := ⟨_, rfl⟩
            refine go_if_ne C 71 rfl dX12_isApart_64 (fun hc => ?_) (fun hc => ?_)
            · replace hw := hw.1 hc
              refine go_iconst (v := 0) C rfl dX12_isApart_71 ?_
              refine go_istore_n (lv2 := [(2, .int 0), (0, .ref (G.2.2.1 75)), (1, .int v1), (3, .int v3), (4, .int v4)]) C rfl (by rw [hnl]; decide) rfl dX12_isApart_72 ?_
              obtain ⟨v4_7, ev4_7⟩ : ∃ z : Int32, z = v4 + 1 := ⟨_, rfl⟩
              replace hw := hw v4_7 ev4_7
              refine go_iinc (v := v4_7) (lv2 := [(4, .int v4_7), (2, .int 0), (0, .ref (G.2.2.1 75)), (1, .int v1), (3, .int v3)]) C 4 rfl (by rw [ev4_7]; rfl) (by rw [hnl]; decide) rfl dX12_isApart_73 ?_
              refine go_goto C 21 rfl dX12_isApart_76 ?_
              refine go_sub [2, 3, 1, 4, 0] rfl ?_
              exact ih _ _ _ _ _ hw
            · replace hw := hw.2 hc
              refine go_iconst (v := 1) C rfl dX12_isApart_67 ?_
              refine go_goto C 72 rfl dX12_isApart_68 ?_
              refine go_istore_n (lv2 := [(2, .int 1), (0, .ref (G.2.2.1 75)), (1, .int v1), (3, .int v3), (4, .int v4)]) C rfl (by rw [hnl]; decide) rfl dX12_isApart_72 ?_
              obtain ⟨v4_8, ev4_8⟩ : ∃ z : Int32, z = v4 + 1 := ⟨_, rfl⟩
              replace hw := hw v4_8 ev4_8
              refine go_iinc (v := v4_8) (lv2 := [(4, .int v4_8), (2, .int 1), (0, .ref (G.2.2.1 75)), (1, .int v1), (3, .int v3)]) C 4 rfl (by rw [ev4_8]; rfl) (by rw [hnl]; decide) rfl dX12_isApart_73 ?_
              refine go_goto C 21 rfl dX12_isApart_76 ?_
              refine go_sub [2, 3, 1, 4, 0] rfl ?_
              exact ih _ _ _ _ _ hw
set_option maxRecDepth 20000 in
set_option maxHeartbeats 4000000 in
theorem gbX12_isApart_4 {X : XT} {G : GT} {l : Launch} {d : Nat}  {post : Int32 → St → Prop} (C : Cx X G cX12_isApart RX12) (hr : Rt X G (some .boolean) (fun v τ => ∃ r : Int32, v = some (.int r) ∧ post r τ)) (hR : Rm X l d) (hnl : X.2.2.2.2.2.2.2.2.2.2.1 = 5)  (hd : 5 ≤ d) (hN : 119 ≤ G.2.2.2.2.2)   
    : ∀ (n : Nat) (v1 : Int32) (v2 : Int32) (v3 : Int32) (σ : St), wbX12_isApart_4   post n v1 v2 v3 σ → Go X G 4 [(0, .ref (G.2.2.1 75)), (1, .int v1), (2, .int v2), (3, .int v3)] [] σ := by
  intro n
  induction n with
  | zero => intro v1 v2 v3 σ hw; exact hw.elim
  | succ n ih =>
    intro v1 v2 v3 σ hw
    have hw : vp_in 1 9680 ∧ (
    (((gI σ 76 (1 : Int32).toNatClampNeg) ≤ v3 →
      (v2 = 0 ∨ v2 = 1) ∧ post v2 σ) ∧
    (¬ (gI σ 76 (1 : Int32).toNatClampNeg) ≤ v3 →
      ((v2 = 0 →
        (v2 = 0 ∨ v2 = 1) ∧ post v2 σ) ∧
      (¬ v2 = 0 →
        ∃ m_21, wbX12_isApart_21 (wbX12_isApart_4 post n) post m_21 v1 v2 v3 0 σ))))) := hw
    refine go_iload_n C 3 rfl rfl dX12_isApart_4 ?_
    refine go_aload_n C 0 rfl rfl dX12_isApart_5 ?_
    refine go_get (v := .ref (G.2.2.1 76)) C (shX12 G) (ltX12 hN) lkX12_7 rfl dX12_isApart_6 ?_
    refine go_iconst (v := 1) C rfl dX12_isApart_9 ?_
    refine go_iald C (saX12_a G) (laX12_a hN) hw.1 dX12_isApart_10 ?_
    replace hw := hw.2
    refine go_icmp_ge C 85 rfl dX12_isApart_11 (fun hc => ?_) (fun hc => ?_)
    · replace hw := hw.1 hc
      refine go_iload_n C 2 rfl rfl dX12_isApart_85 ?_
      exact go_zret C hr (bool_nar hw.1) ⟨_, rfl, hw.2⟩ dX12_isApart_86
    · replace hw := hw.2 hc
      refine go_iload_n C 2 rfl rfl dX12_isApart_14 ?_
      refine go_if_eq C 85 rfl dX12_isApart_15 (fun hc => ?_) (fun hc => ?_)
      · replace hw := hw.1 hc
        refine go_iload_n C 2 rfl rfl dX12_isApart_85 ?_
        exact go_zret C hr (bool_nar hw.1) ⟨_, rfl, hw.2⟩ dX12_isApart_86
      · replace hw := hw.2 hc
        refine go_iconst (v := 0) C rfl dX12_isApart_18 ?_
        refine go_istore (lv2 := [(4, .int 0), (0, .ref (G.2.2.1 75)), (1, .int v1), (2, .int v2), (3, .int v3)]) C (by rw [hnl]; decide) rfl dX12_isApart_19 ?_
        refine go_sub [1, 2, 3, 4, 0] rfl ?_
        obtain ⟨n_0, hw⟩ := hw
        exact (gbX12_isApart_21 C hr hR hnl hd hN ih) n_0 _ _ _ _ _ hw
set_option maxRecDepth 20000 in
set_option maxHeartbeats 4000000 in
theorem spX12_isApart {l : Launch} {G : GT} {d : Nat}  (hd : 5 ≤ d)  (hN : 119 ≤ G.2.2.2.2.2)  {a1 : Int32} {σ : St} {post : Int32 → St → Prop} (hw : wpX12_isApart  a1 σ post) : Sp l G d yX12_isApart cX12_isApart 5 (some .boolean) [.ref (G.2.2.1 75), .int a1] σ (fun v τ => ∃ r : Int32, v = some (.int r) ∧ post r τ) := by
  refine Sp.of (by decide) (Nat.le_of_ble_eq_true rfl) fun X C hr hR hnl => ?_
  show Go X G 0 [(0, .ref (G.2.2.1 75)), (1, .int a1)] [] σ
  have hw : ∃ m_4, wbX12_isApart_4 post m_4 a1 1 0 σ := hw
  refine go_iconst (v := 1) C rfl dX12_isApart_0 ?_
  refine go_istore_n (lv2 := [(2, .int 1), (0, .ref (G.2.2.1 75)), (1, .int a1)]) C rfl (by rw [hnl]; decide) rfl dX12_isApart_1 ?_
  refine go_iconst (v := 0) C rfl dX12_isApart_2 ?_
  refine go_istore_n (lv2 := [(3, .int 0), (2, .int 1), (0, .ref (G.2.2.1 75)), (1, .int a1)]) C rfl (by rw [hnl]; decide) rfl dX12_isApart_3 ?_
  refine go_sub [2, 3, 1, 0] rfl ?_
  obtain ⟨n_0, hw⟩ := hw
  exact (gbX12_isApart_4 C hr hR hnl hd hN) n_0 _ _ _ _ hw
-- CradleNamesModel.apart(IZ)J
set_option maxRecDepth 20000 in
set_option maxHeartbeats 4000000 in
theorem gbX12_apart_77 {X : XT} {G : GT} {l : Launch} {d : Nat}  {post : Int64 → St → Prop} (C : Cx X G cX12_apart RX12) (hr : Rt X G (some .long) (fun v τ => ∃ r : Int64, v = some (.long r) ∧ post r τ)) (hR : Rm X l d) (hnl : X.2.2.2.2.2.2.2.2.2.2.1 = 11)  (hd : 6 ≤ d) (hN : 119 ≤ G.2.2.2.2.2)  {K13 : Int32 → Int32 → Int64 → Int32 → Int32 → St → Prop} (hK13 : ∀ (v1 : Int32) (v2 : Int32) (v3 : Int64) (v5 : Int32) (v6 : Int32) (σ : St), K13 v1 v2 v3 v5 v6 σ → Go X G 13 [(0, .ref (G.2.2.1 75)), (1, .int v1), (2, .int v2), (3, .long v3), (5, .int v5), (6, .int v6)] [] σ)
    : ∀ (v1 : Int32) (v2 : Int32) (v3 : Int64) (v5 : Int32) (v6 : Int32) (v7 : Int64) (v9 : Int32) (σ : St), wbX12_apart_77  K13 post v1 v2 v3 v5 v6 v7 v9 σ → Go X G 77 [(0, .ref (G.2.2.1 75)), (1, .int v1), (2, .int v2), (3, .long v3), (5, .int v5), (6, .int v6), (7, .long v7), (9, .int v9)] [] σ := by
  intro v1 v2 v3 v5 v6 v7 v9 σ hw
  have hw : ((¬ v9 = v1 →
    ∀ v6_1 : Int32, v6_1 = v6 + 1 →
    K13 v1 v2 v3 v5 v6_1 σ) ∧
  (v9 = v1 →
    ((v7 ≤ 0 →
      ∀ v6_2 : Int32, v6_2 = v6 + 1 →
      K13 v1 v2 v3 v5 v6_2 σ) ∧
    (¬ v7 ≤ 0 →
      ((v2 = 0 →
        ∀ v3_3 : Int64, v3_3 = (v3 + v7) →
        ∀ v6_4 : Int32, v6_4 = v6 + 1 →
        K13 v1 v2 v3_3 v5 v6_4 σ) ∧
      (¬ v2 = 0 →
        wpX12_isApart v6 σ (fun r_5 σ_6 =>
        ((r_5 = 0 →
          ∀ v6_7 : Int32, v6_7 = v6 + 1 →
          K13 v1 v2 v3 v5 v6_7 σ_6) ∧
        (¬ r_5 = 0 →
          ∀ v3_8 : Int64, v3_8 = (v3 + v7) →
          ∀ v6_9 : Int32, v6_9 = v6 + 1 →
          K13 v1 v2 v3_8 v5 v6_9 σ_6))))))))) := hw
  refine go_iload C 7 rfl dX12_apart_77 ?_
  refine go_iload_n C 1 rfl rfl dX12_apart_79 ?_
  refine go_icmp_ne C 108 rfl dX12_apart_80 (fun hc => ?_) (fun hc => ?_)
  · replace hw := hw.1 hc
    obtain ⟨v6_1, ev6_1⟩ : ∃ z : Int32, z = v6 + 1 := ⟨_, rfl⟩
    replace hw := hw v6_1 ev6_1
    refine go_iinc (v := v6_1) (lv2 := [(6, .int v6_1), (0, .ref (G.2.2.1 75)), (1, .int v1), (2, .int v2), (3, .long v3), (5, .int v5), (7, .long v7), (9, .int v9)]) C 5 rfl (by rw [ev6_1]; rfl) (by rw [hnl]; decide) rfl dX12_apart_108 ?_
    refine go_goto C 13 rfl dX12_apart_111 ?_
    refine go_sub [1, 2, 3, 4, 5, 0] rfl ?_
    exact hK13 _ _ _ _ _ _ hw
  · replace hw := hw.2 hc
    refine go_lload C 6 rfl dX12_apart_83 ?_
    refine go_lconst (v := 0) C rfl dX12_apart_85 ?_
    refine go_lc_le C 108 rfl dX12_apart_86 dX12_apart_87 (fun hc => ?_) (fun hc => ?_)
    · replace hw := hw.1 hc
      obtain ⟨v6_2, ev6_2⟩ : ∃ z : Int32, z = v6 + 1 := ⟨_, rfl⟩
      replace hw := hw v6_2 ev6_2
      refine go_iinc (v := v6_2) (lv2 := [(6, .int v6_2), (0, .ref (G.2.2.1 75)), (1, .int v1), (2, .int v2), (3, .long v3), (5, .int v5), (7, .long v7), (9, .int v9)]) C 5 rfl (by rw [ev6_2]; rfl) (by rw [hnl]; decide) rfl dX12_apart_108 ?_
      refine go_goto C 13 rfl dX12_apart_111 ?_
      refine go_sub [1, 2, 3, 4, 5, 0] rfl ?_
      exact hK13 _ _ _ _ _ _ hw
    · replace hw := hw.2 hc
      refine go_iload_n C 2 rfl rfl dX12_apart_90 ?_
      refine go_if_eq C 103 rfl dX12_apart_91 (fun hc => ?_) (fun hc => ?_)
      · replace hw := hw.1 hc
        refine go_lload_n C 3 rfl rfl dX12_apart_103 ?_
        refine go_lload C 6 rfl dX12_apart_104 ?_
        refine go_ladd C dX12_apart_106 ?_
        refine go_topl (fun v3_3 ev3_3 => ?_)
        replace hw := hw v3_3 ev3_3
        refine go_lstore_n (lv2 := [(3, .long v3_3), (0, .ref (G.2.2.1 75)), (1, .int v1), (2, .int v2), (5, .int v5), (6, .int v6), (7, .long v7), (9, .int v9)]) C rfl (by rw [hnl]; decide) rfl dX12_apart_107 ?_
        obtain ⟨v6_4, ev6_4⟩ : ∃ z : Int32, z = v6 + 1 := ⟨_, rfl⟩
        replace hw := hw v6_4 ev6_4
        refine go_iinc (v := v6_4) (lv2 := [(6, .int v6_4), (3, .long v3_3), (0, .ref (G.2.2.1 75)), (1, .int v1), (2, .int v2), (5, .int v5), (7, .long v7), (9, .int v9)]) C 5 rfl (by rw [ev6_4]; rfl) (by rw [hnl]; decide) rfl dX12_apart_108 ?_
        refine go_goto C 13 rfl dX12_apart_111 ?_
        refine go_sub [2, 3, 4, 1, 5, 0] rfl ?_
        exact hK13 _ _ _ _ _ _ hw
      · replace hw := hw.2 hc
        refine go_aload_n C 0 rfl rfl dX12_apart_94 ?_
        refine go_iload C 5 rfl dX12_apart_95 ?_
        refine go_callV (as := [.int v6]) C hR (shX12 G) (ltX12 hN) cwX12_500 (Nat.le_trans (by decide) hd) (by decide) rfl rfl (Nat.le_of_ble_eq_true rfl) dX12_apart_97 (spX12_isApart (Nat.le_refl _) hN hw) (fun v_ τ_ hw => ?_)
        obtain ⟨r_5, rfl, hw⟩ := hw
        obtain ⟨σ_6, rfl⟩ : ∃ z, z = τ_ := ⟨_, rfl⟩
        refine go_if_eq C 108 rfl dX12_apart_100 (fun hc => ?_) (fun hc => ?_)
        · replace hw := hw.1 hc
          obtain ⟨v6_7, ev6_7⟩ : ∃ z : Int32, z = v6 + 1 := ⟨_, rfl⟩
          replace hw := hw v6_7 ev6_7
          refine go_iinc (v := v6_7) (lv2 := [(6, .int v6_7), (0, .ref (G.2.2.1 75)), (1, .int v1), (2, .int v2), (3, .long v3), (5, .int v5), (7, .long v7), (9, .int v9)]) C 5 rfl (by rw [ev6_7]; rfl) (by rw [hnl]; decide) rfl dX12_apart_108 ?_
          refine go_goto C 13 rfl dX12_apart_111 ?_
          refine go_sub [1, 2, 3, 4, 5, 0] rfl ?_
          exact hK13 _ _ _ _ _ _ hw
        · replace hw := hw.2 hc
          refine go_lload_n C 3 rfl rfl dX12_apart_103 ?_
          refine go_lload C 6 rfl dX12_apart_104 ?_
          refine go_ladd C dX12_apart_106 ?_
          refine go_topl (fun v3_8 ev3_8 => ?_)
          replace hw := hw v3_8 ev3_8
          refine go_lstore_n (lv2 := [(3, .long v3_8), (0, .ref (G.2.2.1 75)), (1, .int v1), (2, .int v2), (5, .int v5), (6, .int v6), (7, .long v7), (9, .int v9)]) C rfl (by rw [hnl]; decide) rfl dX12_apart_107 ?_
          obtain ⟨v6_9, ev6_9⟩ : ∃ z : Int32, z = v6 + 1 := ⟨_, rfl⟩
          replace hw := hw v6_9 ev6_9
          refine go_iinc (v := v6_9) (lv2 := [(6, .int v6_9), (3, .long v3_8), (0, .ref (G.2.2.1 75)), (1, .int v1), (2, .int v2), (5, .int v5), (7, .long v7), (9, .int v9)]) C 5 rfl (by rw [ev6_9]; rfl) (by rw [hnl]; decide) rfl dX12_apart_108 ?_
          refine go_goto C 13 rfl dX12_apart_111 ?_
          refine go_sub [2, 3, 4, 1, 5, 0] rfl ?_
          exact hK13 _ _ _ _ _ _ hw
set_option maxRecDepth 20000 in
set_option maxHeartbeats 4000000 in
theorem gbX12_apart_31 {X : XT} {G : GT} {l : Launch} {d : Nat}  {post : Int64 → St → Prop} (C : Cx X G cX12_apart RX12) (hr : Rt X G (some .long) (fun v τ => ∃ r : Int64, v = some (.long r) ∧ post r τ)) (hR : Rm X l d) (hnl : X.2.2.2.2.2.2.2.2.2.2.1 = 11)  (hd : 6 ≤ d) (hN : 119 ≤ G.2.2.2.2.2)  {K13 : Int32 → Int32 → Int64 → Int32 → Int32 → St → Prop} (hK13 : ∀ (v1 : Int32) (v2 : Int32) (v3 : Int64) (v5 : Int32) (v6 : Int32) (σ : St), K13 v1 v2 v3 v5 v6 σ → Go X G 13 [(0, .ref (G.2.2.1 75)), (1, .int v1), (2, .int v2), (3, .long v3), (5, .int v5), (6, .int v6)] [] σ)
    : ∀ (n : Nat) (v1 : Int32) (v2 : Int32) (v3 : Int64) (v5 : Int32) (v6 : Int32) (v7 : Int64) (v9 : Int32) (v10 : Int32) (σ : St), wbX12_apart_31  K13 post n v1 v2 v3 v5 v6 v7 v9 v10 σ → Go X G 31 [(0, .ref (G.2.2.1 75)), (1, .int v1), (2, .int v2), (3, .long v3), (5, .int v5), (6, .int v6), (7, .long v7), (9, .int v9), (10, .int v10)] [] σ := by
  intro n
  induction n with
  | zero => intro v1 v2 v3 v5 v6 v7 v9 v10 σ hw; exact hw.elim
  | succ n ih =>
    intro v1 v2 v3 v5 v6 v7 v9 v10 σ hw
    have hw : ((v5 ≤ v10 →
      wbX12_apart_77 K13 post v1 v2 v3 v5 v6 v7 v9 σ) ∧
    (¬ v5 ≤ v10 →
      ((v1 < v9 →
        wbX12_apart_77 K13 post v1 v2 v3 v5 v6 v7 v9 σ) ∧
      (¬ v1 < v9 →
        ((¬ ((v6 >>> (v10 &&& 31)) &&& 1) = 1 →
          ∀ v10_1 : Int32, v10_1 = v10 + 1 →
          wbX12_apart_31 K13 post n v1 v2 v3 v5 v6 v7 v9 v10_1 σ) ∧
        (((v6 >>> (v10 &&& 31)) &&& 1) = 1 →
          vp_in v10 16 ∧ (
          ∀ v7_2 : Int64, v7_2 = (v7 * (gI σ 113 v10.toNatClampNeg).toInt64) →
          ∀ v9_3 : Int32, v9_3 = v9 + 1 →
          ∀ v10_4 : Int32, v10_4 = v10 + 1 →
          wbX12_apart_31 K13 post n v1 v2 v3 v5 v6 v7_2 v9_3 v10_4 σ))))))) := hw
    refine go_iload C 8 rfl dX12_apart_31 ?_
    refine go_iload C 4 rfl dX12_apart_33 ?_
    refine go_icmp_ge C 77 rfl dX12_apart_35 (fun hc => ?_) (fun hc => ?_)
    · replace hw := hw.1 hc
      refine go_sub [0, 1, 2, 3, 4, 5, 6, 7] rfl ?_
      exact (gbX12_apart_77 C hr hR hnl hd hN hK13) _ _ _ _ _ _ _ _ hw
    · replace hw := hw.2 hc
      refine go_iload C 7 rfl dX12_apart_38 ?_
      refine go_iload_n C 1 rfl rfl dX12_apart_40 ?_
      refine go_icmp_gt C 77 rfl dX12_apart_41 (fun hc => ?_) (fun hc => ?_)
      · replace hw := hw.1 hc
        refine go_sub [0, 1, 2, 3, 4, 5, 6, 7] rfl ?_
        exact (gbX12_apart_77 C hr hR hnl hd hN hK13) _ _ _ _ _ _ _ _ hw
      · replace hw := hw.2 hc
        refine go_iload C 5 rfl dX12_apart_44 ?_
        refine go_iload C 8 rfl dX12_apart_46 ?_
        refine go_ishr C dX12_apart_48 ?_
        refine go_iconst (v := 1) C rfl dX12_apart_49 ?_
        refine go_iand C dX12_apart_50 ?_
        refine go_iconst (v := 1) C rfl dX12_apart_51 ?_
        refine go_icmp_ne C 71 rfl dX12_apart_52 (fun hc => ?_) (fun hc => ?_)
        · replace hw := hw.1 hc
          obtain ⟨v10_1, ev10_1⟩ : ∃ z : Int32, z = v10 + 1 := ⟨_, rfl⟩
          replace hw := hw v10_1 ev10_1
          refine go_iinc (v := v10_1) (lv2 := [(10, .int v10_1), (0, .ref (G.2.2.1 75)), (1, .int v1), (2, .int v2), (3, .long v3), (5, .int v5), (6, .int v6), (7, .long v7), (9, .int v9)]) C 8 rfl (by rw [ev10_1]; rfl) (by rw [hnl]; decide) rfl dX12_apart_71 ?_
          refine go_goto C 31 rfl dX12_apart_74 ?_
          refine go_sub [1, 2, 3, 4, 5, 6, 7, 8, 0] rfl ?_
          exact ih _ _ _ _ _ _ _ _ _ hw
        · replace hw := hw.2 hc
          refine go_lload C 6 rfl dX12_apart_55 ?_
          refine go_aload_n C 0 rfl rfl dX12_apart_57 ?_
          refine go_get (v := .ref (G.2.2.1 113)) C (shX12 G) (ltX12 hN) lkX12_130 rfl dX12_apart_58 ?_
          refine go_iload C 8 rfl dX12_apart_61 ?_
          refine go_iald C (saX12_child G) (laX12_child hN) hw.1 dX12_apart_63 ?_
          replace hw := hw.2
          refine go_i2l C dX12_apart_64 ?_
          refine go_lmul C dX12_apart_65 ?_
          refine go_topl (fun v7_2 ev7_2 => ?_)
          replace hw := hw v7_2 ev7_2
          refine go_lstore (lv2 := [(7, .long v7_2), (0, .ref (G.2.2.1 75)), (1, .int v1), (2, .int v2), (3, .long v3), (5, .int v5), (6, .int v6), (9, .int v9), (10, .int v10)]) C (by rw [hnl]; decide) rfl dX12_apart_66 ?_
          obtain ⟨v9_3, ev9_3⟩ : ∃ z : Int32, z = v9 + 1 := ⟨_, rfl⟩
          replace hw := hw v9_3 ev9_3
          refine go_iinc (v := v9_3) (lv2 := [(9, .int v9_3), (7, .long v7_2), (0, .ref (G.2.2.1 75)), (1, .int v1), (2, .int v2), (3, .long v3), (5, .int v5), (6, .int v6), (10, .int v10)]) C 7 rfl (by rw [ev9_3]; rfl) (by rw [hnl]; decide) rfl dX12_apart_68 ?_
          obtain ⟨v10_4, ev10_4⟩ : ∃ z : Int32, z = v10 + 1 := ⟨_, rfl⟩
          replace hw := hw v10_4 ev10_4
          refine go_iinc (v := v10_4) (lv2 := [(10, .int v10_4), (9, .int v9_3), (7, .long v7_2), (0, .ref (G.2.2.1 75)), (1, .int v1), (2, .int v2), (3, .long v3), (5, .int v5), (6, .int v6)]) C 8 rfl (by rw [ev10_4]; rfl) (by rw [hnl]; decide) rfl dX12_apart_71 ?_
          refine go_goto C 31 rfl dX12_apart_74 ?_
          refine go_sub [3, 4, 5, 6, 7, 8, 2, 1, 0] rfl ?_
          exact ih _ _ _ _ _ _ _ _ _ hw
set_option maxRecDepth 20000 in
set_option maxHeartbeats 4000000 in
theorem gbX12_apart_13 {X : XT} {G : GT} {l : Launch} {d : Nat}  {post : Int64 → St → Prop} (C : Cx X G cX12_apart RX12) (hr : Rt X G (some .long) (fun v τ => ∃ r : Int64, v = some (.long r) ∧ post r τ)) (hR : Rm X l d) (hnl : X.2.2.2.2.2.2.2.2.2.2.1 = 11)  (hd : 6 ≤ d) (hN : 119 ≤ G.2.2.2.2.2)   
    : ∀ (n : Nat) (v1 : Int32) (v2 : Int32) (v3 : Int64) (v5 : Int32) (v6 : Int32) (σ : St), wbX12_apart_13   post n v1 v2 v3 v5 v6 σ → Go X G 13 [(0, .ref (G.2.2.1 75)), (1, .int v1), (2, .int v2), (3, .long v3), (5, .int v5), (6, .int v6)] [] σ := by
  intro n
  induction n with
  | zero => intro v1 v2 v3 v5 v6 σ hw; exact hw.elim
  | succ n ih =>
    intro v1 v2 v3 v5 v6 σ hw
    have hw : (((1 <<< (v5 &&& 31)) ≤ v6 →
      post v3 σ) ∧
    (¬ (1 <<< (v5 &&& 31)) ≤ v6 →
      ∃ m_31, wbX12_apart_31 (wbX12_apart_13 post n) post m_31 v1 v2 v3 v5 v6 1 0 0 σ)) := hw
    refine go_iload C 5 rfl dX12_apart_13 ?_
    refine go_iconst (v := 1) C rfl dX12_apart_15 ?_
    refine go_iload C 4 rfl dX12_apart_16 ?_
    refine go_ishl C dX12_apart_18 ?_
    refine go_icmp_ge C 114 rfl dX12_apart_19 (fun hc => ?_) (fun hc => ?_)
    · replace hw := hw.1 hc
      refine go_lload_n C 3 rfl rfl dX12_apart_114 ?_
      exact go_lret C hr ⟨_, rfl, hw⟩ dX12_apart_115
    · replace hw := hw.2 hc
      refine go_lconst (v := 1) C rfl dX12_apart_22 ?_
      refine go_lstore (lv2 := [(7, .long 1), (0, .ref (G.2.2.1 75)), (1, .int v1), (2, .int v2), (3, .long v3), (5, .int v5), (6, .int v6)]) C (by rw [hnl]; decide) rfl dX12_apart_23 ?_
      refine go_iconst (v := 0) C rfl dX12_apart_25 ?_
      refine go_istore (lv2 := [(9, .int 0), (7, .long 1), (0, .ref (G.2.2.1 75)), (1, .int v1), (2, .int v2), (3, .long v3), (5, .int v5), (6, .int v6)]) C (by rw [hnl]; decide) rfl dX12_apart_26 ?_
      refine go_iconst (v := 0) C rfl dX12_apart_28 ?_
      refine go_istore (lv2 := [(10, .int 0), (9, .int 0), (7, .long 1), (0, .ref (G.2.2.1 75)), (1, .int v1), (2, .int v2), (3, .long v3), (5, .int v5), (6, .int v6)]) C (by rw [hnl]; decide) rfl dX12_apart_29 ?_
      refine go_sub [3, 4, 5, 6, 7, 8, 2, 1, 0] rfl ?_
      obtain ⟨n_0, hw⟩ := hw
      exact (gbX12_apart_31 C hr hR hnl hd hN ih) n_0 _ _ _ _ _ _ _ _ _ hw
set_option maxRecDepth 20000 in
set_option maxHeartbeats 4000000 in
theorem spX12_apart {l : Launch} {G : GT} {d : Nat}  (hd : 6 ≤ d)  (hN : 119 ≤ G.2.2.2.2.2)  {a1 : Int32} {a2 : Int32} {σ : St} {post : Int64 → St → Prop} (hw : wpX12_apart  a1 a2 σ post) : Sp l G d yX12_apart cX12_apart 11 (some .long) [.ref (G.2.2.1 75), .int a1, .int a2] σ (fun v τ => ∃ r : Int64, v = some (.long r) ∧ post r τ) := by
  refine Sp.of (by decide) (Nat.le_of_ble_eq_true rfl) fun X C hr hR hnl => ?_
  show Go X G 0 [(0, .ref (G.2.2.1 75)), (1, .int a1), (2, .int a2)] [] σ
  have hw : vp_in 1 9680 ∧ (
  ∀ v5_1 : Int32, v5_1 = (gI σ 76 (1 : Int32).toNatClampNeg) →
  ∃ m_13, wbX12_apart_13 post m_13 a1 a2 0 v5_1 0 σ) := hw
  refine go_lconst (v := 0) C rfl dX12_apart_0 ?_
  refine go_lstore_n (lv2 := [(3, .long 0), (0, .ref (G.2.2.1 75)), (1, .int a1), (2, .int a2)]) C rfl (by rw [hnl]; decide) rfl dX12_apart_1 ?_
  refine go_aload_n C 1 rfl rfl dX12_apart_2 ?_
  refine go_get (v := .ref (G.2.2.1 76)) C (shX12 G) (ltX12 hN) lkX12_7 rfl dX12_apart_3 ?_
  refine go_iconst (v := 1) C rfl dX12_apart_6 ?_
  refine go_iald C (saX12_a G) (laX12_a hN) hw.1 dX12_apart_7 ?_
  replace hw := hw.2
  refine go_topi (fun v5_1 ev5_1 => ?_)
  replace hw := hw v5_1 ev5_1
  refine go_istore (lv2 := [(5, .int v5_1), (3, .long 0), (0, .ref (G.2.2.1 75)), (1, .int a1), (2, .int a2)]) C (by rw [hnl]; decide) rfl dX12_apart_8 ?_
  refine go_iconst (v := 0) C rfl dX12_apart_10 ?_
  refine go_istore (lv2 := [(6, .int 0), (5, .int v5_1), (3, .long 0), (0, .ref (G.2.2.1 75)), (1, .int a1), (2, .int a2)]) C (by rw [hnl]; decide) rfl dX12_apart_11 ?_
  refine go_sub [3, 4, 5, 2, 1, 0] rfl ?_
  obtain ⟨n_0, hw⟩ := hw
  exact (gbX12_apart_13 C hr hR hnl hd hN) n_0 _ _ _ _ _ _ hw
-- CradleNamesModel.room(IIIZ)I
set_option maxRecDepth 20000 in
set_option maxHeartbeats 4000000 in
theorem gbX12_room_109 {X : XT} {G : GT} {l : Launch} {d : Nat}  {post : Int32 → St → Prop} (C : Cx X G cX12_room RX12) (hr : Rt X G (some .int) (fun v τ => ∃ r : Int32, v = some (.int r) ∧ post r τ)) (hR : Rm X l d) (hnl : X.2.2.2.2.2.2.2.2.2.2.1 = 9)  (hd : 10 ≤ d) (hN : 119 ≤ G.2.2.2.2.2)   
    : ∀ (n : Nat) (v3 : Int32) (v4 : Int32) (v5 : Int32) (v6 : Int64) (v8 : Int32) (σ : St), wbX12_room_109   post n v3 v4 v5 v6 v8 σ → Go X G 109 [(0, .ref (G.2.2.1 75)), (3, .int v3), (4, .int v4), (5, .int v5), (6, .long v6), (8, .int v8)] [] σ := by
  intro n
  induction n with
  | zero => intro v3 v4 v5 v6 v8 σ hw; exact hw.elim
  | succ n ih =>
    intro v3 v4 v5 v6 v8 σ hw
    have hw : ((v3 ≤ v8 →
      wpX12_apart v3 v4 σ (fun r_1 σ_2 =>
      ¬ v6 = 0 ∧ (
      post ((((v6 - r_1) * 1000000) / v6).toInt32) σ_2))) ∧
    (¬ v3 ≤ v8 →
      ¬ (v8 + 1).toInt64 = 0 ∧ (
      ∀ v6_3 : Int64, v6_3 = ((v6 * (v5 - v8).toInt64) / (v8 + 1).toInt64) →
      ∀ v8_4 : Int32, v8_4 = v8 + 1 →
      wbX12_room_109 post n v3 v4 v5 v6_3 v8_4 σ))) := hw
    refine go_iload C 5 rfl dX12_room_109 ?_
    refine go_iload_n C 1 rfl rfl dX12_room_111 ?_
    refine go_icmp_ge C 138 rfl dX12_room_112 (fun hc => ?_) (fun hc => ?_)
    · replace hw := hw.1 hc
      refine go_lload C 4 rfl dX12_room_138 ?_
      refine go_aload_n C 0 rfl rfl dX12_room_140 ?_
      refine go_iload_n C 1 rfl rfl dX12_room_141 ?_
      refine go_iload C 2 rfl dX12_room_142 ?_
      refine go_callV (as := [.int v3, .int v4]) C hR (shX12 G) (ltX12 hN) cwX12_503 (Nat.le_trans (by decide) hd) (by decide) rfl rfl (Nat.le_of_ble_eq_true rfl) dX12_room_144 (spX12_apart (Nat.le_refl _) hN hw) (fun v_ τ_ hw => ?_)
      obtain ⟨r_1, rfl, hw⟩ := hw
      obtain ⟨σ_2, rfl⟩ : ∃ z, z = τ_ := ⟨_, rfl⟩
      refine go_lsub C dX12_room_147 ?_
      refine go_ldc2 (v := 1000000) C kcX12_507 dX12_room_148 ?_
      refine go_lmul C dX12_room_151 ?_
      refine go_lload C 4 rfl dX12_room_152 ?_
      refine go_ldiv C hw.1 dX12_room_154 ?_
      replace hw := hw.2
      refine go_l2i C dX12_room_155 ?_
      exact go_iret C hr ⟨_, rfl, hw⟩ dX12_room_156
    · replace hw := hw.2 hc
      refine go_lload C 4 rfl dX12_room_115 ?_
      refine go_iload C 3 rfl dX12_room_117 ?_
      refine go_iload C 5 rfl dX12_room_119 ?_
      refine go_isub C dX12_room_121 ?_
      refine go_i2l C dX12_room_122 ?_
      refine go_lmul C dX12_room_123 ?_
      refine go_iload C 5 rfl dX12_room_124 ?_
      refine go_iconst (v := 1) C rfl dX12_room_126 ?_
      refine go_iadd C dX12_room_127 ?_
      refine go_i2l C dX12_room_128 ?_
      refine go_ldiv C hw.1 dX12_room_129 ?_
      replace hw := hw.2
      refine go_topl (fun v6_3 ev6_3 => ?_)
      replace hw := hw v6_3 ev6_3
      refine go_lstore (lv2 := [(6, .long v6_3), (0, .ref (G.2.2.1 75)), (3, .int v3), (4, .int v4), (5, .int v5), (8, .int v8)]) C (by rw [hnl]; decide) rfl dX12_room_130 ?_
      obtain ⟨v8_4, ev8_4⟩ : ∃ z : Int32, z = v8 + 1 := ⟨_, rfl⟩
      replace hw := hw v8_4 ev8_4
      refine go_iinc (v := v8_4) (lv2 := [(8, .int v8_4), (6, .long v6_3), (0, .ref (G.2.2.1 75)), (3, .int v3), (4, .int v4), (5, .int v5)]) C 5 rfl (by rw [ev8_4]; rfl) (by rw [hnl]; decide) rfl dX12_room_132 ?_
      refine go_goto C 109 rfl dX12_room_135 ?_
      refine go_sub [2, 3, 4, 5, 1, 0] rfl ?_
      exact ih _ _ _ _ _ _ hw
set_option maxRecDepth 20000 in
set_option maxHeartbeats 4000000 in
theorem gbX12_room_39 {X : XT} {G : GT} {l : Launch} {d : Nat}  {post : Int32 → St → Prop} (C : Cx X G cX12_room RX12) (hr : Rt X G (some .int) (fun v τ => ∃ r : Int32, v = some (.int r) ∧ post r τ)) (hR : Rm X l d) (hnl : X.2.2.2.2.2.2.2.2.2.2.1 = 9)  (hd : 10 ≤ d) (hN : 119 ≤ G.2.2.2.2.2)   
    : ∀ (n : Nat) (v1 : Int32) (v2 : Int32) (v3 : Int32) (v4 : Int32) (v5 : Int32) (v6 : Int32) (σ : St), wbX12_room_39   post n v1 v2 v3 v4 v5 v6 σ → Go X G 39 [(0, .ref (G.2.2.1 75)), (1, .int v1), (2, .int v2), (3, .int v3), (4, .int v4), (5, .int v5), (6, .int v6)] [] σ := by
  intro n
  induction n with
  | zero => intro v1 v2 v3 v4 v5 v6 σ hw; exact hw.elim
  | succ n ih =>
    intro v1 v2 v3 v4 v5 v6 σ hw
    have hw : vp_in 1 9680 ∧ (
    (((gI σ 76 (1 : Int32).toNatClampNeg) ≤ v6 →
      ((v3 ≤ v5 →
        ∃ m_109, wbX12_room_109 post m_109 v3 v4 v5 1 0 σ) ∧
      (¬ v3 ≤ v5 →
        post (-1) σ))) ∧
    (¬ (gI σ 76 (1 : Int32).toNatClampNeg) ≤ v6 →
      vp_in (((48 * (v2 + 40)) + (16 * v1)) + v6) 4848 ∧ (
      vp_in v6 16 ∧ (
      ∀ σ_1 : St, σ_1 = sI σ 113 v6.toNatClampNeg (gI σ 100 (((48 * (v2 + 40)) + (16 * v1)) + v6).toNatClampNeg) →
      vp_in v6 16 ∧ (
      ∀ v5_2 : Int32, v5_2 = (v5 + (gI σ_1 113 v6.toNatClampNeg)) →
      ∀ v6_3 : Int32, v6_3 = v6 + 1 →
      wbX12_room_39 post n v1 v2 v3 v4 v5_2 v6_3 σ_1)))))) := hw
    refine go_iload C 6 rfl dX12_room_39 ?_
    refine go_aload_n C 0 rfl rfl dX12_room_41 ?_
    refine go_get (v := .ref (G.2.2.1 76)) C (shX12 G) (ltX12 hN) lkX12_7 rfl dX12_room_42 ?_
    refine go_iconst (v := 1) C rfl dX12_room_45 ?_
    refine go_iald C (saX12_a G) (laX12_a hN) hw.1 dX12_room_46 ?_
    replace hw := hw.2
    refine go_icmp_ge C 95 rfl dX12_room_47 (fun hc => ?_) (fun hc => ?_)
    · replace hw := hw.1 hc
      refine go_iload C 5 rfl dX12_room_95 ?_
      refine go_iload_n C 3 rfl rfl dX12_room_97 ?_
      refine go_icmp_ge C 103 rfl dX12_room_98 (fun hc => ?_) (fun hc => ?_)
      · replace hw := hw.1 hc
        refine go_lconst (v := 1) C rfl dX12_room_103 ?_
        refine go_lstore (lv2 := [(6, .long 1), (0, .ref (G.2.2.1 75)), (1, .int v1), (2, .int v2), (3, .int v3), (4, .int v4), (5, .int v5)]) C (by rw [hnl]; decide) rfl dX12_room_104 ?_
        refine go_iconst (v := 0) C rfl dX12_room_106 ?_
        refine go_istore (lv2 := [(8, .int 0), (6, .long 1), (0, .ref (G.2.2.1 75)), (1, .int v1), (2, .int v2), (3, .int v3), (4, .int v4), (5, .int v5)]) C (by rw [hnl]; decide) rfl dX12_room_107 ?_
        refine go_sub [2, 5, 6, 7, 1, 0] rfl ?_
        obtain ⟨n_0, hw⟩ := hw
        exact (gbX12_room_109 C hr hR hnl hd hN) n_0 _ _ _ _ _ _ hw
      · replace hw := hw.2 hc
        refine go_iconst (v := (-1)) C rfl dX12_room_101 ?_
        exact go_iret C hr ⟨_, rfl, hw⟩ dX12_room_102
    · replace hw := hw.2 hc
      refine go_aload_n C 0 rfl rfl dX12_room_50 ?_
      refine go_get (v := .ref (G.2.2.1 113)) C (shX12 G) (ltX12 hN) lkX12_130 rfl dX12_room_51 ?_
      refine go_iload C 6 rfl dX12_room_54 ?_
      refine go_aload_n C 0 rfl rfl dX12_room_56 ?_
      refine go_get (v := .ref (G.2.2.1 100)) C (shX12 G) (ltX12 hN) lkX12_91 rfl dX12_room_57 ?_
      refine go_bipush (v := 48) C rfl dX12_room_60 ?_
      refine go_iload_n C 2 rfl rfl dX12_room_62 ?_
      refine go_bipush (v := 40) C rfl dX12_room_63 ?_
      refine go_iadd C dX12_room_65 ?_
      refine go_imul C dX12_room_66 ?_
      refine go_bipush (v := 16) C rfl dX12_room_67 ?_
      refine go_iload_n C 1 rfl rfl dX12_room_69 ?_
      refine go_imul C dX12_room_70 ?_
      refine go_iadd C dX12_room_71 ?_
      refine go_iload C 6 rfl dX12_room_72 ?_
      refine go_iadd C dX12_room_74 ?_
      refine go_iald C (saX12_inPlace G) (laX12_inPlace hN) hw.1 dX12_room_75 ?_
      replace hw := hw.2
      refine go_iast C (saX12_child G) (laX12_child hN) hw.1 dX12_room_76 (go_nm fun σ_1 eσ_1 => ?_)
      replace hw := hw.2 σ_1 eσ_1
      refine go_iload C 5 rfl dX12_room_77 ?_
      refine go_aload_n C 0 rfl rfl dX12_room_79 ?_
      refine go_get (v := .ref (G.2.2.1 113)) C (shX12 G) (ltX12 hN) lkX12_130 rfl dX12_room_80 ?_
      refine go_iload C 6 rfl dX12_room_83 ?_
      refine go_iald C (saX12_child G) (laX12_child hN) hw.1 dX12_room_85 ?_
      replace hw := hw.2
      refine go_iadd C dX12_room_86 ?_
      refine go_topi (fun v5_2 ev5_2 => ?_)
      replace hw := hw v5_2 ev5_2
      refine go_istore (lv2 := [(5, .int v5_2), (0, .ref (G.2.2.1 75)), (1, .int v1), (2, .int v2), (3, .int v3), (4, .int v4), (6, .int v6)]) C (by rw [hnl]; decide) rfl dX12_room_87 ?_
      obtain ⟨v6_3, ev6_3⟩ : ∃ z : Int32, z = v6 + 1 := ⟨_, rfl⟩
      replace hw := hw v6_3 ev6_3
      refine go_iinc (v := v6_3) (lv2 := [(6, .int v6_3), (5, .int v5_2), (0, .ref (G.2.2.1 75)), (1, .int v1), (2, .int v2), (3, .int v3), (4, .int v4)]) C 6 rfl (by rw [ev6_3]; rfl) (by rw [hnl]; decide) rfl dX12_room_89 ?_
      refine go_goto C 39 rfl dX12_room_92 ?_
      refine go_sub [2, 3, 4, 5, 6, 1, 0] rfl ?_
      exact ih _ _ _ _ _ _ _ hw
set_option maxRecDepth 20000 in
set_option maxHeartbeats 4000000 in
theorem spX12_room {l : Launch} {G : GT} {d : Nat}  (hd : 10 ≤ d)  (hN : 119 ≤ G.2.2.2.2.2)  {a1 : Int32} {a2 : Int32} {a3 : Int32} {a4 : Int32} {σ : St} {post : Int32 → St → Prop} (hw : wpX12_room  a1 a2 a3 a4 σ post) : Sp l G d yX12_room cX12_room 9 (some .int) [.ref (G.2.2.1 75), .int a1, .int a2, .int a3, .int a4] σ (fun v τ => ∃ r : Int32, v = some (.int r) ∧ post r τ) := by
  refine Sp.of (by decide) (Nat.le_of_ble_eq_true rfl) fun X C hr hR hnl => ?_
  show Go X G 0 [(0, .ref (G.2.2.1 75)), (1, .int a1), (2, .int a2), (3, .int a3), (4, .int a4)] [] σ
  have hw : wpX12_in a1 0 2 σ (fun r_1 σ_2 =>
  ((r_1 = 0 →
    post (-1) σ_2) ∧
  (¬ r_1 = 0 →
    wpX12_isGone a2 σ_2 (fun r_3 σ_4 =>
    ((r_3 = 0 →
      post (-1) σ_4) ∧
    (¬ r_3 = 0 →
      wpX12_in a3 2 8 σ_4 (fun r_5 σ_6 =>
      ((¬ r_5 = 0 →
        wpX12_runsAll  σ_6 (fun σ_8 =>
        ∃ m_39, wbX12_room_39 post m_39 a1 a2 a3 a4 0 0 σ_8)) ∧
      (r_5 = 0 →
        post (-1) σ_6))))))))) := hw
  refine go_iload_n C 1 rfl rfl dX12_room_0 ?_
  refine go_iconst (v := 0) C rfl dX12_room_1 ?_
  refine go_iconst (v := 2) C rfl dX12_room_2 ?_
  refine go_callS (as := [.int a1, .int 0, .int 2]) C hR cwX12_152 (Nat.le_trans (by decide) hd) (by decide) rfl rfl (Nat.le_of_ble_eq_true rfl) dX12_room_3 (spX12_in (Nat.le_refl _) hN hw) (fun v_ τ_ hw => ?_)
  obtain ⟨r_1, rfl, hw⟩ := hw
  obtain ⟨σ_2, rfl⟩ : ∃ z, z = τ_ := ⟨_, rfl⟩
  refine go_if_eq C 27 rfl dX12_room_6 (fun hc => ?_) (fun hc => ?_)
  · replace hw := hw.1 hc
    refine go_iconst (v := (-1)) C rfl dX12_room_27 ?_
    exact go_iret C hr ⟨_, rfl, hw⟩ dX12_room_28
  · replace hw := hw.2 hc
    refine go_aload_n C 0 rfl rfl dX12_room_9 ?_
    refine go_iload_n C 2 rfl rfl dX12_room_10 ?_
    refine go_callV (as := [.int a2]) C hR (shX12 G) (ltX12 hN) cwX12_475 (Nat.le_trans (by decide) hd) (by decide) rfl rfl (Nat.le_of_ble_eq_true rfl) dX12_room_11 (spX12_isGone (Nat.le_refl _) hN hw) (fun v_ τ_ hw => ?_)
    obtain ⟨r_3, rfl, hw⟩ := hw
    obtain ⟨σ_4, rfl⟩ : ∃ z, z = τ_ := ⟨_, rfl⟩
    refine go_if_eq C 27 rfl dX12_room_14 (fun hc => ?_) (fun hc => ?_)
    · replace hw := hw.1 hc
      refine go_iconst (v := (-1)) C rfl dX12_room_27 ?_
      exact go_iret C hr ⟨_, rfl, hw⟩ dX12_room_28
    · replace hw := hw.2 hc
      refine go_iload_n C 3 rfl rfl dX12_room_17 ?_
      refine go_iconst (v := 2) C rfl dX12_room_18 ?_
      refine go_bipush (v := 8) C rfl dX12_room_19 ?_
      refine go_callS (as := [.int a3, .int 2, .int 8]) C hR cwX12_152 (Nat.le_trans (by decide) hd) (by decide) rfl rfl (Nat.le_of_ble_eq_true rfl) dX12_room_21 (spX12_in (Nat.le_refl _) hN hw) (fun v_ τ_ hw => ?_)
      obtain ⟨r_5, rfl, hw⟩ := hw
      obtain ⟨σ_6, rfl⟩ : ∃ z, z = τ_ := ⟨_, rfl⟩
      refine go_if_ne C 29 rfl dX12_room_24 (fun hc => ?_) (fun hc => ?_)
      · replace hw := hw.1 hc
        refine go_aload_n C 0 rfl rfl dX12_room_29 ?_
        refine go_callV (as := []) C hR (shX12 G) (ltX12 hN) cwX12_464 (Nat.le_trans (by decide) hd) (by decide) rfl rfl (Nat.le_of_ble_eq_true rfl) dX12_room_30 (spX12_runsAll (Nat.le_refl _) hN hw) (fun v_ τ_ hw => ?_)
        obtain ⟨rfl, hw⟩ := hw
        obtain ⟨σ_8, rfl⟩ : ∃ z, z = τ_ := ⟨_, rfl⟩
        refine go_iconst (v := 0) C rfl dX12_room_33 ?_
        refine go_istore (lv2 := [(5, .int 0), (0, .ref (G.2.2.1 75)), (1, .int a1), (2, .int a2), (3, .int a3), (4, .int a4)]) C (by rw [hnl]; decide) rfl dX12_room_34 ?_
        refine go_iconst (v := 0) C rfl dX12_room_36 ?_
        refine go_istore (lv2 := [(6, .int 0), (5, .int 0), (0, .ref (G.2.2.1 75)), (1, .int a1), (2, .int a2), (3, .int a3), (4, .int a4)]) C (by rw [hnl]; decide) rfl dX12_room_37 ?_
        refine go_sub [2, 3, 4, 5, 6, 1, 0] rfl ?_
        obtain ⟨n_0, hw⟩ := hw
        exact (gbX12_room_39 C hr hR hnl hd hN) n_0 _ _ _ _ _ _ _ hw
      · replace hw := hw.2 hc
        refine go_iconst (v := (-1)) C rfl dX12_room_27 ?_
        exact go_iret C hr ⟨_, rfl, hw⟩ dX12_room_28
-- CradleNamesModel.best(IIII)I
set_option maxRecDepth 20000 in
set_option maxHeartbeats 4000000 in
theorem gbX12_best_173 {X : XT} {G : GT} {l : Launch} {d : Nat}  {post : Int32 → St → Prop} (C : Cx X G cX12_best RX12) (hr : Rt X G (some .int) (fun v τ => ∃ r : Int32, v = some (.int r) ∧ post r τ)) (hR : Rm X l d) (hnl : X.2.2.2.2.2.2.2.2.2.2.1 = 14)  (hd : 11 ≤ d) (hN : 119 ≤ G.2.2.2.2.2)  {K133 : Int32 → Int32 → Int32 → Int32 → Int32 → Int32 → Int64 → Int32 → Int64 → Int32 → Int32 → St → Prop} (hK133 : ∀ (v1 : Int32) (v2 : Int32) (v3 : Int32) (v4 : Int32) (v5 : Int32) (v6 : Int32) (v7 : Int64) (v9 : Int32) (v10 : Int64) (v12 : Int32) (v13 : Int32) (σ : St), K133 v1 v2 v3 v4 v5 v6 v7 v9 v10 v12 v13 σ → Go X G 133 [(0, .ref (G.2.2.1 75)), (1, .int v1), (2, .int v2), (3, .int v3), (4, .int v4), (5, .int v5), (6, .int v6), (7, .long v7), (9, .int v9), (10, .long v10), (12, .int v12), (13, .int v13)] [] σ)
    : ∀ (v1 : Int32) (v2 : Int32) (v3 : Int32) (v4 : Int32) (v5 : Int32) (v6 : Int32) (v7 : Int64) (v9 : Int32) (v10 : Int64) (v13 : Int32) (s0 : Int32) (σ : St), wbX12_best_173  K133 post v1 v2 v3 v4 v5 v6 v7 v9 v10 v13 s0 σ → Go X G 173 [(0, .ref (G.2.2.1 75)), (1, .int v1), (2, .int v2), (3, .int v3), (4, .int v4), (5, .int v5), (6, .int v6), (7, .long v7), (9, .int v9), (10, .long v10), (13, .int v13)] [.int s0] σ := by
  intro v1 v2 v3 v4 v5 v6 v7 v9 v10 v13 s0 σ hw
  have hw : vp_in 0 9680 ∧ (
  vp_in (((48 * ((gI σ 76 (0 : Int32).toNatClampNeg) + 39)) + (16 * v1)) + v13) 4848 ∧ (
  ∀ v12_1 : Int32, v12_1 = (s0 + (gI σ 100 (((48 * ((gI σ 76 (0 : Int32).toNatClampNeg) + 39)) + (16 * v1)) + v13).toNatClampNeg)) →
  ∀ v13_2 : Int32, v13_2 = v13 + 1 →
  K133 v1 v2 v3 v4 v5 v6 v7 v9 v10 v12_1 v13_2 σ)) := hw
  refine go_aload_n C 0 rfl rfl dX12_best_173 ?_
  refine go_get (v := .ref (G.2.2.1 100)) C (shX12 G) (ltX12 hN) lkX12_91 rfl dX12_best_174 ?_
  refine go_bipush (v := 48) C rfl dX12_best_177 ?_
  refine go_aload_n C 0 rfl rfl dX12_best_179 ?_
  refine go_get (v := .ref (G.2.2.1 76)) C (shX12 G) (ltX12 hN) lkX12_7 rfl dX12_best_180 ?_
  refine go_iconst (v := 0) C rfl dX12_best_183 ?_
  refine go_iald C (saX12_a G) (laX12_a hN) hw.1 dX12_best_184 ?_
  replace hw := hw.2
  refine go_bipush (v := 39) C rfl dX12_best_185 ?_
  refine go_iadd C dX12_best_187 ?_
  refine go_imul C dX12_best_188 ?_
  refine go_bipush (v := 16) C rfl dX12_best_189 ?_
  refine go_iload_n C 1 rfl rfl dX12_best_191 ?_
  refine go_imul C dX12_best_192 ?_
  refine go_iadd C dX12_best_193 ?_
  refine go_iload C 10 rfl dX12_best_194 ?_
  refine go_iadd C dX12_best_196 ?_
  refine go_iald C (saX12_inPlace G) (laX12_inPlace hN) hw.1 dX12_best_197 ?_
  replace hw := hw.2
  refine go_goto C 202 rfl dX12_best_198 ?_
  refine go_iadd C dX12_best_202 ?_
  refine go_topi (fun v12_1 ev12_1 => ?_)
  replace hw := hw v12_1 ev12_1
  refine go_istore (lv2 := [(12, .int v12_1), (0, .ref (G.2.2.1 75)), (1, .int v1), (2, .int v2), (3, .int v3), (4, .int v4), (5, .int v5), (6, .int v6), (7, .long v7), (9, .int v9), (10, .long v10), (13, .int v13)]) C (by rw [hnl]; decide) rfl dX12_best_203 ?_
  obtain ⟨v13_2, ev13_2⟩ : ∃ z : Int32, z = v13 + 1 := ⟨_, rfl⟩
  replace hw := hw v13_2 ev13_2
  refine go_iinc (v := v13_2) (lv2 := [(13, .int v13_2), (12, .int v12_1), (0, .ref (G.2.2.1 75)), (1, .int v1), (2, .int v2), (3, .int v3), (4, .int v4), (5, .int v5), (6, .int v6), (7, .long v7), (9, .int v9), (10, .long v10)]) C 11 rfl (by rw [ev13_2]; rfl) (by rw [hnl]; decide) rfl dX12_best_205 ?_
  refine go_goto C 133 rfl dX12_best_208 ?_
  refine go_sub [2, 3, 4, 5, 6, 7, 8, 9, 10, 11, 1, 0] rfl ?_
  exact hK133 _ _ _ _ _ _ _ _ _ _ _ _ hw
set_option maxRecDepth 20000 in
set_option maxHeartbeats 4000000 in
theorem gbX12_best_239 {X : XT} {G : GT} {l : Launch} {d : Nat}  {post : Int32 → St → Prop} (C : Cx X G cX12_best RX12) (hr : Rt X G (some .int) (fun v τ => ∃ r : Int32, v = some (.int r) ∧ post r τ)) (hR : Rm X l d) (hnl : X.2.2.2.2.2.2.2.2.2.2.1 = 14)  (hd : 11 ≤ d) (hN : 119 ≤ G.2.2.2.2.2)  {K70 : Int32 → Int32 → Int32 → Int32 → Int32 → Int32 → Int64 → Int32 → St → Prop} (hK70 : ∀ (v1 : Int32) (v2 : Int32) (v3 : Int32) (v4 : Int32) (v5 : Int32) (v6 : Int32) (v7 : Int64) (v9 : Int32) (σ : St), K70 v1 v2 v3 v4 v5 v6 v7 v9 σ → Go X G 70 [(0, .ref (G.2.2.1 75)), (1, .int v1), (2, .int v2), (3, .int v3), (4, .int v4), (5, .int v5), (6, .int v6), (7, .long v7), (9, .int v9)] [] σ)
    : ∀ (v1 : Int32) (v2 : Int32) (v3 : Int32) (v4 : Int32) (v9 : Int32) (v10 : Int64) (v12 : Int32) (σ : St), wbX12_best_239  K70 post v1 v2 v3 v4 v9 v10 v12 σ → Go X G 239 [(0, .ref (G.2.2.1 75)), (1, .int v1), (2, .int v2), (3, .int v3), (4, .int v4), (9, .int v9), (10, .long v10), (12, .int v12)] [] σ := by
  intro v1 v2 v3 v4 v9 v10 v12 σ hw
  have hw : ∀ v9_1 : Int32, v9_1 = v9 + 1 →
  K70 v1 v2 v3 v4 v9 v12 v10 v9_1 σ := hw
  refine go_iload C 5 rfl dX12_best_239 ?_
  refine go_istore (lv2 := [(5, .int v9), (0, .ref (G.2.2.1 75)), (1, .int v1), (2, .int v2), (3, .int v3), (4, .int v4), (9, .int v9), (10, .long v10), (12, .int v12)]) C (by rw [hnl]; decide) rfl dX12_best_241 ?_
  refine go_iload C 8 rfl dX12_best_243 ?_
  refine go_istore (lv2 := [(6, .int v12), (5, .int v9), (0, .ref (G.2.2.1 75)), (1, .int v1), (2, .int v2), (3, .int v3), (4, .int v4), (9, .int v9), (10, .long v10), (12, .int v12)]) C (by rw [hnl]; decide) rfl dX12_best_245 ?_
  refine go_lload C 8 rfl dX12_best_247 ?_
  refine go_lstore (lv2 := [(7, .long v10), (6, .int v12), (5, .int v9), (0, .ref (G.2.2.1 75)), (1, .int v1), (2, .int v2), (3, .int v3), (4, .int v4), (9, .int v9), (10, .long v10), (12, .int v12)]) C (by rw [hnl]; decide) rfl dX12_best_249 ?_
  obtain ⟨v9_1, ev9_1⟩ : ∃ z : Int32, z = v9 + 1 := ⟨_, rfl⟩
  replace hw := hw v9_1 ev9_1
  refine go_iinc (v := v9_1) (lv2 := [(9, .int v9_1), (7, .long v10), (6, .int v12), (5, .int v9), (0, .ref (G.2.2.1 75)), (1, .int v1), (2, .int v2), (3, .int v3), (4, .int v4), (10, .long v10), (12, .int v12)]) C 8 rfl (by rw [ev9_1]; rfl) (by rw [hnl]; decide) rfl dX12_best_251 ?_
  refine go_goto C 70 rfl dX12_best_254 ?_
  refine go_sub [4, 5, 6, 7, 8, 3, 2, 1, 0] rfl ?_
  exact hK70 _ _ _ _ _ _ _ _ _ hw
set_option maxRecDepth 20000 in
set_option maxHeartbeats 4000000 in
theorem gbX12_best_133 {X : XT} {G : GT} {l : Launch} {d : Nat}  {post : Int32 → St → Prop} (C : Cx X G cX12_best RX12) (hr : Rt X G (some .int) (fun v τ => ∃ r : Int32, v = some (.int r) ∧ post r τ)) (hR : Rm X l d) (hnl : X.2.2.2.2.2.2.2.2.2.2.1 = 14)  (hd : 11 ≤ d) (hN : 119 ≤ G.2.2.2.2.2)  {K70 : Int32 → Int32 → Int32 → Int32 → Int32 → Int32 → Int64 → Int32 → St → Prop} (hK70 : ∀ (v1 : Int32) (v2 : Int32) (v3 : Int32) (v4 : Int32) (v5 : Int32) (v6 : Int32) (v7 : Int64) (v9 : Int32) (σ : St), K70 v1 v2 v3 v4 v5 v6 v7 v9 σ → Go X G 70 [(0, .ref (G.2.2.1 75)), (1, .int v1), (2, .int v2), (3, .int v3), (4, .int v4), (5, .int v5), (6, .int v6), (7, .long v7), (9, .int v9)] [] σ)
    : ∀ (n : Nat) (v1 : Int32) (v2 : Int32) (v3 : Int32) (v4 : Int32) (v5 : Int32) (v6 : Int32) (v7 : Int64) (v9 : Int32) (v10 : Int64) (v12 : Int32) (v13 : Int32) (σ : St), wbX12_best_133  K70 post n v1 v2 v3 v4 v5 v6 v7 v9 v10 v12 v13 σ → Go X G 133 [(0, .ref (G.2.2.1 75)), (1, .int v1), (2, .int v2), (3, .int v3), (4, .int v4), (5, .int v5), (6, .int v6), (7, .long v7), (9, .int v9), (10, .long v10), (12, .int v12), (13, .int v13)] [] σ := by
  intro n
  induction n with
  | zero => intro v1 v2 v3 v4 v5 v6 v7 v9 v10 v12 v13 σ hw; exact hw.elim
  | succ n ih =>
    intro v1 v2 v3 v4 v5 v6 v7 v9 v10 v12 v13 σ hw
    have hw : vp_in 1 9680 ∧ (
    (((gI σ 76 (1 : Int32).toNatClampNeg) ≤ v13 →
      ((v5 = (-1) →
        wbX12_best_239 K70 post v1 v2 v3 v4 v9 v10 v12 σ) ∧
      (¬ v5 = (-1) →
        ((v12 < v6 →
          wbX12_best_239 K70 post v1 v2 v3 v4 v9 v10 v12 σ) ∧
        (¬ v12 < v6 →
          ((¬ v12 = v6 →
            ∀ v9_1 : Int32, v9_1 = v9 + 1 →
            K70 v1 v2 v3 v4 v5 v6 v7 v9_1 σ) ∧
          (v12 = v6 →
            ((v10 ≤ v7 →
              ∀ v9_2 : Int32, v9_2 = v9 + 1 →
              K70 v1 v2 v3 v4 v5 v6 v7 v9_2 σ) ∧
            (¬ v10 ≤ v7 →
              wbX12_best_239 K70 post v1 v2 v3 v4 v9 v10 v12 σ))))))))) ∧
    (¬ (gI σ 76 (1 : Int32).toNatClampNeg) ≤ v13 →
      ((v13 = v9 →
        wbX12_best_173 (wbX12_best_133 K70 post n) post v1 v2 v3 v4 v5 v6 v7 v9 v10 v13 v12 σ) ∧
      (¬ v13 = v9 →
        vp_in v13 16 ∧ (
        vp_in v9 16 ∧ (
        wpX12_areAlike (gL σ 78 v13.toNatClampNeg) (gL σ 78 v9.toNatClampNeg) σ (fun r_3 σ_4 =>
        ((r_3 = 0 →
          ∀ v12_5 : Int32, v12_5 = (v12 + 0) →
          ∀ v13_6 : Int32, v13_6 = v13 + 1 →
          wbX12_best_133 K70 post n v1 v2 v3 v4 v5 v6 v7 v9 v10 v12_5 v13_6 σ_4) ∧
        (¬ r_3 = 0 →
          wbX12_best_173 (wbX12_best_133 K70 post n) post v1 v2 v3 v4 v5 v6 v7 v9 v10 v13 v12 σ_4)))))))))) := hw
    refine go_iload C 11 rfl dX12_best_133 ?_
    refine go_aload_n C 0 rfl rfl dX12_best_135 ?_
    refine go_get (v := .ref (G.2.2.1 76)) C (shX12 G) (ltX12 hN) lkX12_7 rfl dX12_best_136 ?_
    refine go_iconst (v := 1) C rfl dX12_best_139 ?_
    refine go_iald C (saX12_a G) (laX12_a hN) hw.1 dX12_best_140 ?_
    replace hw := hw.2
    refine go_icmp_ge C 211 rfl dX12_best_141 (fun hc => ?_) (fun hc => ?_)
    · replace hw := hw.1 hc
      refine go_iload C 5 rfl dX12_best_211 ?_
      refine go_iconst (v := (-1)) C rfl dX12_best_213 ?_
      refine go_icmp_eq C 239 rfl dX12_best_214 (fun hc => ?_) (fun hc => ?_)
      · replace hw := hw.1 hc
        refine go_sub [0, 1, 2, 3, 4, 8, 9, 10] rfl ?_
        exact (gbX12_best_239 C hr hR hnl hd hN hK70) _ _ _ _ _ _ _ _ hw
      · replace hw := hw.2 hc
        refine go_iload C 10 rfl dX12_best_217 ?_
        refine go_iload C 6 rfl dX12_best_219 ?_
        refine go_icmp_lt C 239 rfl dX12_best_221 (fun hc => ?_) (fun hc => ?_)
        · replace hw := hw.1 hc
          refine go_sub [0, 1, 2, 3, 4, 8, 9, 10] rfl ?_
          exact (gbX12_best_239 C hr hR hnl hd hN hK70) _ _ _ _ _ _ _ _ hw
        · replace hw := hw.2 hc
          refine go_iload C 10 rfl dX12_best_224 ?_
          refine go_iload C 6 rfl dX12_best_226 ?_
          refine go_icmp_ne C 251 rfl dX12_best_228 (fun hc => ?_) (fun hc => ?_)
          · replace hw := hw.1 hc
            obtain ⟨v9_1, ev9_1⟩ : ∃ z : Int32, z = v9 + 1 := ⟨_, rfl⟩
            replace hw := hw v9_1 ev9_1
            refine go_iinc (v := v9_1) (lv2 := [(9, .int v9_1), (0, .ref (G.2.2.1 75)), (1, .int v1), (2, .int v2), (3, .int v3), (4, .int v4), (5, .int v5), (6, .int v6), (7, .long v7), (10, .long v10), (12, .int v12), (13, .int v13)]) C 8 rfl (by rw [ev9_1]; rfl) (by rw [hnl]; decide) rfl dX12_best_251 ?_
            refine go_goto C 70 rfl dX12_best_254 ?_
            refine go_sub [1, 2, 3, 4, 5, 6, 7, 8, 0] rfl ?_
            exact hK70 _ _ _ _ _ _ _ _ _ hw
          · replace hw := hw.2 hc
            refine go_lload C 9 rfl dX12_best_231 ?_
            refine go_lload C 7 rfl dX12_best_233 ?_
            refine go_lc_le C 251 rfl dX12_best_235 dX12_best_236 (fun hc => ?_) (fun hc => ?_)
            · replace hw := hw.1 hc
              obtain ⟨v9_2, ev9_2⟩ : ∃ z : Int32, z = v9 + 1 := ⟨_, rfl⟩
              replace hw := hw v9_2 ev9_2
              refine go_iinc (v := v9_2) (lv2 := [(9, .int v9_2), (0, .ref (G.2.2.1 75)), (1, .int v1), (2, .int v2), (3, .int v3), (4, .int v4), (5, .int v5), (6, .int v6), (7, .long v7), (10, .long v10), (12, .int v12), (13, .int v13)]) C 8 rfl (by rw [ev9_2]; rfl) (by rw [hnl]; decide) rfl dX12_best_251 ?_
              refine go_goto C 70 rfl dX12_best_254 ?_
              refine go_sub [1, 2, 3, 4, 5, 6, 7, 8, 0] rfl ?_
              exact hK70 _ _ _ _ _ _ _ _ _ hw
            · replace hw := hw.2 hc
              refine go_sub [0, 1, 2, 3, 4, 8, 9, 10] rfl ?_
              exact (gbX12_best_239 C hr hR hnl hd hN hK70) _ _ _ _ _ _ _ _ hw
    · replace hw := hw.2 hc
      refine go_iload C 10 rfl dX12_best_144 ?_
      refine go_iload C 11 rfl dX12_best_146 ?_
      refine go_iload C 8 rfl dX12_best_148 ?_
      refine go_icmp_eq C 173 rfl dX12_best_150 (fun hc => ?_) (fun hc => ?_)
      · replace hw := hw.1 hc
        refine go_sub [0, 1, 2, 3, 4, 5, 6, 7, 8, 9, 11] rfl ?_
        exact (gbX12_best_173 C hr hR hnl hd hN ih) _ _ _ _ _ _ _ _ _ _ _ _ hw
      · replace hw := hw.2 hc
        refine go_aload_n C 0 rfl rfl dX12_best_153 ?_
        refine go_get (v := .ref (G.2.2.1 78)) C (shX12 G) (ltX12 hN) lkX12_16 rfl dX12_best_154 ?_
        refine go_iload C 11 rfl dX12_best_157 ?_
        refine go_lald C (saX12_letters G) (laX12_letters hN) hw.1 dX12_best_159 ?_
        replace hw := hw.2
        refine go_aload_n C 0 rfl rfl dX12_best_160 ?_
        refine go_get (v := .ref (G.2.2.1 78)) C (shX12 G) (ltX12 hN) lkX12_16 rfl dX12_best_161 ?_
        refine go_iload C 8 rfl dX12_best_164 ?_
        refine go_lald C (saX12_letters G) (laX12_letters hN) hw.1 dX12_best_166 ?_
        replace hw := hw.2
        refine go_callS (as := [.long (gL σ 78 v13.toNatClampNeg), .long (gL σ 78 v9.toNatClampNeg)]) C hR cwX12_199 (Nat.le_trans (by decide) hd) (by decide) rfl rfl (Nat.le_of_ble_eq_true rfl) dX12_best_167 (spX12_areAlike (Nat.le_refl _) hN hw) (fun v_ τ_ hw => ?_)
        obtain ⟨r_3, rfl, hw⟩ := hw
        obtain ⟨σ_4, rfl⟩ : ∃ z, z = τ_ := ⟨_, rfl⟩
        refine go_if_eq C 201 rfl dX12_best_170 (fun hc => ?_) (fun hc => ?_)
        · replace hw := hw.1 hc
          refine go_iconst (v := 0) C rfl dX12_best_201 ?_
          refine go_iadd C dX12_best_202 ?_
          refine go_topi (fun v12_5 ev12_5 => ?_)
          replace hw := hw v12_5 ev12_5
          refine go_istore (lv2 := [(12, .int v12_5), (0, .ref (G.2.2.1 75)), (1, .int v1), (2, .int v2), (3, .int v3), (4, .int v4), (5, .int v5), (6, .int v6), (7, .long v7), (9, .int v9), (10, .long v10), (13, .int v13)]) C (by rw [hnl]; decide) rfl dX12_best_203 ?_
          obtain ⟨v13_6, ev13_6⟩ : ∃ z : Int32, z = v13 + 1 := ⟨_, rfl⟩
          replace hw := hw v13_6 ev13_6
          refine go_iinc (v := v13_6) (lv2 := [(13, .int v13_6), (12, .int v12_5), (0, .ref (G.2.2.1 75)), (1, .int v1), (2, .int v2), (3, .int v3), (4, .int v4), (5, .int v5), (6, .int v6), (7, .long v7), (9, .int v9), (10, .long v10)]) C 11 rfl (by rw [ev13_6]; rfl) (by rw [hnl]; decide) rfl dX12_best_205 ?_
          refine go_goto C 133 rfl dX12_best_208 ?_
          refine go_sub [2, 3, 4, 5, 6, 7, 8, 9, 10, 11, 1, 0] rfl ?_
          exact ih _ _ _ _ _ _ _ _ _ _ _ _ hw
        · replace hw := hw.2 hc
          refine go_sub [0, 1, 2, 3, 4, 5, 6, 7, 8, 9, 11] rfl ?_
          exact (gbX12_best_173 C hr hR hnl hd hN ih) _ _ _ _ _ _ _ _ _ _ _ _ hw
set_option maxRecDepth 20000 in
set_option maxHeartbeats 4000000 in
theorem gbX12_best_70 {X : XT} {G : GT} {l : Launch} {d : Nat}  {post : Int32 → St → Prop} (C : Cx X G cX12_best RX12) (hr : Rt X G (some .int) (fun v τ => ∃ r : Int32, v = some (.int r) ∧ post r τ)) (hR : Rm X l d) (hnl : X.2.2.2.2.2.2.2.2.2.2.1 = 14)  (hd : 11 ≤ d) (hN : 119 ≤ G.2.2.2.2.2)   
    : ∀ (n : Nat) (v1 : Int32) (v2 : Int32) (v3 : Int32) (v4 : Int32) (v5 : Int32) (v6 : Int32) (v7 : Int64) (v9 : Int32) (σ : St), wbX12_best_70   post n v1 v2 v3 v4 v5 v6 v7 v9 σ → Go X G 70 [(0, .ref (G.2.2.1 75)), (1, .int v1), (2, .int v2), (3, .int v3), (4, .int v4), (5, .int v5), (6, .int v6), (7, .long v7), (9, .int v9)] [] σ := by
  intro n
  induction n with
  | zero => intro v1 v2 v3 v4 v5 v6 v7 v9 σ hw; exact hw.elim
  | succ n ih =>
    intro v1 v2 v3 v4 v5 v6 v7 v9 σ hw
    have hw : vp_in 1 9680 ∧ (
    (((gI σ 76 (1 : Int32).toNatClampNeg) ≤ v9 →
      ((v5 = (-1) →
        post v5 σ) ∧
      (¬ v5 = (-1) →
        ((¬ v4 = 0 →
          post v6 σ) ∧
        (v4 = 0 →
          post v5 σ))))) ∧
    (¬ (gI σ 76 (1 : Int32).toNatClampNeg) ≤ v9 →
      vp_in 0 9680 ∧ (
      wpX12_words (gI σ 76 (0 : Int32).toNatClampNeg) v1 v2 v9 σ (fun σ_2 =>
      vp_in 0 9680 ∧ (
      wpX12_may (gI σ_2 76 (0 : Int32).toNatClampNeg) v2 v3 v9 σ_2 (fun r_3 σ_4 =>
      ((r_3 = 0 →
        ∀ v9_5 : Int32, v9_5 = v9 + 1 →
        wbX12_best_70 post n v1 v2 v3 v4 v5 v6 v7 v9_5 σ_4) ∧
      (¬ r_3 = 0 →
        vp_in (7 + v2) 9680 ∧ (
        wpX12_worthOf (gI σ_4 76 (7 + v2).toNatClampNeg) σ_4 (fun r_6 σ_7 =>
        ∃ m_133, wbX12_best_133 (wbX12_best_70 post n) post m_133 v1 v2 v3 v4 v5 v6 v7 v9 r_6 0 0 σ_7))))))))))) := hw
    refine go_iload C 8 rfl dX12_best_70 ?_
    refine go_aload_n C 0 rfl rfl dX12_best_72 ?_
    refine go_get (v := .ref (G.2.2.1 76)) C (shX12 G) (ltX12 hN) lkX12_7 rfl dX12_best_73 ?_
    refine go_iconst (v := 1) C rfl dX12_best_76 ?_
    refine go_iald C (saX12_a G) (laX12_a hN) hw.1 dX12_best_77 ?_
    replace hw := hw.2
    refine go_icmp_ge C 257 rfl dX12_best_78 (fun hc => ?_) (fun hc => ?_)
    · replace hw := hw.1 hc
      refine go_iload C 5 rfl dX12_best_257 ?_
      refine go_iconst (v := (-1)) C rfl dX12_best_259 ?_
      refine go_icmp_eq C 268 rfl dX12_best_260 (fun hc => ?_) (fun hc => ?_)
      · replace hw := hw.1 hc
        refine go_iload C 5 rfl dX12_best_268 ?_
        refine go_goto C 275 rfl dX12_best_270 ?_
        exact go_iret C hr ⟨_, rfl, hw⟩ dX12_best_275
      · replace hw := hw.2 hc
        refine go_iload C 4 rfl dX12_best_263 ?_
        refine go_if_ne C 273 rfl dX12_best_265 (fun hc => ?_) (fun hc => ?_)
        · replace hw := hw.1 hc
          refine go_iload C 6 rfl dX12_best_273 ?_
          exact go_iret C hr ⟨_, rfl, hw⟩ dX12_best_275
        · replace hw := hw.2 hc
          refine go_iload C 5 rfl dX12_best_268 ?_
          refine go_goto C 275 rfl dX12_best_270 ?_
          exact go_iret C hr ⟨_, rfl, hw⟩ dX12_best_275
    · replace hw := hw.2 hc
      refine go_aload_n C 0 rfl rfl dX12_best_81 ?_
      refine go_aload_n C 0 rfl rfl dX12_best_82 ?_
      refine go_get (v := .ref (G.2.2.1 76)) C (shX12 G) (ltX12 hN) lkX12_7 rfl dX12_best_83 ?_
      refine go_iconst (v := 0) C rfl dX12_best_86 ?_
      refine go_iald C (saX12_a G) (laX12_a hN) hw.1 dX12_best_87 ?_
      replace hw := hw.2
      refine go_iload_n C 1 rfl rfl dX12_best_88 ?_
      refine go_iload_n C 2 rfl rfl dX12_best_89 ?_
      refine go_iload C 8 rfl dX12_best_90 ?_
      refine go_callV (as := [.int (gI σ 76 (0 : Int32).toNatClampNeg), .int v1, .int v2, .int v9]) C hR (shX12 G) (ltX12 hN) cwX12_451 (Nat.le_trans (by decide) hd) (by decide) rfl rfl (Nat.le_of_ble_eq_true rfl) dX12_best_92 (spX12_words (Nat.le_refl _) hN hw) (fun v_ τ_ hw => ?_)
      obtain ⟨rfl, hw⟩ := hw
      obtain ⟨σ_2, rfl⟩ : ∃ z, z = τ_ := ⟨_, rfl⟩
      refine go_aload_n C 0 rfl rfl dX12_best_95 ?_
      refine go_aload_n C 0 rfl rfl dX12_best_96 ?_
      refine go_get (v := .ref (G.2.2.1 76)) C (shX12 G) (ltX12 hN) lkX12_7 rfl dX12_best_97 ?_
      refine go_iconst (v := 0) C rfl dX12_best_100 ?_
      refine go_iald C (saX12_a G) (laX12_a hN) hw.1 dX12_best_101 ?_
      replace hw := hw.2
      refine go_iload_n C 2 rfl rfl dX12_best_102 ?_
      refine go_iload_n C 3 rfl rfl dX12_best_103 ?_
      refine go_iload C 8 rfl dX12_best_104 ?_
      refine go_callV (as := [.int (gI σ_2 76 (0 : Int32).toNatClampNeg), .int v2, .int v3, .int v9]) C hR (shX12 G) (ltX12 hN) cwX12_454 (Nat.le_trans (by decide) hd) (by decide) rfl rfl (Nat.le_of_ble_eq_true rfl) dX12_best_106 (spX12_may (Nat.le_refl _) hN hw) (fun v_ τ_ hw => ?_)
      obtain ⟨r_3, rfl, hw⟩ := hw
      obtain ⟨σ_4, rfl⟩ : ∃ z, z = τ_ := ⟨_, rfl⟩
      refine go_if_eq C 251 rfl dX12_best_109 (fun hc => ?_) (fun hc => ?_)
      · replace hw := hw.1 hc
        obtain ⟨v9_5, ev9_5⟩ : ∃ z : Int32, z = v9 + 1 := ⟨_, rfl⟩
        replace hw := hw v9_5 ev9_5
        refine go_iinc (v := v9_5) (lv2 := [(9, .int v9_5), (0, .ref (G.2.2.1 75)), (1, .int v1), (2, .int v2), (3, .int v3), (4, .int v4), (5, .int v5), (6, .int v6), (7, .long v7)]) C 8 rfl (by rw [ev9_5]; rfl) (by rw [hnl]; decide) rfl dX12_best_251 ?_
        refine go_goto C 70 rfl dX12_best_254 ?_
        refine go_sub [1, 2, 3, 4, 5, 6, 7, 8, 0] rfl ?_
        exact ih _ _ _ _ _ _ _ _ _ hw
      · replace hw := hw.2 hc
        refine go_aload_n C 0 rfl rfl dX12_best_112 ?_
        refine go_aload_n C 0 rfl rfl dX12_best_113 ?_
        refine go_get (v := .ref (G.2.2.1 76)) C (shX12 G) (ltX12 hN) lkX12_7 rfl dX12_best_114 ?_
        refine go_bipush (v := 7) C rfl dX12_best_117 ?_
        refine go_iload_n C 2 rfl rfl dX12_best_119 ?_
        refine go_iadd C dX12_best_120 ?_
        refine go_iald C (saX12_a G) (laX12_a hN) hw.1 dX12_best_121 ?_
        replace hw := hw.2
        refine go_callV (as := [.int (gI σ_4 76 (7 + v2).toNatClampNeg)]) C hR (shX12 G) (ltX12 hN) cwX12_458 (Nat.le_trans (by decide) hd) (by decide) rfl rfl (Nat.le_of_ble_eq_true rfl) dX12_best_122 (spX12_worthOf (Nat.le_refl _) hN hw) (fun v_ τ_ hw => ?_)
        obtain ⟨r_6, rfl, hw⟩ := hw
        obtain ⟨σ_7, rfl⟩ : ∃ z, z = τ_ := ⟨_, rfl⟩
        refine go_lstore (lv2 := [(10, .long r_6), (0, .ref (G.2.2.1 75)), (1, .int v1), (2, .int v2), (3, .int v3), (4, .int v4), (5, .int v5), (6, .int v6), (7, .long v7), (9, .int v9)]) C (by rw [hnl]; decide) rfl dX12_best_125 ?_
        refine go_iconst (v := 0) C rfl dX12_best_127 ?_
        refine go_istore (lv2 := [(12, .int 0), (10, .long r_6), (0, .ref (G.2.2.1 75)), (1, .int v1), (2, .int v2), (3, .int v3), (4, .int v4), (5, .int v5), (6, .int v6), (7, .long v7), (9, .int v9)]) C (by rw [hnl]; decide) rfl dX12_best_128 ?_
        refine go_iconst (v := 0) C rfl dX12_best_130 ?_
        refine go_istore (lv2 := [(13, .int 0), (12, .int 0), (10, .long r_6), (0, .ref (G.2.2.1 75)), (1, .int v1), (2, .int v2), (3, .int v3), (4, .int v4), (5, .int v5), (6, .int v6), (7, .long v7), (9, .int v9)]) C (by rw [hnl]; decide) rfl dX12_best_131 ?_
        refine go_sub [3, 4, 5, 6, 7, 8, 9, 10, 11, 2, 1, 0] rfl ?_
        obtain ⟨n_0, hw⟩ := hw
        exact (gbX12_best_133 C hr hR hnl hd hN ih) n_0 _ _ _ _ _ _ _ _ _ _ _ _ hw
set_option maxRecDepth 20000 in
set_option maxHeartbeats 4000000 in
theorem spX12_best {l : Launch} {G : GT} {d : Nat}  (hd : 11 ≤ d)  (hN : 119 ≤ G.2.2.2.2.2)  {a1 : Int32} {a2 : Int32} {a3 : Int32} {a4 : Int32} {σ : St} {post : Int32 → St → Prop} (hw : wpX12_best  a1 a2 a3 a4 σ post) : Sp l G d yX12_best cX12_best 14 (some .int) [.ref (G.2.2.1 75), .int a1, .int a2, .int a3, .int a4] σ (fun v τ => ∃ r : Int32, v = some (.int r) ∧ post r τ) := by
  refine Sp.of (by decide) (Nat.le_of_ble_eq_true rfl) fun X C hr hR hnl => ?_
  show Go X G 0 [(0, .ref (G.2.2.1 75)), (1, .int a1), (2, .int a2), (3, .int a3), (4, .int a4)] [] σ
  have hw : wpX12_isCradle a1 a2 a3 σ (fun r_1 σ_2 =>
  ((r_1 = 0 →
    post (-1) σ_2) ∧
  (¬ r_1 = 0 →
    wpX12_in a4 0 1 σ_2 (fun r_3 σ_4 =>
    ((r_3 = 0 →
      post (-1) σ_4) ∧
    (¬ r_3 = 0 →
      vp_in 0 9680 ∧ (
      (((gI σ_4 76 (0 : Int32).toNatClampNeg) = 0 →
        post (-1) σ_4) ∧
      (¬ (gI σ_4 76 (0 : Int32).toNatClampNeg) = 0 →
        vp_in 0 9680 ∧ (
        (((gI σ_4 76 (0 : Int32).toNatClampNeg) = 61 →
          post (-1) σ_4) ∧
        (¬ (gI σ_4 76 (0 : Int32).toNatClampNeg) = 61 →
          vp_in (7 + a2) 9680 ∧ (
          ((¬ (gI σ_4 76 (7 + a2).toNatClampNeg) = (-1) →
            wpX12_laysNow  σ_4 (fun σ_6 =>
            ∃ m_70, wbX12_best_70 post m_70 a1 a2 a3 a4 (-1) 0 0 0 σ_6)) ∧
          ((gI σ_4 76 (7 + a2).toNatClampNeg) = (-1) →
            post (-1) σ_4))))))))))))))) := hw
  refine go_iload_n C 1 rfl rfl dX12_best_0 ?_
  refine go_iload_n C 2 rfl rfl dX12_best_1 ?_
  refine go_iload_n C 3 rfl rfl dX12_best_2 ?_
  refine go_callS (as := [.int a1, .int a2, .int a3]) C hR cwX12_203 (Nat.le_trans (by decide) hd) (by decide) rfl rfl (Nat.le_of_ble_eq_true rfl) dX12_best_3 (spX12_isCradle (Nat.le_refl _) hN hw) (fun v_ τ_ hw => ?_)
  obtain ⟨r_1, rfl, hw⟩ := hw
  obtain ⟨σ_2, rfl⟩ : ∃ z, z = τ_ := ⟨_, rfl⟩
  refine go_if_eq C 52 rfl dX12_best_6 (fun hc => ?_) (fun hc => ?_)
  · replace hw := hw.1 hc
    refine go_iconst (v := (-1)) C rfl dX12_best_52 ?_
    exact go_iret C hr ⟨_, rfl, hw⟩ dX12_best_53
  · replace hw := hw.2 hc
    refine go_iload C 4 rfl dX12_best_9 ?_
    refine go_iconst (v := 0) C rfl dX12_best_11 ?_
    refine go_iconst (v := 1) C rfl dX12_best_12 ?_
    refine go_callS (as := [.int a4, .int 0, .int 1]) C hR cwX12_152 (Nat.le_trans (by decide) hd) (by decide) rfl rfl (Nat.le_of_ble_eq_true rfl) dX12_best_13 (spX12_in (Nat.le_refl _) hN hw) (fun v_ τ_ hw => ?_)
    obtain ⟨r_3, rfl, hw⟩ := hw
    obtain ⟨σ_4, rfl⟩ : ∃ z, z = τ_ := ⟨_, rfl⟩
    refine go_if_eq C 52 rfl dX12_best_16 (fun hc => ?_) (fun hc => ?_)
    · replace hw := hw.1 hc
      refine go_iconst (v := (-1)) C rfl dX12_best_52 ?_
      exact go_iret C hr ⟨_, rfl, hw⟩ dX12_best_53
    · replace hw := hw.2 hc
      refine go_aload_n C 0 rfl rfl dX12_best_19 ?_
      refine go_get (v := .ref (G.2.2.1 76)) C (shX12 G) (ltX12 hN) lkX12_7 rfl dX12_best_20 ?_
      refine go_iconst (v := 0) C rfl dX12_best_23 ?_
      refine go_iald C (saX12_a G) (laX12_a hN) hw.1 dX12_best_24 ?_
      replace hw := hw.2
      refine go_if_eq C 52 rfl dX12_best_25 (fun hc => ?_) (fun hc => ?_)
      · replace hw := hw.1 hc
        refine go_iconst (v := (-1)) C rfl dX12_best_52 ?_
        exact go_iret C hr ⟨_, rfl, hw⟩ dX12_best_53
      · replace hw := hw.2 hc
        refine go_aload_n C 0 rfl rfl dX12_best_28 ?_
        refine go_get (v := .ref (G.2.2.1 76)) C (shX12 G) (ltX12 hN) lkX12_7 rfl dX12_best_29 ?_
        refine go_iconst (v := 0) C rfl dX12_best_32 ?_
        refine go_iald C (saX12_a G) (laX12_a hN) hw.1 dX12_best_33 ?_
        replace hw := hw.2
        refine go_bipush (v := 61) C rfl dX12_best_34 ?_
        refine go_icmp_eq C 52 rfl dX12_best_36 (fun hc => ?_) (fun hc => ?_)
        · replace hw := hw.1 hc
          refine go_iconst (v := (-1)) C rfl dX12_best_52 ?_
          exact go_iret C hr ⟨_, rfl, hw⟩ dX12_best_53
        · replace hw := hw.2 hc
          refine go_aload_n C 0 rfl rfl dX12_best_39 ?_
          refine go_get (v := .ref (G.2.2.1 76)) C (shX12 G) (ltX12 hN) lkX12_7 rfl dX12_best_40 ?_
          refine go_bipush (v := 7) C rfl dX12_best_43 ?_
          refine go_iload_n C 2 rfl rfl dX12_best_45 ?_
          refine go_iadd C dX12_best_46 ?_
          refine go_iald C (saX12_a G) (laX12_a hN) hw.1 dX12_best_47 ?_
          replace hw := hw.2
          refine go_iconst (v := (-1)) C rfl dX12_best_48 ?_
          refine go_icmp_ne C 54 rfl dX12_best_49 (fun hc => ?_) (fun hc => ?_)
          · replace hw := hw.1 hc
            refine go_aload_n C 0 rfl rfl dX12_best_54 ?_
            refine go_callV (as := []) C hR (shX12 G) (ltX12 hN) cwX12_479 (Nat.le_trans (by decide) hd) (by decide) rfl rfl (Nat.le_of_ble_eq_true rfl) dX12_best_55 (spX12_laysNow (Nat.le_refl _) hN hw) (fun v_ τ_ hw => ?_)
            obtain ⟨rfl, hw⟩ := hw
            obtain ⟨σ_6, rfl⟩ : ∃ z, z = τ_ := ⟨_, rfl⟩
            refine go_iconst (v := (-1)) C rfl dX12_best_58 ?_
            refine go_istore (lv2 := [(5, .int (-1)), (0, .ref (G.2.2.1 75)), (1, .int a1), (2, .int a2), (3, .int a3), (4, .int a4)]) C (by rw [hnl]; decide) rfl dX12_best_59 ?_
            refine go_iconst (v := 0) C rfl dX12_best_61 ?_
            refine go_istore (lv2 := [(6, .int 0), (5, .int (-1)), (0, .ref (G.2.2.1 75)), (1, .int a1), (2, .int a2), (3, .int a3), (4, .int a4)]) C (by rw [hnl]; decide) rfl dX12_best_62 ?_
            refine go_lconst (v := 0) C rfl dX12_best_64 ?_
            refine go_lstore (lv2 := [(7, .long 0), (6, .int 0), (5, .int (-1)), (0, .ref (G.2.2.1 75)), (1, .int a1), (2, .int a2), (3, .int a3), (4, .int a4)]) C (by rw [hnl]; decide) rfl dX12_best_65 ?_
            refine go_iconst (v := 0) C rfl dX12_best_67 ?_
            refine go_istore (lv2 := [(9, .int 0), (7, .long 0), (6, .int 0), (5, .int (-1)), (0, .ref (G.2.2.1 75)), (1, .int a1), (2, .int a2), (3, .int a3), (4, .int a4)]) C (by rw [hnl]; decide) rfl dX12_best_68 ?_
            refine go_sub [4, 5, 6, 7, 8, 3, 2, 1, 0] rfl ?_
            obtain ⟨n_0, hw⟩ := hw
            exact (gbX12_best_70 C hr hR hnl hd hN) n_0 _ _ _ _ _ _ _ _ _ hw
          · replace hw := hw.2 hc
            refine go_iconst (v := (-1)) C rfl dX12_best_52 ?_
            exact go_iret C hr ⟨_, rfl, hw⟩ dX12_best_53
-- CradleNamesModel.age(III)I
set_option maxRecDepth 20000 in
set_option maxHeartbeats 4000000 in
theorem gbX12_age_168 {X : XT} {G : GT} {l : Launch} {d : Nat}  {post : Int32 → St → Prop} (C : Cx X G cX12_age RX12) (hr : Rt X G (some .int) (fun v τ => ∃ r : Int32, v = some (.int r) ∧ post r τ)) (hR : Rm X l d) (hnl : X.2.2.2.2.2.2.2.2.2.2.1 = 11)  (hd : 10 ≤ d) (hN : 119 ≤ G.2.2.2.2.2)  {K149 : Int32 → Int32 → Int32 → Int32 → Int32 → Int32 → Int32 → Int32 → St → Prop} (hK149 : ∀ (v1 : Int32) (v2 : Int32) (v3 : Int32) (v4 : Int32) (v5 : Int32) (v6 : Int32) (v7 : Int32) (v8 : Int32) (σ : St), K149 v1 v2 v3 v4 v5 v6 v7 v8 σ → Go X G 149 [(0, .ref (G.2.2.1 75)), (1, .int v1), (2, .int v2), (3, .int v3), (4, .int v4), (5, .int v5), (6, .int v6), (7, .int v7), (8, .int v8)] [] σ)
    : ∀ (n : Nat) (v1 : Int32) (v2 : Int32) (v3 : Int32) (v4 : Int32) (v5 : Int32) (v6 : Int32) (v7 : Int32) (v8 : Int32) (v9 : Int32) (v10 : Int32) (σ : St), wbX12_age_168  K149 post n v1 v2 v3 v4 v5 v6 v7 v8 v9 v10 σ → Go X G 168 [(0, .ref (G.2.2.1 75)), (1, .int v1), (2, .int v2), (3, .int v3), (4, .int v4), (5, .int v5), (6, .int v6), (7, .int v7), (8, .int v8), (9, .int v9), (10, .int v10)] [] σ := by
  intro n
  induction n with
  | zero => intro v1 v2 v3 v4 v5 v6 v7 v8 v9 v10 σ hw; exact hw.elim
  | succ n ih =>
    intro v1 v2 v3 v4 v5 v6 v7 v8 v9 v10 σ hw
    have hw : (((v8 + v7) ≤ v10 →
      (((100 * v9) < (v2 * v6) →
        ∀ v8_1 : Int32, v8_1 = v8 + 1 →
        K149 v1 v2 v3 v4 v5 v6 v7 v8_1 σ) ∧
      (¬ (100 * v9) < (v2 * v6) →
        ((¬ v3 = 0 →
          post ((v8 + v7) - 1) σ) ∧
        (v3 = 0 →
          post v8 σ))))) ∧
    (¬ (v8 + v7) ≤ v10 →
      wpX12_all v10 v1 σ (fun r_2 σ_3 =>
      ∀ v9_4 : Int32, v9_4 = (v9 + r_2) →
      ∀ v10_5 : Int32, v10_5 = v10 + 1 →
      wbX12_age_168 K149 post n v1 v2 v3 v4 v5 v6 v7 v8 v9_4 v10_5 σ_3))) := hw
    refine go_iload C 10 rfl dX12_age_168 ?_
    refine go_iload C 8 rfl dX12_age_170 ?_
    refine go_iload C 7 rfl dX12_age_172 ?_
    refine go_iadd C dX12_age_174 ?_
    refine go_icmp_ge C 196 rfl dX12_age_175 (fun hc => ?_) (fun hc => ?_)
    · replace hw := hw.1 hc
      refine go_bipush (v := 100) C rfl dX12_age_196 ?_
      refine go_iload C 9 rfl dX12_age_198 ?_
      refine go_imul C dX12_age_200 ?_
      refine go_iload_n C 2 rfl rfl dX12_age_201 ?_
      refine go_iload C 6 rfl dX12_age_202 ?_
      refine go_imul C dX12_age_204 ?_
      refine go_icmp_lt C 225 rfl dX12_age_205 (fun hc => ?_) (fun hc => ?_)
      · replace hw := hw.1 hc
        obtain ⟨v8_1, ev8_1⟩ : ∃ z : Int32, z = v8 + 1 := ⟨_, rfl⟩
        replace hw := hw v8_1 ev8_1
        refine go_iinc (v := v8_1) (lv2 := [(8, .int v8_1), (0, .ref (G.2.2.1 75)), (1, .int v1), (2, .int v2), (3, .int v3), (4, .int v4), (5, .int v5), (6, .int v6), (7, .int v7), (9, .int v9), (10, .int v10)]) C 8 rfl (by rw [ev8_1]; rfl) (by rw [hnl]; decide) rfl dX12_age_225 ?_
        refine go_goto C 149 rfl dX12_age_228 ?_
        refine go_sub [1, 2, 3, 4, 5, 6, 7, 8, 0] rfl ?_
        exact hK149 _ _ _ _ _ _ _ _ _ hw
      · replace hw := hw.2 hc
        refine go_iload_n C 3 rfl rfl dX12_age_208 ?_
        refine go_if_ne C 217 rfl dX12_age_209 (fun hc => ?_) (fun hc => ?_)
        · replace hw := hw.1 hc
          refine go_iload C 8 rfl dX12_age_217 ?_
          refine go_iload C 7 rfl dX12_age_219 ?_
          refine go_iadd C dX12_age_221 ?_
          refine go_iconst (v := 1) C rfl dX12_age_222 ?_
          refine go_isub C dX12_age_223 ?_
          exact go_iret C hr ⟨_, rfl, hw⟩ dX12_age_224
        · replace hw := hw.2 hc
          refine go_iload C 8 rfl dX12_age_212 ?_
          refine go_goto C 224 rfl dX12_age_214 ?_
          exact go_iret C hr ⟨_, rfl, hw⟩ dX12_age_224
    · replace hw := hw.2 hc
      refine go_iload C 9 rfl dX12_age_178 ?_
      refine go_aload_n C 0 rfl rfl dX12_age_180 ?_
      refine go_iload C 10 rfl dX12_age_181 ?_
      refine go_iload_n C 1 rfl rfl dX12_age_183 ?_
      refine go_callV (as := [.int v10, .int v1]) C hR (shX12 G) (ltX12 hN) cwX12_407 (Nat.le_trans (by decide) hd) (by decide) rfl rfl (Nat.le_of_ble_eq_true rfl) dX12_age_184 (spX12_all (Nat.le_refl _) hN hw) (fun v_ τ_ hw => ?_)
      obtain ⟨r_2, rfl, hw⟩ := hw
      obtain ⟨σ_3, rfl⟩ : ∃ z, z = τ_ := ⟨_, rfl⟩
      refine go_iadd C dX12_age_187 ?_
      refine go_topi (fun v9_4 ev9_4 => ?_)
      replace hw := hw v9_4 ev9_4
      refine go_istore (lv2 := [(9, .int v9_4), (0, .ref (G.2.2.1 75)), (1, .int v1), (2, .int v2), (3, .int v3), (4, .int v4), (5, .int v5), (6, .int v6), (7, .int v7), (8, .int v8), (10, .int v10)]) C (by rw [hnl]; decide) rfl dX12_age_188 ?_
      obtain ⟨v10_5, ev10_5⟩ : ∃ z : Int32, z = v10 + 1 := ⟨_, rfl⟩
      replace hw := hw v10_5 ev10_5
      refine go_iinc (v := v10_5) (lv2 := [(10, .int v10_5), (9, .int v9_4), (0, .ref (G.2.2.1 75)), (1, .int v1), (2, .int v2), (3, .int v3), (4, .int v4), (5, .int v5), (6, .int v6), (7, .int v7), (8, .int v8)]) C 10 rfl (by rw [ev10_5]; rfl) (by rw [hnl]; decide) rfl dX12_age_190 ?_
      refine go_goto C 168 rfl dX12_age_193 ?_
      refine go_sub [2, 3, 4, 5, 6, 7, 8, 9, 10, 1, 0] rfl ?_
      exact ih _ _ _ _ _ _ _ _ _ _ _ hw
set_option maxRecDepth 20000 in
set_option maxHeartbeats 4000000 in
theorem gbX12_age_149 {X : XT} {G : GT} {l : Launch} {d : Nat}  {post : Int32 → St → Prop} (C : Cx X G cX12_age RX12) (hr : Rt X G (some .int) (fun v τ => ∃ r : Int32, v = some (.int r) ∧ post r τ)) (hR : Rm X l d) (hnl : X.2.2.2.2.2.2.2.2.2.2.1 = 11)  (hd : 10 ≤ d) (hN : 119 ≤ G.2.2.2.2.2)  {K133 : Int32 → Int32 → Int32 → Int32 → Int32 → Int32 → Int32 → St → Prop} (hK133 : ∀ (v1 : Int32) (v2 : Int32) (v3 : Int32) (v4 : Int32) (v5 : Int32) (v6 : Int32) (v7 : Int32) (σ : St), K133 v1 v2 v3 v4 v5 v6 v7 σ → Go X G 133 [(0, .ref (G.2.2.1 75)), (1, .int v1), (2, .int v2), (3, .int v3), (4, .int v4), (5, .int v5), (6, .int v6), (7, .int v7)] [] σ)
    : ∀ (n : Nat) (v1 : Int32) (v2 : Int32) (v3 : Int32) (v4 : Int32) (v5 : Int32) (v6 : Int32) (v7 : Int32) (v8 : Int32) (σ : St), wbX12_age_149  K133 post n v1 v2 v3 v4 v5 v6 v7 v8 σ → Go X G 149 [(0, .ref (G.2.2.1 75)), (1, .int v1), (2, .int v2), (3, .int v3), (4, .int v4), (5, .int v5), (6, .int v6), (7, .int v7), (8, .int v8)] [] σ := by
  intro n
  induction n with
  | zero => intro v1 v2 v3 v4 v5 v6 v7 v8 σ hw; exact hw.elim
  | succ n ih =>
    intro v1 v2 v3 v4 v5 v6 v7 v8 σ hw
    have hw : ((v4 < ((v8 + v7) - 1) →
      ∀ v7_1 : Int32, v7_1 = v7 + 1 →
      K133 v1 v2 v3 v4 v5 v6 v7_1 σ) ∧
    (¬ v4 < ((v8 + v7) - 1) →
      ∃ m_168, wbX12_age_168 (wbX12_age_149 K133 post n) post m_168 v1 v2 v3 v4 v5 v6 v7 v8 0 v8 σ)) := hw
    refine go_iload C 8 rfl dX12_age_149 ?_
    refine go_iload C 7 rfl dX12_age_151 ?_
    refine go_iadd C dX12_age_153 ?_
    refine go_iconst (v := 1) C rfl dX12_age_154 ?_
    refine go_isub C dX12_age_155 ?_
    refine go_iload C 4 rfl dX12_age_156 ?_
    refine go_icmp_gt C 231 rfl dX12_age_158 (fun hc => ?_) (fun hc => ?_)
    · replace hw := hw.1 hc
      obtain ⟨v7_1, ev7_1⟩ : ∃ z : Int32, z = v7 + 1 := ⟨_, rfl⟩
      replace hw := hw v7_1 ev7_1
      refine go_iinc (v := v7_1) (lv2 := [(7, .int v7_1), (0, .ref (G.2.2.1 75)), (1, .int v1), (2, .int v2), (3, .int v3), (4, .int v4), (5, .int v5), (6, .int v6), (8, .int v8)]) C 7 rfl (by rw [ev7_1]; rfl) (by rw [hnl]; decide) rfl dX12_age_231 ?_
      refine go_goto C 133 rfl dX12_age_234 ?_
      refine go_sub [1, 2, 3, 4, 5, 6, 7, 0] rfl ?_
      exact hK133 _ _ _ _ _ _ _ _ hw
    · replace hw := hw.2 hc
      refine go_iconst (v := 0) C rfl dX12_age_161 ?_
      refine go_istore (lv2 := [(9, .int 0), (0, .ref (G.2.2.1 75)), (1, .int v1), (2, .int v2), (3, .int v3), (4, .int v4), (5, .int v5), (6, .int v6), (7, .int v7), (8, .int v8)]) C (by rw [hnl]; decide) rfl dX12_age_162 ?_
      refine go_iload C 9 rfl dX12_age_164 ?_
      refine go_istore (lv2 := [(10, .int v8), (9, .int 0), (0, .ref (G.2.2.1 75)), (1, .int v1), (2, .int v2), (3, .int v3), (4, .int v4), (5, .int v5), (6, .int v6), (7, .int v7), (8, .int v8)]) C (by rw [hnl]; decide) rfl dX12_age_166 ?_
      refine go_sub [2, 3, 4, 5, 6, 7, 8, 9, 10, 1, 0] rfl ?_
      obtain ⟨n_0, hw⟩ := hw
      exact (gbX12_age_168 C hr hR hnl hd hN ih) n_0 _ _ _ _ _ _ _ _ _ _ _ hw
set_option maxRecDepth 20000 in
set_option maxHeartbeats 4000000 in
theorem gbX12_age_100 {X : XT} {G : GT} {l : Launch} {d : Nat}  {post : Int32 → St → Prop} (C : Cx X G cX12_age RX12) (hr : Rt X G (some .int) (fun v τ => ∃ r : Int32, v = some (.int r) ∧ post r τ)) (hR : Rm X l d) (hnl : X.2.2.2.2.2.2.2.2.2.2.1 = 11)  (hd : 10 ≤ d) (hN : 119 ≤ G.2.2.2.2.2)   
    : ∀ (n : Nat) (v1 : Int32) (v6 : Int32) (v7 : Int32) (v8 : Int32) (σ : St), wbX12_age_100   post n v1 v6 v7 v8 σ → Go X G 100 [(0, .ref (G.2.2.1 75)), (1, .int v1), (6, .int v6), (7, .int v7), (8, .int v8)] [] σ := by
  intro n
  induction n with
  | zero => intro v1 v6 v7 v8 σ hw; exact hw.elim
  | succ n ih =>
    intro v1 v6 v7 v8 σ hw
    have hw : ((v6 ≤ (2 * v8) →
      post v7 σ) ∧
    (¬ v6 ≤ (2 * v8) →
      ∀ v7_1 : Int32, v7_1 = v7 + 1 →
      wpX12_all v7_1 v1 σ (fun r_2 σ_3 =>
      ∀ v8_4 : Int32, v8_4 = (v8 + r_2) →
      wbX12_age_100 post n v1 v6 v7_1 v8_4 σ_3))) := hw
    refine go_iconst (v := 2) C rfl dX12_age_100 ?_
    refine go_iload C 4 rfl dX12_age_101 ?_
    refine go_imul C dX12_age_103 ?_
    refine go_iload C 2 rfl dX12_age_104 ?_
    refine go_icmp_ge C 127 rfl dX12_age_106 (fun hc => ?_) (fun hc => ?_)
    · replace hw := hw.1 hc
      refine go_iload C 3 rfl dX12_age_127 ?_
      exact go_iret C hr ⟨_, rfl, hw⟩ dX12_age_129
    · replace hw := hw.2 hc
      obtain ⟨v7_1, ev7_1⟩ : ∃ z : Int32, z = v7 + 1 := ⟨_, rfl⟩
      replace hw := hw v7_1 ev7_1
      refine go_iinc (v := v7_1) (lv2 := [(7, .int v7_1), (0, .ref (G.2.2.1 75)), (1, .int v1), (6, .int v6), (8, .int v8)]) C 3 rfl (by rw [ev7_1]; rfl) (by rw [hnl]; decide) rfl dX12_age_109 ?_
      refine go_iload C 4 rfl dX12_age_112 ?_
      refine go_aload_n C 1 rfl rfl dX12_age_114 ?_
      refine go_iload C 0 rfl dX12_age_115 ?_
      refine go_iload_n C 2 rfl rfl dX12_age_117 ?_
      refine go_callV (as := [.int v7_1, .int v1]) C hR (shX12 G) (ltX12 hN) cwX12_407 (Nat.le_trans (by decide) hd) (by decide) rfl rfl (Nat.le_of_ble_eq_true rfl) dX12_age_118 (spX12_all (Nat.le_refl _) hN hw) (fun v_ τ_ hw => ?_)
      obtain ⟨r_2, rfl, hw⟩ := hw
      obtain ⟨σ_3, rfl⟩ : ∃ z, z = τ_ := ⟨_, rfl⟩
      refine go_iadd C dX12_age_121 ?_
      refine go_topi (fun v8_4 ev8_4 => ?_)
      replace hw := hw v8_4 ev8_4
      refine go_istore (lv2 := [(8, .int v8_4), (7, .int v7_1), (0, .ref (G.2.2.1 75)), (1, .int v1), (6, .int v6)]) C (by rw [hnl]; decide) rfl dX12_age_122 ?_
      refine go_goto C 100 rfl dX12_age_124 ?_
      refine go_sub [2, 3, 4, 1, 0] rfl ?_
      exact ih _ _ _ _ _ hw
set_option maxRecDepth 20000 in
set_option maxHeartbeats 4000000 in
theorem gbX12_age_133 {X : XT} {G : GT} {l : Launch} {d : Nat}  {post : Int32 → St → Prop} (C : Cx X G cX12_age RX12) (hr : Rt X G (some .int) (fun v τ => ∃ r : Int32, v = some (.int r) ∧ post r τ)) (hR : Rm X l d) (hnl : X.2.2.2.2.2.2.2.2.2.2.1 = 11)  (hd : 10 ≤ d) (hN : 119 ≤ G.2.2.2.2.2)   
    : ∀ (n : Nat) (v1 : Int32) (v2 : Int32) (v3 : Int32) (v4 : Int32) (v5 : Int32) (v6 : Int32) (v7 : Int32) (σ : St), wbX12_age_133   post n v1 v2 v3 v4 v5 v6 v7 σ → Go X G 133 [(0, .ref (G.2.2.1 75)), (1, .int v1), (2, .int v2), (3, .int v3), (4, .int v4), (5, .int v5), (6, .int v6), (7, .int v7)] [] σ := by
  intro n
  induction n with
  | zero => intro v1 v2 v3 v4 v5 v6 v7 σ hw; exact hw.elim
  | succ n ih =>
    intro v1 v2 v3 v4 v5 v6 v7 σ hw
    have hw : ((((v4 - v5) + 1) < v7 →
      post (-1000) σ) ∧
    (¬ ((v4 - v5) + 1) < v7 →
      ∃ m_149, wbX12_age_149 (wbX12_age_133 post n) post m_149 v1 v2 v3 v4 v5 v6 v7 v5 σ)) := hw
    refine go_iload C 7 rfl dX12_age_133 ?_
    refine go_iload C 4 rfl dX12_age_135 ?_
    refine go_iload C 5 rfl dX12_age_137 ?_
    refine go_isub C dX12_age_139 ?_
    refine go_iconst (v := 1) C rfl dX12_age_140 ?_
    refine go_iadd C dX12_age_141 ?_
    refine go_icmp_gt C 237 rfl dX12_age_142 (fun hc => ?_) (fun hc => ?_)
    · replace hw := hw.1 hc
      refine go_sipush (v := (-1000)) C rfl dX12_age_237 ?_
      exact go_iret C hr ⟨_, rfl, hw⟩ dX12_age_240
    · replace hw := hw.2 hc
      refine go_iload C 5 rfl dX12_age_145 ?_
      refine go_istore (lv2 := [(8, .int v5), (0, .ref (G.2.2.1 75)), (1, .int v1), (2, .int v2), (3, .int v3), (4, .int v4), (5, .int v5), (6, .int v6), (7, .int v7)]) C (by rw [hnl]; decide) rfl dX12_age_147 ?_
      refine go_sub [1, 2, 3, 4, 5, 6, 7, 8, 0] rfl ?_
      obtain ⟨n_0, hw⟩ := hw
      exact (gbX12_age_149 C hr hR hnl hd hN ih) n_0 _ _ _ _ _ _ _ _ _ hw
set_option maxRecDepth 20000 in
set_option maxHeartbeats 4000000 in
theorem spX12_age {l : Launch} {G : GT} {d : Nat}  (hd : 10 ≤ d)  (hN : 119 ≤ G.2.2.2.2.2)  {a1 : Int32} {a2 : Int32} {a3 : Int32} {σ : St} {post : Int32 → St → Prop} (hw : wpX12_age  a1 a2 a3 σ post) : Sp l G d yX12_age cX12_age 11 (some .int) [.ref (G.2.2.1 75), .int a1, .int a2, .int a3] σ (fun v τ => ∃ r : Int32, v = some (.int r) ∧ post r τ) := by
  refine Sp.of (by decide) (Nat.le_of_ble_eq_true rfl) fun X C hr hR hnl => ?_
  show Go X G 0 [(0, .ref (G.2.2.1 75)), (1, .int a1), (2, .int a2), (3, .int a3)] [] σ
  have hw : wpX12_isName a1 σ (fun r_1 σ_2 =>
  ((r_1 = 0 →
    post (-1000) σ_2) ∧
  (¬ r_1 = 0 →
    wpX12_in a2 1 100 σ_2 (fun r_3 σ_4 =>
    ((r_3 = 0 →
      post (-1000) σ_4) ∧
    (¬ r_3 = 0 →
      wpX12_in a3 0 2 σ_4 (fun r_5 σ_6 =>
      ((¬ r_5 = 0 →
        wpX12_runsAll  σ_6 (fun σ_8 =>
        vp_in 0 9680 ∧ (
        ∀ v4_9 : Int32, v4_9 = ((gI σ_8 76 (0 : Int32).toNatClampNeg) - 1) →
        vp_in 6 9680 ∧ (
        wpX12_greater (-40) ((v4_9 - (gI σ_8 76 (6 : Int32).toNatClampNeg)) + 1) σ_8 (fun r_10 σ_11 =>
        wpX12_living a1 v4_9 σ_11 (fun r_12 σ_13 =>
        ((¬ r_12 = 0 →
          ((¬ a3 = 2 →
            ∃ m_133, wbX12_age_133 post m_133 a1 a2 a3 v4_9 r_10 r_12 1 σ_13) ∧
          (a3 = 2 →
            wpX12_all r_10 a1 σ_13 (fun r_14 σ_15 =>
            ∃ m_100, wbX12_age_100 post m_100 a1 r_12 r_10 r_14 σ_15)))) ∧
        (r_12 = 0 →
          post (-1000) σ_13)))))))) ∧
      (r_5 = 0 →
        post (-1000) σ_6))))))))) := hw
  refine go_aload_n C 0 rfl rfl dX12_age_0 ?_
  refine go_iload_n C 1 rfl rfl dX12_age_1 ?_
  refine go_callV (as := [.int a1]) C hR (shX12 G) (ltX12 hN) cwX12_182 (Nat.le_trans (by decide) hd) (by decide) rfl rfl (Nat.le_of_ble_eq_true rfl) dX12_age_2 (spX12_isName (Nat.le_refl _) hN hw) (fun v_ τ_ hw => ?_)
  obtain ⟨r_1, rfl, hw⟩ := hw
  obtain ⟨σ_2, rfl⟩ : ∃ z, z = τ_ := ⟨_, rfl⟩
  refine go_if_eq C 27 rfl dX12_age_5 (fun hc => ?_) (fun hc => ?_)
  · replace hw := hw.1 hc
    refine go_sipush (v := (-1000)) C rfl dX12_age_27 ?_
    exact go_iret C hr ⟨_, rfl, hw⟩ dX12_age_30
  · replace hw := hw.2 hc
    refine go_iload_n C 2 rfl rfl dX12_age_8 ?_
    refine go_iconst (v := 1) C rfl dX12_age_9 ?_
    refine go_bipush (v := 100) C rfl dX12_age_10 ?_
    refine go_callS (as := [.int a2, .int 1, .int 100]) C hR cwX12_152 (Nat.le_trans (by decide) hd) (by decide) rfl rfl (Nat.le_of_ble_eq_true rfl) dX12_age_12 (spX12_in (Nat.le_refl _) hN hw) (fun v_ τ_ hw => ?_)
    obtain ⟨r_3, rfl, hw⟩ := hw
    obtain ⟨σ_4, rfl⟩ : ∃ z, z = τ_ := ⟨_, rfl⟩
    refine go_if_eq C 27 rfl dX12_age_15 (fun hc => ?_) (fun hc => ?_)
    · replace hw := hw.1 hc
      refine go_sipush (v := (-1000)) C rfl dX12_age_27 ?_
      exact go_iret C hr ⟨_, rfl, hw⟩ dX12_age_30
    · replace hw := hw.2 hc
      refine go_iload_n C 3 rfl rfl dX12_age_18 ?_
      refine go_iconst (v := 0) C rfl dX12_age_19 ?_
      refine go_iconst (v := 2) C rfl dX12_age_20 ?_
      refine go_callS (as := [.int a3, .int 0, .int 2]) C hR cwX12_152 (Nat.le_trans (by decide) hd) (by decide) rfl rfl (Nat.le_of_ble_eq_true rfl) dX12_age_21 (spX12_in (Nat.le_refl _) hN hw) (fun v_ τ_ hw => ?_)
      obtain ⟨r_5, rfl, hw⟩ := hw
      obtain ⟨σ_6, rfl⟩ : ∃ z, z = τ_ := ⟨_, rfl⟩
      refine go_if_ne C 31 rfl dX12_age_24 (fun hc => ?_) (fun hc => ?_)
      · replace hw := hw.1 hc
        refine go_aload_n C 0 rfl rfl dX12_age_31 ?_
        refine go_callV (as := []) C hR (shX12 G) (ltX12 hN) cwX12_464 (Nat.le_trans (by decide) hd) (by decide) rfl rfl (Nat.le_of_ble_eq_true rfl) dX12_age_32 (spX12_runsAll (Nat.le_refl _) hN hw) (fun v_ τ_ hw => ?_)
        obtain ⟨rfl, hw⟩ := hw
        obtain ⟨σ_8, rfl⟩ : ∃ z, z = τ_ := ⟨_, rfl⟩
        refine go_aload_n C 0 rfl rfl dX12_age_35 ?_
        refine go_get (v := .ref (G.2.2.1 76)) C (shX12 G) (ltX12 hN) lkX12_7 rfl dX12_age_36 ?_
        refine go_iconst (v := 0) C rfl dX12_age_39 ?_
        refine go_iald C (saX12_a G) (laX12_a hN) hw.1 dX12_age_40 ?_
        replace hw := hw.2
        refine go_iconst (v := 1) C rfl dX12_age_41 ?_
        refine go_isub C dX12_age_42 ?_
        refine go_topi (fun v4_9 ev4_9 => ?_)
        replace hw := hw v4_9 ev4_9
        refine go_istore (lv2 := [(4, .int v4_9), (0, .ref (G.2.2.1 75)), (1, .int a1), (2, .int a2), (3, .int a3)]) C (by rw [hnl]; decide) rfl dX12_age_43 ?_
        refine go_bipush (v := (-40)) C rfl dX12_age_45 ?_
        refine go_iload C 0 rfl dX12_age_47 ?_
        refine go_aload_n C 1 rfl rfl dX12_age_49 ?_
        refine go_get (v := .ref (G.2.2.1 76)) C (shX12 G) (ltX12 hN) lkX12_7 rfl dX12_age_50 ?_
        refine go_bipush (v := 6) C rfl dX12_age_53 ?_
        refine go_iald C (saX12_a G) (laX12_a hN) hw.1 dX12_age_55 ?_
        replace hw := hw.2
        refine go_isub C dX12_age_56 ?_
        refine go_iconst (v := 1) C rfl dX12_age_57 ?_
        refine go_iadd C dX12_age_58 ?_
        refine go_callS (as := [.int (-40), .int ((v4_9 - (gI σ_8 76 (6 : Int32).toNatClampNeg)) + 1)]) C hR cwX12_410 (Nat.le_trans (by decide) hd) (by decide) rfl rfl (Nat.le_of_ble_eq_true rfl) dX12_age_59 (spX12_greater (Nat.le_refl _) hN hw) (fun v_ τ_ hw => ?_)
        obtain ⟨r_10, rfl, hw⟩ := hw
        obtain ⟨σ_11, rfl⟩ : ∃ z, z = τ_ := ⟨_, rfl⟩
        refine go_istore (lv2 := [(5, .int r_10), (4, .int v4_9), (0, .ref (G.2.2.1 75)), (1, .int a1), (2, .int a2), (3, .int a3)]) C (by rw [hnl]; decide) rfl dX12_age_62 ?_
        refine go_aload_n C 2 rfl rfl dX12_age_64 ?_
        refine go_iload_n C 3 rfl rfl dX12_age_65 ?_
        refine go_iload C 1 rfl dX12_age_66 ?_
        refine go_callV (as := [.int a1, .int v4_9]) C hR (shX12 G) (ltX12 hN) cwX12_192 (Nat.le_trans (by decide) hd) (by decide) rfl rfl (Nat.le_of_ble_eq_true rfl) dX12_age_68 (spX12_living (Nat.le_refl _) hN hw) (fun v_ τ_ hw => ?_)
        obtain ⟨r_12, rfl, hw⟩ := hw
        obtain ⟨σ_13, rfl⟩ : ∃ z, z = τ_ := ⟨_, rfl⟩
        refine go_istore (lv2 := [(6, .int r_12), (5, .int r_10), (4, .int v4_9), (0, .ref (G.2.2.1 75)), (1, .int a1), (2, .int a2), (3, .int a3)]) C (by rw [hnl]; decide) rfl dX12_age_71 ?_
        refine go_iload C 0 rfl dX12_age_73 ?_
        refine go_if_ne C 82 rfl dX12_age_75 (fun hc => ?_) (fun hc => ?_)
        · replace hw := hw.1 hc
          refine go_iload_n C 6 rfl rfl dX12_age_82 ?_
          refine go_iconst (v := 2) C rfl dX12_age_83 ?_
          refine go_icmp_ne C 130 rfl dX12_age_84 (fun hc => ?_) (fun hc => ?_)
          · replace hw := hw.1 hc
            refine go_iconst (v := 1) C rfl dX12_age_130 ?_
            refine go_istore (lv2 := [(7, .int 1), (6, .int r_12), (5, .int r_10), (4, .int v4_9), (0, .ref (G.2.2.1 75)), (1, .int a1), (2, .int a2), (3, .int a3)]) C (by rw [hnl]; decide) rfl dX12_age_131 ?_
            refine go_sub [4, 5, 6, 7, 3, 2, 1, 0] rfl ?_
            obtain ⟨n_0, hw⟩ := hw
            exact (gbX12_age_133 C hr hR hnl hd hN) n_0 _ _ _ _ _ _ _ _ hw
          · replace hw := hw.2 hc
            refine go_iload C 1 rfl dX12_age_87 ?_
            refine go_istore (lv2 := [(7, .int r_10), (6, .int r_12), (5, .int r_10), (4, .int v4_9), (0, .ref (G.2.2.1 75)), (1, .int a1), (2, .int a2), (3, .int a3)]) C (by rw [hnl]; decide) rfl dX12_age_89 ?_
            refine go_aload_n C 4 rfl rfl dX12_age_91 ?_
            refine go_iload C 0 rfl dX12_age_92 ?_
            refine go_iload_n C 5 rfl rfl dX12_age_94 ?_
            refine go_callV (as := [.int r_10, .int a1]) C hR (shX12 G) (ltX12 hN) cwX12_407 (Nat.le_trans (by decide) hd) (by decide) rfl rfl (Nat.le_of_ble_eq_true rfl) dX12_age_95 (spX12_all (Nat.le_refl _) hN hw) (fun v_ τ_ hw => ?_)
            obtain ⟨r_14, rfl, hw⟩ := hw
            obtain ⟨σ_15, rfl⟩ : ∃ z, z = τ_ := ⟨_, rfl⟩
            refine go_istore (lv2 := [(8, .int r_14), (7, .int r_10), (6, .int r_12), (5, .int r_10), (4, .int v4_9), (0, .ref (G.2.2.1 75)), (1, .int a1), (2, .int a2), (3, .int a3)]) C (by rw [hnl]; decide) rfl dX12_age_98 ?_
            refine go_sub [5, 6, 2, 1, 0] rfl ?_
            obtain ⟨n_0, hw⟩ := hw
            exact (gbX12_age_100 C hr hR hnl hd hN) n_0 _ _ _ _ _ hw
        · replace hw := hw.2 hc
          refine go_sipush (v := (-1000)) C rfl dX12_age_78 ?_
          exact go_iret C hr ⟨_, rfl, hw⟩ dX12_age_81
      · replace hw := hw.2 hc
        refine go_sipush (v := (-1000)) C rfl dX12_age_27 ?_
        exact go_iret C hr ⟨_, rfl, hw⟩ dX12_age_30
-- CradleNamesModel.livingIn(II)J
set_option maxRecDepth 20000 in
set_option maxHeartbeats 4000000 in
theorem gbX12_livingIn_64 {X : XT} {G : GT} {l : Launch} {d : Nat}  {post : Int64 → St → Prop} (C : Cx X G cX12_livingIn RX12) (hr : Rt X G (some .long) (fun v τ => ∃ r : Int64, v = some (.long r) ∧ post r τ)) (hR : Rm X l d) (hnl : X.2.2.2.2.2.2.2.2.2.2.1 = 8)  (hd : 2 ≤ d) (hN : 119 ≤ G.2.2.2.2.2)  {K41 : Int32 → Int32 → Int64 → Int32 → Int32 → Int32 → St → Prop} (hK41 : ∀ (v1 : Int32) (v2 : Int32) (v3 : Int64) (v5 : Int32) (v6 : Int32) (v7 : Int32) (σ : St), K41 v1 v2 v3 v5 v6 v7 σ → Go X G 41 [(0, .ref (G.2.2.1 75)), (1, .int v1), (2, .int v2), (3, .long v3), (5, .int v5), (6, .int v6), (7, .int v7)] [] σ)
    : ∀ (v1 : Int32) (v2 : Int32) (v5 : Int32) (v6 : Int32) (v7 : Int32) (s0 : Int64) (σ : St), wbX12_livingIn_64  K41 post v1 v2 v5 v6 v7 s0 σ → Go X G 64 [(0, .ref (G.2.2.1 75)), (1, .int v1), (2, .int v2), (5, .int v5), (6, .int v6), (7, .int v7)] [.long s0] σ := by
  intro v1 v2 v5 v6 v7 s0 σ hw
  have hw : vp_in (((48 * (v6 + 40)) + (16 * v1)) + v7) 4848 ∧ (
  ∀ v3_1 : Int64, v3_1 = (s0 + (gI σ 100 (((48 * (v6 + 40)) + (16 * v1)) + v7).toNatClampNeg).toInt64) →
  ∀ v7_2 : Int32, v7_2 = v7 + 1 →
  K41 v1 v2 v3_1 v5 v6 v7_2 σ) := hw
  refine go_aload_n C 0 rfl rfl dX12_livingIn_64 ?_
  refine go_get (v := .ref (G.2.2.1 100)) C (shX12 G) (ltX12 hN) lkX12_91 rfl dX12_livingIn_65 ?_
  refine go_bipush (v := 48) C rfl dX12_livingIn_68 ?_
  refine go_iload C 4 rfl dX12_livingIn_70 ?_
  refine go_bipush (v := 40) C rfl dX12_livingIn_72 ?_
  refine go_iadd C dX12_livingIn_74 ?_
  refine go_imul C dX12_livingIn_75 ?_
  refine go_bipush (v := 16) C rfl dX12_livingIn_76 ?_
  refine go_iload_n C 1 rfl rfl dX12_livingIn_78 ?_
  refine go_imul C dX12_livingIn_79 ?_
  refine go_iadd C dX12_livingIn_80 ?_
  refine go_iload C 5 rfl dX12_livingIn_81 ?_
  refine go_iadd C dX12_livingIn_83 ?_
  refine go_iald C (saX12_inPlace G) (laX12_inPlace hN) hw.1 dX12_livingIn_84 ?_
  replace hw := hw.2
  refine go_i2l C dX12_livingIn_85 ?_
  refine go_goto C 90 rfl dX12_livingIn_86 ?_
  refine go_ladd C dX12_livingIn_90 ?_
  refine go_topl (fun v3_1 ev3_1 => ?_)
  replace hw := hw v3_1 ev3_1
  refine go_lstore_n (lv2 := [(3, .long v3_1), (0, .ref (G.2.2.1 75)), (1, .int v1), (2, .int v2), (5, .int v5), (6, .int v6), (7, .int v7)]) C rfl (by rw [hnl]; decide) rfl dX12_livingIn_91 ?_
  obtain ⟨v7_2, ev7_2⟩ : ∃ z : Int32, z = v7 + 1 := ⟨_, rfl⟩
  replace hw := hw v7_2 ev7_2
  refine go_iinc (v := v7_2) (lv2 := [(7, .int v7_2), (3, .long v3_1), (0, .ref (G.2.2.1 75)), (1, .int v1), (2, .int v2), (5, .int v5), (6, .int v6)]) C 6 rfl (by rw [ev7_2]; rfl) (by rw [hnl]; decide) rfl dX12_livingIn_92 ?_
  refine go_goto C 41 rfl dX12_livingIn_95 ?_
  refine go_sub [2, 3, 4, 1, 5, 6, 0] rfl ?_
  exact hK41 _ _ _ _ _ _ _ hw
set_option maxRecDepth 20000 in
set_option maxHeartbeats 4000000 in
theorem gbX12_livingIn_41 {X : XT} {G : GT} {l : Launch} {d : Nat}  {post : Int64 → St → Prop} (C : Cx X G cX12_livingIn RX12) (hr : Rt X G (some .long) (fun v τ => ∃ r : Int64, v = some (.long r) ∧ post r τ)) (hR : Rm X l d) (hnl : X.2.2.2.2.2.2.2.2.2.2.1 = 8)  (hd : 2 ≤ d) (hN : 119 ≤ G.2.2.2.2.2)  {K31 : Int32 → Int32 → Int64 → Int32 → Int32 → St → Prop} (hK31 : ∀ (v1 : Int32) (v2 : Int32) (v3 : Int64) (v5 : Int32) (v6 : Int32) (σ : St), K31 v1 v2 v3 v5 v6 σ → Go X G 31 [(0, .ref (G.2.2.1 75)), (1, .int v1), (2, .int v2), (3, .long v3), (5, .int v5), (6, .int v6)] [] σ)
    : ∀ (n : Nat) (v1 : Int32) (v2 : Int32) (v3 : Int64) (v5 : Int32) (v6 : Int32) (v7 : Int32) (σ : St), wbX12_livingIn_41  K31 post n v1 v2 v3 v5 v6 v7 σ → Go X G 41 [(0, .ref (G.2.2.1 75)), (1, .int v1), (2, .int v2), (3, .long v3), (5, .int v5), (6, .int v6), (7, .int v7)] [] σ := by
  intro n
  induction n with
  | zero => intro v1 v2 v3 v5 v6 v7 σ hw; exact hw.elim
  | succ n ih =>
    intro v1 v2 v3 v5 v6 v7 σ hw
    have hw : vp_in 1 9680 ∧ (
    (((gI σ 76 (1 : Int32).toNatClampNeg) ≤ v7 →
      ∀ v6_1 : Int32, v6_1 = v6 + 1 →
      K31 v1 v2 v3 v5 v6_1 σ) ∧
    (¬ (gI σ 76 (1 : Int32).toNatClampNeg) ≤ v7 →
      ((v2 = (-1) →
        wbX12_livingIn_64 (wbX12_livingIn_41 K31 post n) post v1 v2 v5 v6 v7 v3 σ) ∧
      (¬ v2 = (-1) →
        ((¬ v2 = v7 →
          ∀ v3_2 : Int64, v3_2 = (v3 + 0) →
          ∀ v7_3 : Int32, v7_3 = v7 + 1 →
          wbX12_livingIn_41 K31 post n v1 v2 v3_2 v5 v6 v7_3 σ) ∧
        (v2 = v7 →
          wbX12_livingIn_64 (wbX12_livingIn_41 K31 post n) post v1 v2 v5 v6 v7 v3 σ))))))) := hw
    refine go_iload C 6 rfl dX12_livingIn_41 ?_
    refine go_aload_n C 0 rfl rfl dX12_livingIn_43 ?_
    refine go_get (v := .ref (G.2.2.1 76)) C (shX12 G) (ltX12 hN) lkX12_7 rfl dX12_livingIn_44 ?_
    refine go_iconst (v := 1) C rfl dX12_livingIn_47 ?_
    refine go_iald C (saX12_a G) (laX12_a hN) hw.1 dX12_livingIn_48 ?_
    replace hw := hw.2
    refine go_icmp_ge C 98 rfl dX12_livingIn_49 (fun hc => ?_) (fun hc => ?_)
    · replace hw := hw.1 hc
      obtain ⟨v6_1, ev6_1⟩ : ∃ z : Int32, z = v6 + 1 := ⟨_, rfl⟩
      replace hw := hw v6_1 ev6_1
      refine go_iinc (v := v6_1) (lv2 := [(6, .int v6_1), (0, .ref (G.2.2.1 75)), (1, .int v1), (2, .int v2), (3, .long v3), (5, .int v5), (7, .int v7)]) C 5 rfl (by rw [ev6_1]; rfl) (by rw [hnl]; decide) rfl dX12_livingIn_98 ?_
      refine go_goto C 31 rfl dX12_livingIn_101 ?_
      refine go_sub [1, 2, 3, 4, 5, 0] rfl ?_
      exact hK31 _ _ _ _ _ _ hw
    · replace hw := hw.2 hc
      refine go_lload_n C 3 rfl rfl dX12_livingIn_52 ?_
      refine go_iload_n C 2 rfl rfl dX12_livingIn_53 ?_
      refine go_iconst (v := (-1)) C rfl dX12_livingIn_54 ?_
      refine go_icmp_eq C 64 rfl dX12_livingIn_55 (fun hc => ?_) (fun hc => ?_)
      · replace hw := hw.1 hc
        refine go_sub [0, 1, 2, 4, 5, 6] rfl ?_
        exact (gbX12_livingIn_64 C hr hR hnl hd hN ih) _ _ _ _ _ _ _ hw
      · replace hw := hw.2 hc
        refine go_iload_n C 2 rfl rfl dX12_livingIn_58 ?_
        refine go_iload C 6 rfl dX12_livingIn_59 ?_
        refine go_icmp_ne C 89 rfl dX12_livingIn_61 (fun hc => ?_) (fun hc => ?_)
        · replace hw := hw.1 hc
          refine go_lconst (v := 0) C rfl dX12_livingIn_89 ?_
          refine go_ladd C dX12_livingIn_90 ?_
          refine go_topl (fun v3_2 ev3_2 => ?_)
          replace hw := hw v3_2 ev3_2
          refine go_lstore_n (lv2 := [(3, .long v3_2), (0, .ref (G.2.2.1 75)), (1, .int v1), (2, .int v2), (5, .int v5), (6, .int v6), (7, .int v7)]) C rfl (by rw [hnl]; decide) rfl dX12_livingIn_91 ?_
          obtain ⟨v7_3, ev7_3⟩ : ∃ z : Int32, z = v7 + 1 := ⟨_, rfl⟩
          replace hw := hw v7_3 ev7_3
          refine go_iinc (v := v7_3) (lv2 := [(7, .int v7_3), (3, .long v3_2), (0, .ref (G.2.2.1 75)), (1, .int v1), (2, .int v2), (5, .int v5), (6, .int v6)]) C 6 rfl (by rw [ev7_3]; rfl) (by rw [hnl]; decide) rfl dX12_livingIn_92 ?_
          refine go_goto C 41 rfl dX12_livingIn_95 ?_
          refine go_sub [2, 3, 4, 1, 5, 6, 0] rfl ?_
          exact ih _ _ _ _ _ _ _ hw
        · replace hw := hw.2 hc
          refine go_sub [0, 1, 2, 4, 5, 6] rfl ?_
          exact (gbX12_livingIn_64 C hr hR hnl hd hN ih) _ _ _ _ _ _ _ hw
set_option maxRecDepth 20000 in
set_option maxHeartbeats 4000000 in
theorem gbX12_livingIn_31 {X : XT} {G : GT} {l : Launch} {d : Nat}  {post : Int64 → St → Prop} (C : Cx X G cX12_livingIn RX12) (hr : Rt X G (some .long) (fun v τ => ∃ r : Int64, v = some (.long r) ∧ post r τ)) (hR : Rm X l d) (hnl : X.2.2.2.2.2.2.2.2.2.2.1 = 8)  (hd : 2 ≤ d) (hN : 119 ≤ G.2.2.2.2.2)   
    : ∀ (n : Nat) (v1 : Int32) (v2 : Int32) (v3 : Int64) (v5 : Int32) (v6 : Int32) (σ : St), wbX12_livingIn_31   post n v1 v2 v3 v5 v6 σ → Go X G 31 [(0, .ref (G.2.2.1 75)), (1, .int v1), (2, .int v2), (3, .long v3), (5, .int v5), (6, .int v6)] [] σ := by
  intro n
  induction n with
  | zero => intro v1 v2 v3 v5 v6 σ hw; exact hw.elim
  | succ n ih =>
    intro v1 v2 v3 v5 v6 σ hw
    have hw : ((v5 < v6 →
      post v3 σ) ∧
    (¬ v5 < v6 →
      ∃ m_41, wbX12_livingIn_41 (wbX12_livingIn_31 post n) post m_41 v1 v2 v3 v5 v6 0 σ)) := hw
    refine go_iload C 5 rfl dX12_livingIn_31 ?_
    refine go_iload C 4 rfl dX12_livingIn_33 ?_
    refine go_icmp_gt C 104 rfl dX12_livingIn_35 (fun hc => ?_) (fun hc => ?_)
    · replace hw := hw.1 hc
      refine go_lload_n C 3 rfl rfl dX12_livingIn_104 ?_
      exact go_lret C hr ⟨_, rfl, hw⟩ dX12_livingIn_105
    · replace hw := hw.2 hc
      refine go_iconst (v := 0) C rfl dX12_livingIn_38 ?_
      refine go_istore (lv2 := [(7, .int 0), (0, .ref (G.2.2.1 75)), (1, .int v1), (2, .int v2), (3, .long v3), (5, .int v5), (6, .int v6)]) C (by rw [hnl]; decide) rfl dX12_livingIn_39 ?_
      refine go_sub [1, 2, 3, 4, 5, 6, 0] rfl ?_
      obtain ⟨n_0, hw⟩ := hw
      exact (gbX12_livingIn_41 C hr hR hnl hd hN ih) n_0 _ _ _ _ _ _ _ hw
set_option maxRecDepth 20000 in
set_option maxHeartbeats 4000000 in
theorem spX12_livingIn {l : Launch} {G : GT} {d : Nat}  (hd : 2 ≤ d)  (hN : 119 ≤ G.2.2.2.2.2)  {a1 : Int32} {a2 : Int32} {σ : St} {post : Int64 → St → Prop} (hw : wpX12_livingIn  a1 a2 σ post) : Sp l G d yX12_livingIn cX12_livingIn 8 (some .long) [.ref (G.2.2.1 75), .int a1, .int a2] σ (fun v τ => ∃ r : Int64, v = some (.long r) ∧ post r τ) := by
  refine Sp.of (by decide) (Nat.le_of_ble_eq_true rfl) fun X C hr hR hnl => ?_
  show Go X G 0 [(0, .ref (G.2.2.1 75)), (1, .int a1), (2, .int a2)] [] σ
  have hw : vp_in 0 9680 ∧ (
  ∀ v5_1 : Int32, v5_1 = ((gI σ 76 (0 : Int32).toNatClampNeg) - 1) →
  vp_in 6 9680 ∧ (
  wpX12_greater (-40) ((v5_1 - (gI σ 76 (6 : Int32).toNatClampNeg)) + 1) σ (fun r_2 σ_3 =>
  ∃ m_31, wbX12_livingIn_31 post m_31 a1 a2 0 v5_1 r_2 σ_3))) := hw
  refine go_lconst (v := 0) C rfl dX12_livingIn_0 ?_
  refine go_lstore_n (lv2 := [(3, .long 0), (0, .ref (G.2.2.1 75)), (1, .int a1), (2, .int a2)]) C rfl (by rw [hnl]; decide) rfl dX12_livingIn_1 ?_
  refine go_aload_n C 1 rfl rfl dX12_livingIn_2 ?_
  refine go_get (v := .ref (G.2.2.1 76)) C (shX12 G) (ltX12 hN) lkX12_7 rfl dX12_livingIn_3 ?_
  refine go_iconst (v := 0) C rfl dX12_livingIn_6 ?_
  refine go_iald C (saX12_a G) (laX12_a hN) hw.1 dX12_livingIn_7 ?_
  replace hw := hw.2
  refine go_iconst (v := 1) C rfl dX12_livingIn_8 ?_
  refine go_isub C dX12_livingIn_9 ?_
  refine go_topi (fun v5_1 ev5_1 => ?_)
  replace hw := hw v5_1 ev5_1
  refine go_istore (lv2 := [(5, .int v5_1), (3, .long 0), (0, .ref (G.2.2.1 75)), (1, .int a1), (2, .int a2)]) C (by rw [hnl]; decide) rfl dX12_livingIn_10 ?_
  refine go_bipush (v := (-40)) C rfl dX12_livingIn_12 ?_
  refine go_iload C 0 rfl dX12_livingIn_14 ?_
  refine go_aload_n C 2 rfl rfl dX12_livingIn_16 ?_
  refine go_get (v := .ref (G.2.2.1 76)) C (shX12 G) (ltX12 hN) lkX12_7 rfl dX12_livingIn_17 ?_
  refine go_bipush (v := 6) C rfl dX12_livingIn_20 ?_
  refine go_iald C (saX12_a G) (laX12_a hN) hw.1 dX12_livingIn_22 ?_
  replace hw := hw.2
  refine go_isub C dX12_livingIn_23 ?_
  refine go_iconst (v := 1) C rfl dX12_livingIn_24 ?_
  refine go_iadd C dX12_livingIn_25 ?_
  refine go_callS (as := [.int (-40), .int ((v5_1 - (gI σ 76 (6 : Int32).toNatClampNeg)) + 1)]) C hR cwX12_410 (Nat.le_trans (by decide) hd) (by decide) rfl rfl (Nat.le_of_ble_eq_true rfl) dX12_livingIn_26 (spX12_greater (Nat.le_refl _) hN hw) (fun v_ τ_ hw => ?_)
  obtain ⟨r_2, rfl, hw⟩ := hw
  obtain ⟨σ_3, rfl⟩ : ∃ z, z = τ_ := ⟨_, rfl⟩
  refine go_istore (lv2 := [(6, .int r_2), (5, .int v5_1), (3, .long 0), (0, .ref (G.2.2.1 75)), (1, .int a1), (2, .int a2)]) C (by rw [hnl]; decide) rfl dX12_livingIn_29 ?_
  refine go_sub [3, 4, 5, 2, 1, 0] rfl ?_
  obtain ⟨n_0, hw⟩ := hw
  exact (gbX12_livingIn_31 C hr hR hnl hd hN) n_0 _ _ _ _ _ _ hw
