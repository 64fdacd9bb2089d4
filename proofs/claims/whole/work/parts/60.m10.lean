-- CradleNamesModel.ending(J)J
set_option maxRecDepth 20000 in
set_option maxHeartbeats 4000000 in
theorem gbX12_ending_4 {X : XT} {G : GT} {l : Launch} {d : Nat}  {post : Int64 → St → Prop} (C : Cx X G cX12_ending RX12) (hr : Rt X G (some .long) (fun v τ => ∃ r : Int64, v = some (.long r) ∧ post r τ)) (hR : Rm X l d) (hnl : X.2.2.2.2.2.2.2.2.2.2.1 = 4)  (hd : 3 ≤ d) (hN : 119 ≤ G.2.2.2.2.2)   
    : ∀ (n : Nat) (v0 : Int64) (v2 : Int32) (v3 : Int32) (σ : St), wbX12_ending_4   post n v0 v2 v3 σ → Go X G 4 [(0, .long v0), (2, .int v2), (3, .int v3)] [] σ := by
  intro n
  induction n with
  | zero => intro v0 v2 v3 σ hw; exact hw.elim
  | succ n ih =>
    intro v0 v2 v3 σ hw
    have hw : wpX12_size v0 σ (fun r_1 σ_2 =>
    ((r_1 ≤ v3 →
      post (v0 >>> ((5 * v2).toInt64 &&& 63)) σ_2) ∧
    (¬ r_1 ≤ v3 →
      wpX12_letterAt v0 v3 σ_2 (fun r_3 σ_4 =>
      wpX12_isVowel r_3 σ_4 (fun r_5 σ_6 =>
      ((r_5 = 0 →
        ∀ v3_7 : Int32, v3_7 = v3 + 1 →
        wbX12_ending_4 post n v0 v2 v3_7 σ_6) ∧
      (¬ r_5 = 0 →
        ∀ v3_8 : Int32, v3_8 = v3 + 1 →
        wbX12_ending_4 post n v0 v3 v3_8 σ_6))))))) := hw
    refine go_iload_n C 2 rfl rfl dX12_ending_4 ?_
    refine go_lload_n C 0 rfl rfl dX12_ending_5 ?_
    refine go_callS (as := [.long v0]) C hR cwX12_162 (Nat.le_trans (by decide) hd) (by decide) rfl rfl (Nat.le_of_ble_eq_true rfl) dX12_ending_6 (spX12_size (Nat.le_refl _) hN hw) (fun v_ τ_ hw => ?_)
    obtain ⟨r_1, rfl, hw⟩ := hw
    obtain ⟨σ_2, rfl⟩ : ∃ z, z = τ_ := ⟨_, rfl⟩
    refine go_icmp_ge C 35 rfl dX12_ending_9 (fun hc => ?_) (fun hc => ?_)
    · replace hw := hw.1 hc
      refine go_lload_n C 0 rfl rfl dX12_ending_35 ?_
      refine go_iconst (v := 5) C rfl dX12_ending_36 ?_
      refine go_iload_n C 1 rfl rfl dX12_ending_37 ?_
      refine go_imul C dX12_ending_38 ?_
      refine go_lshr C dX12_ending_39 ?_
      exact go_lret C hr ⟨_, rfl, hw⟩ dX12_ending_40
    · replace hw := hw.2 hc
      refine go_lload_n C 0 rfl rfl dX12_ending_12 ?_
      refine go_iload_n C 2 rfl rfl dX12_ending_13 ?_
      refine go_callS (as := [.long v0, .int v3]) C hR cwX12_158 (Nat.le_trans (by decide) hd) (by decide) rfl rfl (Nat.le_of_ble_eq_true rfl) dX12_ending_14 (spX12_letterAt (Nat.le_refl _) hN hw) (fun v_ τ_ hw => ?_)
      obtain ⟨r_3, rfl, hw⟩ := hw
      obtain ⟨σ_4, rfl⟩ : ∃ z, z = τ_ := ⟨_, rfl⟩
      refine go_callS (as := [.int r_3]) C hR cwX12_166 (Nat.le_trans (by decide) hd) (by decide) rfl rfl (Nat.le_of_ble_eq_true rfl) dX12_ending_17 (spX12_isVowel (Nat.le_refl _) hN hw) (fun v_ τ_ hw => ?_)
      obtain ⟨r_5, rfl, hw⟩ := hw
      obtain ⟨σ_6, rfl⟩ : ∃ z, z = τ_ := ⟨_, rfl⟩
      refine go_if_eq C 27 rfl dX12_ending_20 (fun hc => ?_) (fun hc => ?_)
      · replace hw := hw.1 hc
        refine go_iload_n C 1 rfl rfl dX12_ending_27 ?_
        refine go_istore_n (lv2 := [(2, .int v2), (0, .long v0), (3, .int v3)]) C rfl (by rw [hnl]; decide) rfl dX12_ending_28 ?_
        obtain ⟨v3_7, ev3_7⟩ : ∃ z : Int32, z = v3 + 1 := ⟨_, rfl⟩
        replace hw := hw v3_7 ev3_7
        refine go_iinc (v := v3_7) (lv2 := [(3, .int v3_7), (2, .int v2), (0, .long v0)]) C 2 rfl (by rw [ev3_7]; rfl) (by rw [hnl]; decide) rfl dX12_ending_29 ?_
        refine go_goto C 4 rfl dX12_ending_32 ?_
        refine go_sub [2, 1, 0] rfl ?_
        exact ih _ _ _ _ hw
      · replace hw := hw.2 hc
        refine go_iload_n C 2 rfl rfl dX12_ending_23 ?_
        refine go_goto C 28 rfl dX12_ending_24 ?_
        refine go_istore_n (lv2 := [(2, .int v3), (0, .long v0), (3, .int v3)]) C rfl (by rw [hnl]; decide) rfl dX12_ending_28 ?_
        obtain ⟨v3_8, ev3_8⟩ : ∃ z : Int32, z = v3 + 1 := ⟨_, rfl⟩
        replace hw := hw v3_8 ev3_8
        refine go_iinc (v := v3_8) (lv2 := [(3, .int v3_8), (2, .int v3), (0, .long v0)]) C 2 rfl (by rw [ev3_8]; rfl) (by rw [hnl]; decide) rfl dX12_ending_29 ?_
        refine go_goto C 4 rfl dX12_ending_32 ?_
        refine go_sub [2, 1, 0] rfl ?_
        exact ih _ _ _ _ hw
set_option maxRecDepth 20000 in
set_option maxHeartbeats 4000000 in
theorem spX12_ending {l : Launch} {G : GT} {d : Nat}  (hd : 3 ≤ d)  (hN : 119 ≤ G.2.2.2.2.2)  {a1 : Int64} {σ : St} {post : Int64 → St → Prop} (hw : wpX12_ending  a1 σ post) : Sp l G d yX12_ending cX12_ending 4 (some .long) [.long a1] σ (fun v τ => ∃ r : Int64, v = some (.long r) ∧ post r τ) := by
  refine Sp.of (by decide) (Nat.le_of_ble_eq_true rfl) fun X C hr hR hnl => ?_
  show Go X G 0 [(0, .long a1)] [] σ
  have hw : ∃ m_4, wbX12_ending_4 post m_4 a1 0 0 σ := hw
  refine go_iconst (v := 0) C rfl dX12_ending_0 ?_
  refine go_istore_n (lv2 := [(2, .int 0), (0, .long a1)]) C rfl (by rw [hnl]; decide) rfl dX12_ending_1 ?_
  refine go_iconst (v := 0) C rfl dX12_ending_2 ?_
  refine go_istore_n (lv2 := [(3, .int 0), (2, .int 0), (0, .long a1)]) C rfl (by rw [hnl]; decide) rfl dX12_ending_3 ?_
  refine go_sub [2, 1, 0] rfl ?_
  obtain ⟨n_0, hw⟩ := hw
  exact (gbX12_ending_4 C hr hR hnl hd hN) n_0 _ _ _ _ hw
-- CradleNamesModel.sounds(I)I
set_option maxRecDepth 20000 in
set_option maxHeartbeats 4000000 in
theorem spX12_sounds {l : Launch} {G : GT} {d : Nat}  (hd : 1 ≤ d)  (hN : 119 ≤ G.2.2.2.2.2)  {a1 : Int32} {σ : St} {post : Int32 → St → Prop} (hw : wpX12_sounds  a1 σ post) : Sp l G d yX12_sounds cX12_sounds 1 (some .int) [.int a1] σ (fun v τ => ∃ r : Int32, v = some (.int r) ∧ post r τ) := by
  refine Sp.of (by decide) (Nat.le_of_ble_eq_true rfl) fun X C hr hR hnl => ?_
  show Go X G 0 [(0, .int a1)] [] σ
  have hw : ((a1 = 3 →
    post 7 σ) ∧
  (¬ a1 = 3 →
  ((a1 = 4 →
    post a1 σ) ∧
  (¬ a1 = 4 →
  ((a1 = 5 →
    post 9 σ) ∧
  (¬ a1 = 5 →
  ((a1 = 6 →
    post 2 σ) ∧
  (¬ a1 = 6 →
  ((a1 = 7 →
    post a1 σ) ∧
  (¬ a1 = 7 →
  ((a1 = 8 →
    post a1 σ) ∧
  (¬ a1 = 8 →
  ((a1 = 9 →
    post a1 σ) ∧
  (¬ a1 = 9 →
  ((a1 = 10 →
    post a1 σ) ∧
  (¬ a1 = 10 →
  ((a1 = 11 →
    post 7 σ) ∧
  (¬ a1 = 11 →
  ((a1 = 12 →
    post a1 σ) ∧
  (¬ a1 = 12 →
  ((a1 = 13 →
    post a1 σ) ∧
  (¬ a1 = 13 →
  ((a1 = 14 →
    post 13 σ) ∧
  (¬ a1 = 14 →
  ((a1 = 15 →
    post a1 σ) ∧
  (¬ a1 = 15 →
  ((a1 = 16 →
    post 2 σ) ∧
  (¬ a1 = 16 →
  ((a1 = 17 →
    post 7 σ) ∧
  (¬ a1 = 17 →
  ((a1 = 18 →
    post a1 σ) ∧
  (¬ a1 = 18 →
  ((a1 = 19 →
    post a1 σ) ∧
  (¬ a1 = 19 →
  ((a1 = 20 →
    post 4 σ) ∧
  (¬ a1 = 20 →
  ((a1 = 21 →
    post 15 σ) ∧
  (¬ a1 = 21 →
  ((a1 = 22 →
    post 2 σ) ∧
  (¬ a1 = 22 →
  ((a1 = 23 →
    post 15 σ) ∧
  (¬ a1 = 23 →
  ((a1 = 24 →
    post 19 σ) ∧
  (¬ a1 = 24 →
  ((a1 = 25 →
    post 9 σ) ∧
  (¬ a1 = 25 →
  ((a1 = 26 →
    post 19 σ) ∧
  (¬ a1 = 26 →
  post a1 σ)))))))))))))))))))))))))))))))))))))))))))))))) := hw
  refine go_iload_n C 0 rfl rfl dX12_sounds_0 ?_
  by_cases hc0 : a1 = 3
  · replace hw := hw.1 hc0
    refine go_tableIn C 116 (by rw [hc0]; decide) (by rw [hc0]; decide) (by rw [hc0]; rfl) rfl dX12_sounds_1 ?_
    refine go_bipush (v := 7) C rfl dX12_sounds_116 ?_
    exact go_iret C hr ⟨_, rfl, hw⟩ dX12_sounds_118
  replace hw := hw.2 hc0
  by_cases hc1 : a1 = 4
  · replace hw := hw.1 hc1
    refine go_tableIn C 131 (by rw [hc1]; decide) (by rw [hc1]; decide) (by rw [hc1]; rfl) rfl dX12_sounds_1 ?_
    refine go_iload_n C 0 rfl rfl dX12_sounds_131 ?_
    exact go_iret C hr ⟨_, rfl, hw⟩ dX12_sounds_132
  replace hw := hw.2 hc1
  by_cases hc2 : a1 = 5
  · replace hw := hw.1 hc2
    refine go_tableIn C 125 (by rw [hc2]; decide) (by rw [hc2]; decide) (by rw [hc2]; rfl) rfl dX12_sounds_1 ?_
    refine go_bipush (v := 9) C rfl dX12_sounds_125 ?_
    exact go_iret C hr ⟨_, rfl, hw⟩ dX12_sounds_127
  replace hw := hw.2 hc2
  by_cases hc3 : a1 = 6
  · replace hw := hw.1 hc3
    refine go_tableIn C 112 (by rw [hc3]; decide) (by rw [hc3]; decide) (by rw [hc3]; rfl) rfl dX12_sounds_1 ?_
    refine go_iconst (v := 2) C rfl dX12_sounds_112 ?_
    exact go_iret C hr ⟨_, rfl, hw⟩ dX12_sounds_113
  replace hw := hw.2 hc3
  by_cases hc4 : a1 = 7
  · replace hw := hw.1 hc4
    refine go_tableIn C 131 (by rw [hc4]; decide) (by rw [hc4]; decide) (by rw [hc4]; rfl) rfl dX12_sounds_1 ?_
    refine go_iload_n C 0 rfl rfl dX12_sounds_131 ?_
    exact go_iret C hr ⟨_, rfl, hw⟩ dX12_sounds_132
  replace hw := hw.2 hc4
  by_cases hc5 : a1 = 8
  · replace hw := hw.1 hc5
    refine go_tableIn C 131 (by rw [hc5]; decide) (by rw [hc5]; decide) (by rw [hc5]; rfl) rfl dX12_sounds_1 ?_
    refine go_iload_n C 0 rfl rfl dX12_sounds_131 ?_
    exact go_iret C hr ⟨_, rfl, hw⟩ dX12_sounds_132
  replace hw := hw.2 hc5
  by_cases hc6 : a1 = 9
  · replace hw := hw.1 hc6
    refine go_tableIn C 131 (by rw [hc6]; decide) (by rw [hc6]; decide) (by rw [hc6]; rfl) rfl dX12_sounds_1 ?_
    refine go_iload_n C 0 rfl rfl dX12_sounds_131 ?_
    exact go_iret C hr ⟨_, rfl, hw⟩ dX12_sounds_132
  replace hw := hw.2 hc6
  by_cases hc7 : a1 = 10
  · replace hw := hw.1 hc7
    refine go_tableIn C 131 (by rw [hc7]; decide) (by rw [hc7]; decide) (by rw [hc7]; rfl) rfl dX12_sounds_1 ?_
    refine go_iload_n C 0 rfl rfl dX12_sounds_131 ?_
    exact go_iret C hr ⟨_, rfl, hw⟩ dX12_sounds_132
  replace hw := hw.2 hc7
  by_cases hc8 : a1 = 11
  · replace hw := hw.1 hc8
    refine go_tableIn C 116 (by rw [hc8]; decide) (by rw [hc8]; decide) (by rw [hc8]; rfl) rfl dX12_sounds_1 ?_
    refine go_bipush (v := 7) C rfl dX12_sounds_116 ?_
    exact go_iret C hr ⟨_, rfl, hw⟩ dX12_sounds_118
  replace hw := hw.2 hc8
  by_cases hc9 : a1 = 12
  · replace hw := hw.1 hc9
    refine go_tableIn C 131 (by rw [hc9]; decide) (by rw [hc9]; decide) (by rw [hc9]; rfl) rfl dX12_sounds_1 ?_
    refine go_iload_n C 0 rfl rfl dX12_sounds_131 ?_
    exact go_iret C hr ⟨_, rfl, hw⟩ dX12_sounds_132
  replace hw := hw.2 hc9
  by_cases hc10 : a1 = 13
  · replace hw := hw.1 hc10
    refine go_tableIn C 131 (by rw [hc10]; decide) (by rw [hc10]; decide) (by rw [hc10]; rfl) rfl dX12_sounds_1 ?_
    refine go_iload_n C 0 rfl rfl dX12_sounds_131 ?_
    exact go_iret C hr ⟨_, rfl, hw⟩ dX12_sounds_132
  replace hw := hw.2 hc10
  by_cases hc11 : a1 = 14
  · replace hw := hw.1 hc11
    refine go_tableIn C 122 (by rw [hc11]; decide) (by rw [hc11]; decide) (by rw [hc11]; rfl) rfl dX12_sounds_1 ?_
    refine go_bipush (v := 13) C rfl dX12_sounds_122 ?_
    exact go_iret C hr ⟨_, rfl, hw⟩ dX12_sounds_124
  replace hw := hw.2 hc11
  by_cases hc12 : a1 = 15
  · replace hw := hw.1 hc12
    refine go_tableIn C 131 (by rw [hc12]; decide) (by rw [hc12]; decide) (by rw [hc12]; rfl) rfl dX12_sounds_1 ?_
    refine go_iload_n C 0 rfl rfl dX12_sounds_131 ?_
    exact go_iret C hr ⟨_, rfl, hw⟩ dX12_sounds_132
  replace hw := hw.2 hc12
  by_cases hc13 : a1 = 16
  · replace hw := hw.1 hc13
    refine go_tableIn C 112 (by rw [hc13]; decide) (by rw [hc13]; decide) (by rw [hc13]; rfl) rfl dX12_sounds_1 ?_
    refine go_iconst (v := 2) C rfl dX12_sounds_112 ?_
    exact go_iret C hr ⟨_, rfl, hw⟩ dX12_sounds_113
  replace hw := hw.2 hc13
  by_cases hc14 : a1 = 17
  · replace hw := hw.1 hc14
    refine go_tableIn C 116 (by rw [hc14]; decide) (by rw [hc14]; decide) (by rw [hc14]; rfl) rfl dX12_sounds_1 ?_
    refine go_bipush (v := 7) C rfl dX12_sounds_116 ?_
    exact go_iret C hr ⟨_, rfl, hw⟩ dX12_sounds_118
  replace hw := hw.2 hc14
  by_cases hc15 : a1 = 18
  · replace hw := hw.1 hc15
    refine go_tableIn C 131 (by rw [hc15]; decide) (by rw [hc15]; decide) (by rw [hc15]; rfl) rfl dX12_sounds_1 ?_
    refine go_iload_n C 0 rfl rfl dX12_sounds_131 ?_
    exact go_iret C hr ⟨_, rfl, hw⟩ dX12_sounds_132
  replace hw := hw.2 hc15
  by_cases hc16 : a1 = 19
  · replace hw := hw.1 hc16
    refine go_tableIn C 131 (by rw [hc16]; decide) (by rw [hc16]; decide) (by rw [hc16]; rfl) rfl dX12_sounds_1 ?_
    refine go_iload_n C 0 rfl rfl dX12_sounds_131 ?_
    exact go_iret C hr ⟨_, rfl, hw⟩ dX12_sounds_132
  replace hw := hw.2 hc16
  by_cases hc17 : a1 = 20
  · replace hw := hw.1 hc17
    refine go_tableIn C 114 (by rw [hc17]; decide) (by rw [hc17]; decide) (by rw [hc17]; rfl) rfl dX12_sounds_1 ?_
    refine go_iconst (v := 4) C rfl dX12_sounds_114 ?_
    exact go_iret C hr ⟨_, rfl, hw⟩ dX12_sounds_115
  replace hw := hw.2 hc17
  by_cases hc18 : a1 = 21
  · replace hw := hw.1 hc18
    refine go_tableIn C 128 (by rw [hc18]; decide) (by rw [hc18]; decide) (by rw [hc18]; rfl) rfl dX12_sounds_1 ?_
    refine go_bipush (v := 15) C rfl dX12_sounds_128 ?_
    exact go_iret C hr ⟨_, rfl, hw⟩ dX12_sounds_130
  replace hw := hw.2 hc18
  by_cases hc19 : a1 = 22
  · replace hw := hw.1 hc19
    refine go_tableIn C 112 (by rw [hc19]; decide) (by rw [hc19]; decide) (by rw [hc19]; rfl) rfl dX12_sounds_1 ?_
    refine go_iconst (v := 2) C rfl dX12_sounds_112 ?_
    exact go_iret C hr ⟨_, rfl, hw⟩ dX12_sounds_113
  replace hw := hw.2 hc19
  by_cases hc20 : a1 = 23
  · replace hw := hw.1 hc20
    refine go_tableIn C 128 (by rw [hc20]; decide) (by rw [hc20]; decide) (by rw [hc20]; rfl) rfl dX12_sounds_1 ?_
    refine go_bipush (v := 15) C rfl dX12_sounds_128 ?_
    exact go_iret C hr ⟨_, rfl, hw⟩ dX12_sounds_130
  replace hw := hw.2 hc20
  by_cases hc21 : a1 = 24
  · replace hw := hw.1 hc21
    refine go_tableIn C 119 (by rw [hc21]; decide) (by rw [hc21]; decide) (by rw [hc21]; rfl) rfl dX12_sounds_1 ?_
    refine go_bipush (v := 19) C rfl dX12_sounds_119 ?_
    exact go_iret C hr ⟨_, rfl, hw⟩ dX12_sounds_121
  replace hw := hw.2 hc21
  by_cases hc22 : a1 = 25
  · replace hw := hw.1 hc22
    refine go_tableIn C 125 (by rw [hc22]; decide) (by rw [hc22]; decide) (by rw [hc22]; rfl) rfl dX12_sounds_1 ?_
    refine go_bipush (v := 9) C rfl dX12_sounds_125 ?_
    exact go_iret C hr ⟨_, rfl, hw⟩ dX12_sounds_127
  replace hw := hw.2 hc22
  by_cases hc23 : a1 = 26
  · replace hw := hw.1 hc23
    refine go_tableIn C 119 (by rw [hc23]; decide) (by rw [hc23]; decide) (by rw [hc23]; rfl) rfl dX12_sounds_1 ?_
    refine go_bipush (v := 19) C rfl dX12_sounds_119 ?_
    exact go_iret C hr ⟨_, rfl, hw⟩ dX12_sounds_121
  replace hw := hw.2 hc23
  refine go_tableOut C 131 (by have g0 := lv_neT hc0 (show (3 : Int32).toInt = 3 from rfl); have g1 := lv_neT hc1 (show (4 : Int32).toInt = 4 from rfl); have g2 := lv_neT hc2 (show (5 : Int32).toInt = 5 from rfl); have g3 := lv_neT hc3 (show (6 : Int32).toInt = 6 from rfl); have g4 := lv_neT hc4 (show (7 : Int32).toInt = 7 from rfl); have g5 := lv_neT hc5 (show (8 : Int32).toInt = 8 from rfl); have g6 := lv_neT hc6 (show (9 : Int32).toInt = 9 from rfl); have g7 := lv_neT hc7 (show (10 : Int32).toInt = 10 from rfl); have g8 := lv_neT hc8 (show (11 : Int32).toInt = 11 from rfl); have g9 := lv_neT hc9 (show (12 : Int32).toInt = 12 from rfl); have g10 := lv_neT hc10 (show (13 : Int32).toInt = 13 from rfl); have g11 := lv_neT hc11 (show (14 : Int32).toInt = 14 from rfl); have g12 := lv_neT hc12 (show (15 : Int32).toInt = 15 from rfl); have g13 := lv_neT hc13 (show (16 : Int32).toInt = 16 from rfl); have g14 := lv_neT hc14 (show (17 : Int32).toInt = 17 from rfl); have g15 := lv_neT hc15 (show (18 : Int32).toInt = 18 from rfl); have g16 := lv_neT hc16 (show (19 : Int32).toInt = 19 from rfl); have g17 := lv_neT hc17 (show (20 : Int32).toInt = 20 from rfl); have g18 := lv_neT hc18 (show (21 : Int32).toInt = 21 from rfl); have g19 := lv_neT hc19 (show (22 : Int32).toInt = 22 from rfl); have g20 := lv_neT hc20 (show (23 : Int32).toInt = 23 from rfl); have g21 := lv_neT hc21 (show (24 : Int32).toInt = 24 from rfl); have g22 := lv_neT hc22 (show (25 : Int32).toInt = 25 from rfl); have g23 := lv_neT hc23 (show (26 : Int32).toInt = 26 from rfl); omega) rfl dX12_sounds_1 ?_
  refine go_iload_n C 0 rfl rfl dX12_sounds_131 ?_
  exact go_iret C hr ⟨_, rfl, hw⟩ dX12_sounds_132
-- CradleNamesModel.soundsOf(J)J
set_option maxRecDepth 20000 in
set_option maxHeartbeats 4000000 in
theorem gbX12_soundsOf_11 {X : XT} {G : GT} {l : Launch} {d : Nat}  {post : Int64 → St → Prop} (C : Cx X G cX12_soundsOf RX12) (hr : Rt X G (some .long) (fun v τ => ∃ r : Int64, v = some (.long r) ∧ post r τ)) (hR : Rm X l d) (hnl : X.2.2.2.2.2.2.2.2.2.2.1 = 8)  (hd : 3 ≤ d) (hN : 119 ≤ G.2.2.2.2.2)   
    : ∀ (n : Nat) (v0 : Int64) (v2 : Int64) (v4 : Int32) (v5 : Int32) (v6 : Int32) (σ : St), wbX12_soundsOf_11   post n v0 v2 v4 v5 v6 σ → Go X G 11 [(0, .long v0), (2, .long v2), (4, .int v4), (5, .int v5), (6, .int v6)] [] σ := by
  intro n
  induction n with
  | zero => intro v0 v2 v4 v5 v6 σ hw; exact hw.elim
  | succ n ih =>
    intro v0 v2 v4 v5 v6 σ hw
    have hw : wpX12_size v0 σ (fun r_1 σ_2 =>
    ((r_1 ≤ v6 →
      post v2 σ_2) ∧
    (¬ r_1 ≤ v6 →
      wpX12_letterAt v0 v6 σ_2 (fun r_3 σ_4 =>
      wpX12_sounds r_3 σ_4 (fun r_5 σ_6 =>
      ((r_5 = v5 →
        ∀ v6_7 : Int32, v6_7 = v6 + 1 →
        wbX12_soundsOf_11 post n v0 v2 v4 r_5 v6_7 σ_6) ∧
      (¬ r_5 = v5 →
        ∀ v2_8 : Int64, v2_8 = (v2 ||| (r_5.toInt64 <<< ((5 * v4).toInt64 &&& 63))) →
        ∀ v4_9 : Int32, v4_9 = v4 + 1 →
        ∀ v6_10 : Int32, v6_10 = v6 + 1 →
        wbX12_soundsOf_11 post n v0 v2_8 v4_9 r_5 v6_10 σ_6))))))) := hw
    refine go_iload C 4 rfl dX12_soundsOf_11 ?_
    refine go_lload_n C 0 rfl rfl dX12_soundsOf_13 ?_
    refine go_callS (as := [.long v0]) C hR cwX12_162 (Nat.le_trans (by decide) hd) (by decide) rfl rfl (Nat.le_of_ble_eq_true rfl) dX12_soundsOf_14 (spX12_size (Nat.le_refl _) hN hw) (fun v_ τ_ hw => ?_)
    obtain ⟨r_1, rfl, hw⟩ := hw
    obtain ⟨σ_2, rfl⟩ : ∃ z, z = τ_ := ⟨_, rfl⟩
    refine go_icmp_ge C 62 rfl dX12_soundsOf_17 (fun hc => ?_) (fun hc => ?_)
    · replace hw := hw.1 hc
      refine go_lload_n C 1 rfl rfl dX12_soundsOf_62 ?_
      exact go_lret C hr ⟨_, rfl, hw⟩ dX12_soundsOf_63
    · replace hw := hw.2 hc
      refine go_lload_n C 0 rfl rfl dX12_soundsOf_20 ?_
      refine go_iload C 4 rfl dX12_soundsOf_21 ?_
      refine go_callS (as := [.long v0, .int v6]) C hR cwX12_158 (Nat.le_trans (by decide) hd) (by decide) rfl rfl (Nat.le_of_ble_eq_true rfl) dX12_soundsOf_23 (spX12_letterAt (Nat.le_refl _) hN hw) (fun v_ τ_ hw => ?_)
      obtain ⟨r_3, rfl, hw⟩ := hw
      obtain ⟨σ_4, rfl⟩ : ∃ z, z = τ_ := ⟨_, rfl⟩
      refine go_callS (as := [.int r_3]) C hR cwX12_170 (Nat.le_trans (by decide) hd) (by decide) rfl rfl (Nat.le_of_ble_eq_true rfl) dX12_soundsOf_26 (spX12_sounds (Nat.le_refl _) hN hw) (fun v_ τ_ hw => ?_)
      obtain ⟨r_5, rfl, hw⟩ := hw
      obtain ⟨σ_6, rfl⟩ : ∃ z, z = τ_ := ⟨_, rfl⟩
      refine go_istore (lv2 := [(7, .int r_5), (0, .long v0), (2, .long v2), (4, .int v4), (5, .int v5), (6, .int v6)]) C (by rw [hnl]; decide) rfl dX12_soundsOf_29 ?_
      refine go_iload C 0 rfl dX12_soundsOf_31 ?_
      refine go_iload C 4 rfl dX12_soundsOf_33 ?_
      refine go_icmp_eq C 52 rfl dX12_soundsOf_35 (fun hc => ?_) (fun hc => ?_)
      · replace hw := hw.1 hc
        refine go_iload C 0 rfl dX12_soundsOf_52 ?_
        refine go_istore (lv2 := [(5, .int r_5), (7, .int r_5), (0, .long v0), (2, .long v2), (4, .int v4), (6, .int v6)]) C (by rw [hnl]; decide) rfl dX12_soundsOf_54 ?_
        obtain ⟨v6_7, ev6_7⟩ : ∃ z : Int32, z = v6 + 1 := ⟨_, rfl⟩
        replace hw := hw v6_7 ev6_7
        refine go_iinc (v := v6_7) (lv2 := [(6, .int v6_7), (5, .int r_5), (7, .int r_5), (0, .long v0), (2, .long v2), (4, .int v4)]) C 5 rfl (by rw [ev6_7]; rfl) (by rw [hnl]; decide) rfl dX12_soundsOf_56 ?_
        refine go_goto C 11 rfl dX12_soundsOf_59 ?_
        refine go_sub [3, 4, 5, 1, 0] rfl ?_
        exact ih _ _ _ _ _ _ hw
      · replace hw := hw.2 hc
        refine go_lload_n C 2 rfl rfl dX12_soundsOf_38 ?_
        refine go_iload C 0 rfl dX12_soundsOf_39 ?_
        refine go_i2l C dX12_soundsOf_41 ?_
        refine go_iconst (v := 5) C rfl dX12_soundsOf_42 ?_
        refine go_iload C 3 rfl dX12_soundsOf_43 ?_
        refine go_imul C dX12_soundsOf_45 ?_
        refine go_lshl C dX12_soundsOf_46 ?_
        refine go_lor C dX12_soundsOf_47 ?_
        refine go_topl (fun v2_8 ev2_8 => ?_)
        replace hw := hw v2_8 ev2_8
        refine go_lstore_n (lv2 := [(2, .long v2_8), (7, .int r_5), (0, .long v0), (4, .int v4), (5, .int v5), (6, .int v6)]) C rfl (by rw [hnl]; decide) rfl dX12_soundsOf_48 ?_
        obtain ⟨v4_9, ev4_9⟩ : ∃ z : Int32, z = v4 + 1 := ⟨_, rfl⟩
        replace hw := hw v4_9 ev4_9
        refine go_iinc (v := v4_9) (lv2 := [(4, .int v4_9), (2, .long v2_8), (7, .int r_5), (0, .long v0), (5, .int v5), (6, .int v6)]) C 3 rfl (by rw [ev4_9]; rfl) (by rw [hnl]; decide) rfl dX12_soundsOf_49 ?_
        refine go_iload C 2 rfl dX12_soundsOf_52 ?_
        refine go_istore (lv2 := [(5, .int r_5), (4, .int v4_9), (2, .long v2_8), (7, .int r_5), (0, .long v0), (6, .int v6)]) C (by rw [hnl]; decide) rfl dX12_soundsOf_54 ?_
        obtain ⟨v6_10, ev6_10⟩ : ∃ z : Int32, z = v6 + 1 := ⟨_, rfl⟩
        replace hw := hw v6_10 ev6_10
        refine go_iinc (v := v6_10) (lv2 := [(6, .int v6_10), (5, .int r_5), (4, .int v4_9), (2, .long v2_8), (7, .int r_5), (0, .long v0)]) C 5 rfl (by rw [ev6_10]; rfl) (by rw [hnl]; decide) rfl dX12_soundsOf_56 ?_
        refine go_goto C 11 rfl dX12_soundsOf_59 ?_
        refine go_sub [5, 3, 2, 1, 0] rfl ?_
        exact ih _ _ _ _ _ _ hw
set_option maxRecDepth 20000 in
set_option maxHeartbeats 4000000 in
theorem spX12_soundsOf {l : Launch} {G : GT} {d : Nat}  (hd : 3 ≤ d)  (hN : 119 ≤ G.2.2.2.2.2)  {a1 : Int64} {σ : St} {post : Int64 → St → Prop} (hw : wpX12_soundsOf  a1 σ post) : Sp l G d yX12_soundsOf cX12_soundsOf 8 (some .long) [.long a1] σ (fun v τ => ∃ r : Int64, v = some (.long r) ∧ post r τ) := by
  refine Sp.of (by decide) (Nat.le_of_ble_eq_true rfl) fun X C hr hR hnl => ?_
  show Go X G 0 [(0, .long a1)] [] σ
  have hw : ∃ m_11, wbX12_soundsOf_11 post m_11 a1 0 0 0 0 σ := hw
  refine go_lconst (v := 0) C rfl dX12_soundsOf_0 ?_
  refine go_lstore_n (lv2 := [(2, .long 0), (0, .long a1)]) C rfl (by rw [hnl]; decide) rfl dX12_soundsOf_1 ?_
  refine go_iconst (v := 0) C rfl dX12_soundsOf_2 ?_
  refine go_istore (lv2 := [(4, .int 0), (2, .long 0), (0, .long a1)]) C (by rw [hnl]; decide) rfl dX12_soundsOf_3 ?_
  refine go_iconst (v := 0) C rfl dX12_soundsOf_5 ?_
  refine go_istore (lv2 := [(5, .int 0), (4, .int 0), (2, .long 0), (0, .long a1)]) C (by rw [hnl]; decide) rfl dX12_soundsOf_6 ?_
  refine go_iconst (v := 0) C rfl dX12_soundsOf_8 ?_
  refine go_istore (lv2 := [(6, .int 0), (5, .int 0), (4, .int 0), (2, .long 0), (0, .long a1)]) C (by rw [hnl]; decide) rfl dX12_soundsOf_9 ?_
  refine go_sub [4, 3, 2, 1, 0] rfl ?_
  obtain ⟨n_0, hw⟩ := hw
  exact (gbX12_soundsOf_11 C hr hR hnl hd hN) n_0 _ _ _ _ _ _ hw
-- CradleNamesModel.without(JI)J
set_option maxRecDepth 20000 in
set_option maxHeartbeats 4000000 in
theorem spX12_without {l : Launch} {G : GT} {d : Nat}  (hd : 1 ≤ d)  (hN : 119 ≤ G.2.2.2.2.2)  {a1 : Int64} {a2 : Int32} {σ : St} {post : Int64 → St → Prop} (hw : wpX12_without  a1 a2 σ post) : Sp l G d yX12_without cX12_without 3 (some .long) [.long a1, .int a2] σ (fun v τ => ∃ r : Int64, v = some (.long r) ∧ post r τ) := by
  refine Sp.of (by decide) (Nat.le_of_ble_eq_true rfl) fun X C hr hR hnl => ?_
  show Go X G 0 [(0, .long a1), (2, .int a2)] [] σ
  have hw : post ((a1 &&& ((1 <<< ((5 * a2).toInt64 &&& 63)) - 1)) ||| ((a1 >>> (((5 * a2) + 5).toInt64 &&& 63)) <<< ((5 * a2).toInt64 &&& 63))) σ := hw
  refine go_lload_n C 0 rfl rfl dX12_without_0 ?_
  refine go_lconst (v := 1) C rfl dX12_without_1 ?_
  refine go_iconst (v := 5) C rfl dX12_without_2 ?_
  refine go_iload_n C 1 rfl rfl dX12_without_3 ?_
  refine go_imul C dX12_without_4 ?_
  refine go_lshl C dX12_without_5 ?_
  refine go_lconst (v := 1) C rfl dX12_without_6 ?_
  refine go_lsub C dX12_without_7 ?_
  refine go_land C dX12_without_8 ?_
  refine go_lload_n C 0 rfl rfl dX12_without_9 ?_
  refine go_iconst (v := 5) C rfl dX12_without_10 ?_
  refine go_iload_n C 1 rfl rfl dX12_without_11 ?_
  refine go_imul C dX12_without_12 ?_
  refine go_iconst (v := 5) C rfl dX12_without_13 ?_
  refine go_iadd C dX12_without_14 ?_
  refine go_lshr C dX12_without_15 ?_
  refine go_iconst (v := 5) C rfl dX12_without_16 ?_
  refine go_iload_n C 1 rfl rfl dX12_without_17 ?_
  refine go_imul C dX12_without_18 ?_
  refine go_lshl C dX12_without_19 ?_
  refine go_lor C dX12_without_20 ?_
  exact go_lret C hr ⟨_, rfl, hw⟩ dX12_without_21
-- CradleNamesModel.areAlike(JJ)Z
set_option maxRecDepth 20000 in
set_option maxHeartbeats 4000000 in
theorem gbX12_areAlike_134 {X : XT} {G : GT} {l : Launch} {d : Nat}  {post : Int32 → St → Prop} (C : Cx X G cX12_areAlike RX12) (hr : Rt X G (some .boolean) (fun v τ => ∃ r : Int32, v = some (.int r) ∧ post r τ)) (hR : Rm X l d) (hnl : X.2.2.2.2.2.2.2.2.2.2.1 = 12)  (hd : 4 ≤ d) (hN : 119 ≤ G.2.2.2.2.2)  {K44 : Int64 → Int64 → Int32 → Int32 → Int32 → Int32 → St → Prop} (hK44 : ∀ (v4 : Int64) (v6 : Int64) (v8 : Int32) (v9 : Int32) (v10 : Int32) (v11 : Int32) (σ : St), K44 v4 v6 v8 v9 v10 v11 σ → Go X G 44 [(4, .long v4), (6, .long v6), (8, .int v8), (9, .int v9), (10, .int v10), (11, .int v11)] [] σ)
    : ∀ (v4 : Int64) (v6 : Int64) (v8 : Int32) (v9 : Int32) (v11 : Int32) (s0 : Int32) (σ : St), wbX12_areAlike_134  K44 post v4 v6 v8 v9 v11 s0 σ → Go X G 134 [(4, .long v4), (6, .long v6), (8, .int v8), (9, .int v9), (11, .int v11)] [.int s0] σ := by
  intro v4 v6 v8 v9 v11 s0 σ hw
  have hw : ((¬ s0 = 0 →
    ∀ v11_1 : Int32, v11_1 = v11 + 1 →
    K44 v4 v6 v8 v9 1 v11_1 σ) ∧
  (s0 = 0 →
    ((¬ v9 = (v8 + 1) →
      ∀ v11_2 : Int32, v11_2 = v11 + 1 →
      K44 v4 v6 v8 v9 0 v11_2 σ) ∧
    (v9 = (v8 + 1) →
      ((v9 ≤ v11 →
        ∀ v11_3 : Int32, v11_3 = v11 + 1 →
        K44 v4 v6 v8 v9 0 v11_3 σ) ∧
      (¬ v9 ≤ v11 →
        wpX12_without v6 v11 σ (fun r_4 σ_5 =>
        ((¬ r_4 = v4 →
          ∀ v11_6 : Int32, v11_6 = v11 + 1 →
          K44 v4 v6 v8 v9 0 v11_6 σ_5) ∧
        (r_4 = v4 →
          ∀ v11_7 : Int32, v11_7 = v11 + 1 →
          K44 v4 v6 v8 v9 1 v11_7 σ_5))))))))) := hw
  refine go_istore (lv2 := [(10, .int s0), (4, .long v4), (6, .long v6), (8, .int v8), (9, .int v9), (11, .int v11)]) C (by rw [hnl]; decide) rfl dX12_areAlike_134 ?_
  refine go_iload C 0 rfl dX12_areAlike_136 ?_
  refine go_if_ne C 170 rfl dX12_areAlike_138 (fun hc => ?_) (fun hc => ?_)
  · replace hw := hw.1 hc
    refine go_iconst (v := 1) C rfl dX12_areAlike_170 ?_
    refine go_goto C 175 rfl dX12_areAlike_171 ?_
    refine go_istore (lv2 := [(10, .int 1), (4, .long v4), (6, .long v6), (8, .int v8), (9, .int v9), (11, .int v11)]) C (by rw [hnl]; decide) rfl dX12_areAlike_175 ?_
    obtain ⟨v11_1, ev11_1⟩ : ∃ z : Int32, z = v11 + 1 := ⟨_, rfl⟩
    replace hw := hw v11_1 ev11_1
    refine go_iinc (v := v11_1) (lv2 := [(11, .int v11_1), (10, .int 1), (4, .long v4), (6, .long v6), (8, .int v8), (9, .int v9)]) C 5 rfl (by rw [ev11_1]; rfl) (by rw [hnl]; decide) rfl dX12_areAlike_177 ?_
    refine go_goto C 44 rfl dX12_areAlike_180 ?_
    refine go_sub [2, 3, 4, 5, 1, 0] rfl ?_
    exact hK44 _ _ _ _ _ _ _ hw
  · replace hw := hw.2 hc
    refine go_iload C 4 rfl dX12_areAlike_141 ?_
    refine go_iload C 3 rfl dX12_areAlike_143 ?_
    refine go_iconst (v := 1) C rfl dX12_areAlike_145 ?_
    refine go_iadd C dX12_areAlike_146 ?_
    refine go_icmp_ne C 174 rfl dX12_areAlike_147 (fun hc => ?_) (fun hc => ?_)
    · replace hw := hw.1 hc
      refine go_iconst (v := 0) C rfl dX12_areAlike_174 ?_
      refine go_istore (lv2 := [(10, .int 0), (4, .long v4), (6, .long v6), (8, .int v8), (9, .int v9), (11, .int v11)]) C (by rw [hnl]; decide) rfl dX12_areAlike_175 ?_
      obtain ⟨v11_2, ev11_2⟩ : ∃ z : Int32, z = v11 + 1 := ⟨_, rfl⟩
      replace hw := hw v11_2 ev11_2
      refine go_iinc (v := v11_2) (lv2 := [(11, .int v11_2), (10, .int 0), (4, .long v4), (6, .long v6), (8, .int v8), (9, .int v9)]) C 5 rfl (by rw [ev11_2]; rfl) (by rw [hnl]; decide) rfl dX12_areAlike_177 ?_
      refine go_goto C 44 rfl dX12_areAlike_180 ?_
      refine go_sub [2, 3, 4, 5, 1, 0] rfl ?_
      exact hK44 _ _ _ _ _ _ _ hw
    · replace hw := hw.2 hc
      refine go_iload C 5 rfl dX12_areAlike_150 ?_
      refine go_iload C 4 rfl dX12_areAlike_152 ?_
      refine go_icmp_ge C 174 rfl dX12_areAlike_154 (fun hc => ?_) (fun hc => ?_)
      · replace hw := hw.1 hc
        refine go_iconst (v := 0) C rfl dX12_areAlike_174 ?_
        refine go_istore (lv2 := [(10, .int 0), (4, .long v4), (6, .long v6), (8, .int v8), (9, .int v9), (11, .int v11)]) C (by rw [hnl]; decide) rfl dX12_areAlike_175 ?_
        obtain ⟨v11_3, ev11_3⟩ : ∃ z : Int32, z = v11 + 1 := ⟨_, rfl⟩
        replace hw := hw v11_3 ev11_3
        refine go_iinc (v := v11_3) (lv2 := [(11, .int v11_3), (10, .int 0), (4, .long v4), (6, .long v6), (8, .int v8), (9, .int v9)]) C 5 rfl (by rw [ev11_3]; rfl) (by rw [hnl]; decide) rfl dX12_areAlike_177 ?_
        refine go_goto C 44 rfl dX12_areAlike_180 ?_
        refine go_sub [2, 3, 4, 5, 1, 0] rfl ?_
        exact hK44 _ _ _ _ _ _ _ hw
      · replace hw := hw.2 hc
        refine go_lload C 2 rfl dX12_areAlike_157 ?_
        refine go_iload C 5 rfl dX12_areAlike_159 ?_
        refine go_callS (as := [.long v6, .int v11]) C hR cwX12_178 (Nat.le_trans (by decide) hd) (by decide) rfl rfl (Nat.le_of_ble_eq_true rfl) dX12_areAlike_161 (spX12_without (Nat.le_refl _) hN hw) (fun v_ τ_ hw => ?_)
        obtain ⟨r_4, rfl, hw⟩ := hw
        obtain ⟨σ_5, rfl⟩ : ∃ z, z = τ_ := ⟨_, rfl⟩
        refine go_lload C 1 rfl dX12_areAlike_164 ?_
        refine go_lc_ne C 174 rfl dX12_areAlike_166 dX12_areAlike_167 (fun hc => ?_) (fun hc => ?_)
        · replace hw := hw.1 hc
          refine go_iconst (v := 0) C rfl dX12_areAlike_174 ?_
          refine go_istore (lv2 := [(10, .int 0), (4, .long v4), (6, .long v6), (8, .int v8), (9, .int v9), (11, .int v11)]) C (by rw [hnl]; decide) rfl dX12_areAlike_175 ?_
          obtain ⟨v11_6, ev11_6⟩ : ∃ z : Int32, z = v11 + 1 := ⟨_, rfl⟩
          replace hw := hw v11_6 ev11_6
          refine go_iinc (v := v11_6) (lv2 := [(11, .int v11_6), (10, .int 0), (4, .long v4), (6, .long v6), (8, .int v8), (9, .int v9)]) C 5 rfl (by rw [ev11_6]; rfl) (by rw [hnl]; decide) rfl dX12_areAlike_177 ?_
          refine go_goto C 44 rfl dX12_areAlike_180 ?_
          refine go_sub [2, 3, 4, 5, 1, 0] rfl ?_
          exact hK44 _ _ _ _ _ _ _ hw
        · replace hw := hw.2 hc
          refine go_iconst (v := 1) C rfl dX12_areAlike_170 ?_
          refine go_goto C 175 rfl dX12_areAlike_171 ?_
          refine go_istore (lv2 := [(10, .int 1), (4, .long v4), (6, .long v6), (8, .int v8), (9, .int v9), (11, .int v11)]) C (by rw [hnl]; decide) rfl dX12_areAlike_175 ?_
          obtain ⟨v11_7, ev11_7⟩ : ∃ z : Int32, z = v11 + 1 := ⟨_, rfl⟩
          replace hw := hw v11_7 ev11_7
          refine go_iinc (v := v11_7) (lv2 := [(11, .int v11_7), (10, .int 1), (4, .long v4), (6, .long v6), (8, .int v8), (9, .int v9)]) C 5 rfl (by rw [ev11_7]; rfl) (by rw [hnl]; decide) rfl dX12_areAlike_177 ?_
          refine go_goto C 44 rfl dX12_areAlike_180 ?_
          refine go_sub [2, 3, 4, 5, 1, 0] rfl ?_
          exact hK44 _ _ _ _ _ _ _ hw
set_option maxRecDepth 20000 in
set_option maxHeartbeats 4000000 in
theorem gbX12_areAlike_93 {X : XT} {G : GT} {l : Launch} {d : Nat}  {post : Int32 → St → Prop} (C : Cx X G cX12_areAlike RX12) (hr : Rt X G (some .boolean) (fun v τ => ∃ r : Int32, v = some (.int r) ∧ post r τ)) (hR : Rm X l d) (hnl : X.2.2.2.2.2.2.2.2.2.2.1 = 12)  (hd : 4 ≤ d) (hN : 119 ≤ G.2.2.2.2.2)  {K44 : Int64 → Int64 → Int32 → Int32 → Int32 → Int32 → St → Prop} (hK44 : ∀ (v4 : Int64) (v6 : Int64) (v8 : Int32) (v9 : Int32) (v10 : Int32) (v11 : Int32) (σ : St), K44 v4 v6 v8 v9 v10 v11 σ → Go X G 44 [(4, .long v4), (6, .long v6), (8, .int v8), (9, .int v9), (10, .int v10), (11, .int v11)] [] σ)
    : ∀ (v4 : Int64) (v6 : Int64) (v8 : Int32) (v9 : Int32) (v11 : Int32) (s0 : Int32) (σ : St), wbX12_areAlike_93  K44 post v4 v6 v8 v9 v11 s0 σ → Go X G 93 [(4, .long v4), (6, .long v6), (8, .int v8), (9, .int v9), (11, .int v11)] [.int s0] σ := by
  intro v4 v6 v8 v9 v11 s0 σ hw
  have hw : ((¬ s0 = 0 →
    wbX12_areAlike_134 K44 post v4 v6 v8 v9 v11 1 σ) ∧
  (s0 = 0 →
    ((¬ v8 = (v9 + 1) →
      wbX12_areAlike_134 K44 post v4 v6 v8 v9 v11 0 σ) ∧
    (v8 = (v9 + 1) →
      ((v8 ≤ v11 →
        wbX12_areAlike_134 K44 post v4 v6 v8 v9 v11 0 σ) ∧
      (¬ v8 ≤ v11 →
        wpX12_without v4 v11 σ (fun r_1 σ_2 =>
        ((¬ r_1 = v6 →
          wbX12_areAlike_134 K44 post v4 v6 v8 v9 v11 0 σ_2) ∧
        (r_1 = v6 →
          wbX12_areAlike_134 K44 post v4 v6 v8 v9 v11 1 σ_2))))))))) := hw
  refine go_istore (lv2 := [(10, .int s0), (4, .long v4), (6, .long v6), (8, .int v8), (9, .int v9), (11, .int v11)]) C (by rw [hnl]; decide) rfl dX12_areAlike_93 ?_
  refine go_iload C 0 rfl dX12_areAlike_95 ?_
  refine go_if_ne C 129 rfl dX12_areAlike_97 (fun hc => ?_) (fun hc => ?_)
  · replace hw := hw.1 hc
    refine go_iconst (v := 1) C rfl dX12_areAlike_129 ?_
    refine go_goto C 134 rfl dX12_areAlike_130 ?_
    refine go_sub [1, 2, 3, 4, 5] rfl ?_
    exact (gbX12_areAlike_134 C hr hR hnl hd hN hK44) _ _ _ _ _ _ _ hw
  · replace hw := hw.2 hc
    refine go_iload C 3 rfl dX12_areAlike_100 ?_
    refine go_iload C 4 rfl dX12_areAlike_102 ?_
    refine go_iconst (v := 1) C rfl dX12_areAlike_104 ?_
    refine go_iadd C dX12_areAlike_105 ?_
    refine go_icmp_ne C 133 rfl dX12_areAlike_106 (fun hc => ?_) (fun hc => ?_)
    · replace hw := hw.1 hc
      refine go_iconst (v := 0) C rfl dX12_areAlike_133 ?_
      refine go_sub [1, 2, 3, 4, 5] rfl ?_
      exact (gbX12_areAlike_134 C hr hR hnl hd hN hK44) _ _ _ _ _ _ _ hw
    · replace hw := hw.2 hc
      refine go_iload C 5 rfl dX12_areAlike_109 ?_
      refine go_iload C 3 rfl dX12_areAlike_111 ?_
      refine go_icmp_ge C 133 rfl dX12_areAlike_113 (fun hc => ?_) (fun hc => ?_)
      · replace hw := hw.1 hc
        refine go_iconst (v := 0) C rfl dX12_areAlike_133 ?_
        refine go_sub [1, 2, 3, 4, 5] rfl ?_
        exact (gbX12_areAlike_134 C hr hR hnl hd hN hK44) _ _ _ _ _ _ _ hw
      · replace hw := hw.2 hc
        refine go_lload C 1 rfl dX12_areAlike_116 ?_
        refine go_iload C 5 rfl dX12_areAlike_118 ?_
        refine go_callS (as := [.long v4, .int v11]) C hR cwX12_178 (Nat.le_trans (by decide) hd) (by decide) rfl rfl (Nat.le_of_ble_eq_true rfl) dX12_areAlike_120 (spX12_without (Nat.le_refl _) hN hw) (fun v_ τ_ hw => ?_)
        obtain ⟨r_1, rfl, hw⟩ := hw
        obtain ⟨σ_2, rfl⟩ : ∃ z, z = τ_ := ⟨_, rfl⟩
        refine go_lload C 2 rfl dX12_areAlike_123 ?_
        refine go_lc_ne C 133 rfl dX12_areAlike_125 dX12_areAlike_126 (fun hc => ?_) (fun hc => ?_)
        · replace hw := hw.1 hc
          refine go_iconst (v := 0) C rfl dX12_areAlike_133 ?_
          refine go_sub [1, 2, 3, 4, 5] rfl ?_
          exact (gbX12_areAlike_134 C hr hR hnl hd hN hK44) _ _ _ _ _ _ _ hw
        · replace hw := hw.2 hc
          refine go_iconst (v := 1) C rfl dX12_areAlike_129 ?_
          refine go_goto C 134 rfl dX12_areAlike_130 ?_
          refine go_sub [1, 2, 3, 4, 5] rfl ?_
          exact (gbX12_areAlike_134 C hr hR hnl hd hN hK44) _ _ _ _ _ _ _ hw
set_option maxRecDepth 20000 in
set_option maxHeartbeats 4000000 in
theorem gbX12_areAlike_44 {X : XT} {G : GT} {l : Launch} {d : Nat}  {post : Int32 → St → Prop} (C : Cx X G cX12_areAlike RX12) (hr : Rt X G (some .boolean) (fun v τ => ∃ r : Int32, v = some (.int r) ∧ post r τ)) (hR : Rm X l d) (hnl : X.2.2.2.2.2.2.2.2.2.2.1 = 12)  (hd : 4 ≤ d) (hN : 119 ≤ G.2.2.2.2.2)   
    : ∀ (n : Nat) (v4 : Int64) (v6 : Int64) (v8 : Int32) (v9 : Int32) (v10 : Int32) (v11 : Int32) (σ : St), wbX12_areAlike_44   post n v4 v6 v8 v9 v10 v11 σ → Go X G 44 [(4, .long v4), (6, .long v6), (8, .int v8), (9, .int v9), (10, .int v10), (11, .int v11)] [] σ := by
  intro n
  induction n with
  | zero => intro v4 v6 v8 v9 v10 v11 σ hw; exact hw.elim
  | succ n ih =>
    intro v4 v6 v8 v9 v10 v11 σ hw
    have hw : ((10 ≤ v11 →
      (v10 = 0 ∨ v10 = 1) ∧ post v10 σ) ∧
    (¬ 10 ≤ v11 →
      ((¬ v10 = 0 →
        wbX12_areAlike_93 (wbX12_areAlike_44 post n) post v4 v6 v8 v9 v11 1 σ) ∧
      (v10 = 0 →
        ((¬ v8 = v9 →
          wbX12_areAlike_93 (wbX12_areAlike_44 post n) post v4 v6 v8 v9 v11 0 σ) ∧
        (v8 = v9 →
          ((v8 ≤ v11 →
            wbX12_areAlike_93 (wbX12_areAlike_44 post n) post v4 v6 v8 v9 v11 0 σ) ∧
          (¬ v8 ≤ v11 →
            wpX12_without v4 v11 σ (fun r_1 σ_2 =>
            wpX12_without v6 v11 σ_2 (fun r_3 σ_4 =>
            ((¬ r_1 = r_3 →
              wbX12_areAlike_93 (wbX12_areAlike_44 post n) post v4 v6 v8 v9 v11 0 σ_4) ∧
            (r_1 = r_3 →
              wbX12_areAlike_93 (wbX12_areAlike_44 post n) post v4 v6 v8 v9 v11 1 σ_4)))))))))))) := hw
    refine go_iload C 5 rfl dX12_areAlike_44 ?_
    refine go_bipush (v := 10) C rfl dX12_areAlike_46 ?_
    refine go_icmp_ge C 183 rfl dX12_areAlike_48 (fun hc => ?_) (fun hc => ?_)
    · replace hw := hw.1 hc
      refine go_iload C 4 rfl dX12_areAlike_183 ?_
      exact go_zret C hr (bool_nar hw.1) ⟨_, rfl, hw.2⟩ dX12_areAlike_185
    · replace hw := hw.2 hc
      refine go_iload C 4 rfl dX12_areAlike_51 ?_
      refine go_if_ne C 88 rfl dX12_areAlike_53 (fun hc => ?_) (fun hc => ?_)
      · replace hw := hw.1 hc
        refine go_iconst (v := 1) C rfl dX12_areAlike_88 ?_
        refine go_goto C 93 rfl dX12_areAlike_89 ?_
        refine go_sub [0, 1, 2, 3, 5] rfl ?_
        exact (gbX12_areAlike_93 C hr hR hnl hd hN ih) _ _ _ _ _ _ _ hw
      · replace hw := hw.2 hc
        refine go_iload C 2 rfl dX12_areAlike_56 ?_
        refine go_iload C 3 rfl dX12_areAlike_58 ?_
        refine go_icmp_ne C 92 rfl dX12_areAlike_60 (fun hc => ?_) (fun hc => ?_)
        · replace hw := hw.1 hc
          refine go_iconst (v := 0) C rfl dX12_areAlike_92 ?_
          refine go_sub [0, 1, 2, 3, 5] rfl ?_
          exact (gbX12_areAlike_93 C hr hR hnl hd hN ih) _ _ _ _ _ _ _ hw
        · replace hw := hw.2 hc
          refine go_iload C 5 rfl dX12_areAlike_63 ?_
          refine go_iload C 2 rfl dX12_areAlike_65 ?_
          refine go_icmp_ge C 92 rfl dX12_areAlike_67 (fun hc => ?_) (fun hc => ?_)
          · replace hw := hw.1 hc
            refine go_iconst (v := 0) C rfl dX12_areAlike_92 ?_
            refine go_sub [0, 1, 2, 3, 5] rfl ?_
            exact (gbX12_areAlike_93 C hr hR hnl hd hN ih) _ _ _ _ _ _ _ hw
          · replace hw := hw.2 hc
            refine go_lload C 0 rfl dX12_areAlike_70 ?_
            refine go_iload C 5 rfl dX12_areAlike_72 ?_
            refine go_callS (as := [.long v4, .int v11]) C hR cwX12_178 (Nat.le_trans (by decide) hd) (by decide) rfl rfl (Nat.le_of_ble_eq_true rfl) dX12_areAlike_74 (spX12_without (Nat.le_refl _) hN hw) (fun v_ τ_ hw => ?_)
            obtain ⟨r_1, rfl, hw⟩ := hw
            obtain ⟨σ_2, rfl⟩ : ∃ z, z = τ_ := ⟨_, rfl⟩
            refine go_lload C 1 rfl dX12_areAlike_77 ?_
            refine go_iload C 5 rfl dX12_areAlike_79 ?_
            refine go_callS (as := [.long v6, .int v11]) C hR cwX12_178 (Nat.le_trans (by decide) hd) (by decide) rfl rfl (Nat.le_of_ble_eq_true rfl) dX12_areAlike_81 (spX12_without (Nat.le_refl _) hN hw) (fun v_ τ_ hw => ?_)
            obtain ⟨r_3, rfl, hw⟩ := hw
            obtain ⟨σ_4, rfl⟩ : ∃ z, z = τ_ := ⟨_, rfl⟩
            refine go_lc_ne C 92 rfl dX12_areAlike_84 dX12_areAlike_85 (fun hc => ?_) (fun hc => ?_)
            · replace hw := hw.1 hc
              refine go_iconst (v := 0) C rfl dX12_areAlike_92 ?_
              refine go_sub [0, 1, 2, 3, 5] rfl ?_
              exact (gbX12_areAlike_93 C hr hR hnl hd hN ih) _ _ _ _ _ _ _ hw
            · replace hw := hw.2 hc
              refine go_iconst (v := 1) C rfl dX12_areAlike_88 ?_
              refine go_goto C 93 rfl dX12_areAlike_89 ?_
              refine go_sub [0, 1, 2, 3, 5] rfl ?_
              exact (gbX12_areAlike_93 C hr hR hnl hd hN ih) _ _ _ _ _ _ _ hw
set_option maxRecDepth 20000 in
set_option maxHeartbeats 4000000 in
theorem spX12_areAlike {l : Launch} {G : GT} {d : Nat}  (hd : 4 ≤ d)  (hN : 119 ≤ G.2.2.2.2.2)  {a1 : Int64} {a2 : Int64} {σ : St} {post : Int32 → St → Prop} (hw : wpX12_areAlike  a1 a2 σ post) : Sp l G d yX12_areAlike cX12_areAlike 12 (some .boolean) [.long a1, .long a2] σ (fun v τ => ∃ r : Int32, v = some (.int r) ∧ post r τ) := by
  refine Sp.of (by decide) (Nat.le_of_ble_eq_true rfl) fun X C hr hR hnl => ?_
  show Go X G 0 [(0, .long a1), (2, .long a2)] [] σ
  have hw : wpX12_soundsOf a1 σ (fun r_1 σ_2 =>
  wpX12_soundsOf a2 σ_2 (fun r_3 σ_4 =>
  wpX12_size r_1 σ_4 (fun r_5 σ_6 =>
  wpX12_size r_3 σ_6 (fun r_7 σ_8 =>
  ((¬ r_1 = r_3 →
    ∃ m_44, wbX12_areAlike_44 post m_44 r_1 r_3 r_5 r_7 0 0 σ_8) ∧
  (r_1 = r_3 →
    ∃ m_44, wbX12_areAlike_44 post m_44 r_1 r_3 r_5 r_7 1 0 σ_8)))))) := hw
  refine go_lload_n C 0 rfl rfl dX12_areAlike_0 ?_
  refine go_callS (as := [.long a1]) C hR cwX12_174 (Nat.le_trans (by decide) hd) (by decide) rfl rfl (Nat.le_of_ble_eq_true rfl) dX12_areAlike_1 (spX12_soundsOf (Nat.le_refl _) hN hw) (fun v_ τ_ hw => ?_)
  obtain ⟨r_1, rfl, hw⟩ := hw
  obtain ⟨σ_2, rfl⟩ : ∃ z, z = τ_ := ⟨_, rfl⟩
  refine go_lstore (lv2 := [(4, .long r_1), (0, .long a1), (2, .long a2)]) C (by rw [hnl]; decide) rfl dX12_areAlike_4 ?_
  refine go_lload_n C 2 rfl rfl dX12_areAlike_6 ?_
  refine go_callS (as := [.long a2]) C hR cwX12_174 (Nat.le_trans (by decide) hd) (by decide) rfl rfl (Nat.le_of_ble_eq_true rfl) dX12_areAlike_7 (spX12_soundsOf (Nat.le_refl _) hN hw) (fun v_ τ_ hw => ?_)
  obtain ⟨r_3, rfl, hw⟩ := hw
  obtain ⟨σ_4, rfl⟩ : ∃ z, z = τ_ := ⟨_, rfl⟩
  refine go_lstore (lv2 := [(6, .long r_3), (4, .long r_1), (0, .long a1), (2, .long a2)]) C (by rw [hnl]; decide) rfl dX12_areAlike_10 ?_
  refine go_lload C 1 rfl dX12_areAlike_12 ?_
  refine go_callS (as := [.long r_1]) C hR cwX12_162 (Nat.le_trans (by decide) hd) (by decide) rfl rfl (Nat.le_of_ble_eq_true rfl) dX12_areAlike_14 (spX12_size (Nat.le_refl _) hN hw) (fun v_ τ_ hw => ?_)
  obtain ⟨r_5, rfl, hw⟩ := hw
  obtain ⟨σ_6, rfl⟩ : ∃ z, z = τ_ := ⟨_, rfl⟩
  refine go_istore (lv2 := [(8, .int r_5), (6, .long r_3), (4, .long r_1), (0, .long a1), (2, .long a2)]) C (by rw [hnl]; decide) rfl dX12_areAlike_17 ?_
  refine go_lload C 1 rfl dX12_areAlike_19 ?_
  refine go_callS (as := [.long r_3]) C hR cwX12_162 (Nat.le_trans (by decide) hd) (by decide) rfl rfl (Nat.le_of_ble_eq_true rfl) dX12_areAlike_21 (spX12_size (Nat.le_refl _) hN hw) (fun v_ τ_ hw => ?_)
  obtain ⟨r_7, rfl, hw⟩ := hw
  obtain ⟨σ_8, rfl⟩ : ∃ z, z = τ_ := ⟨_, rfl⟩
  refine go_istore (lv2 := [(9, .int r_7), (8, .int r_5), (6, .long r_3), (4, .long r_1), (0, .long a1), (2, .long a2)]) C (by rw [hnl]; decide) rfl dX12_areAlike_24 ?_
  refine go_lload C 3 rfl dX12_areAlike_26 ?_
  refine go_lload C 2 rfl dX12_areAlike_28 ?_
  refine go_lc_ne C 38 rfl dX12_areAlike_30 dX12_areAlike_31 (fun hc => ?_) (fun hc => ?_)
  · replace hw := hw.1 hc
    refine go_iconst (v := 0) C rfl dX12_areAlike_38 ?_
    refine go_istore (lv2 := [(10, .int 0), (9, .int r_7), (8, .int r_5), (6, .long r_3), (4, .long r_1), (0, .long a1), (2, .long a2)]) C (by rw [hnl]; decide) rfl dX12_areAlike_39 ?_
    refine go_iconst (v := 0) C rfl dX12_areAlike_41 ?_
    refine go_istore (lv2 := [(11, .int 0), (10, .int 0), (9, .int r_7), (8, .int r_5), (6, .long r_3), (4, .long r_1), (0, .long a1), (2, .long a2)]) C (by rw [hnl]; decide) rfl dX12_areAlike_42 ?_
    refine go_sub [5, 4, 3, 2, 1, 0] rfl ?_
    obtain ⟨n_0, hw⟩ := hw
    exact (gbX12_areAlike_44 C hr hR hnl hd hN) n_0 _ _ _ _ _ _ _ hw
  · replace hw := hw.2 hc
    refine go_iconst (v := 1) C rfl dX12_areAlike_34 ?_
    refine go_goto C 39 rfl dX12_areAlike_35 ?_
    refine go_istore (lv2 := [(10, .int 1), (9, .int r_7), (8, .int r_5), (6, .long r_3), (4, .long r_1), (0, .long a1), (2, .long a2)]) C (by rw [hnl]; decide) rfl dX12_areAlike_39 ?_
    refine go_iconst (v := 0) C rfl dX12_areAlike_41 ?_
    refine go_istore (lv2 := [(11, .int 0), (10, .int 1), (9, .int r_7), (8, .int r_5), (6, .long r_3), (4, .long r_1), (0, .long a1), (2, .long a2)]) C (by rw [hnl]; decide) rfl dX12_areAlike_42 ?_
    refine go_sub [5, 4, 3, 2, 1, 0] rfl ?_
    obtain ⟨n_0, hw⟩ := hw
    exact (gbX12_areAlike_44 C hr hR hnl hd hN) n_0 _ _ _ _ _ _ _ hw
-- CradleNamesModel.lowestOf(I)I
set_option maxRecDepth 20000 in
set_option maxHeartbeats 4000000 in
theorem gbX12_lowestOf_2 {X : XT} {G : GT} {l : Launch} {d : Nat}  {post : Int32 → St → Prop} (C : Cx X G cX12_lowestOf RX12) (hr : Rt X G (some .int) (fun v τ => ∃ r : Int32, v = some (.int r) ∧ post r τ)) (hR : Rm X l d) (hnl : X.2.2.2.2.2.2.2.2.2.2.1 = 3)  (hd : 4 ≤ d) (hN : 119 ≤ G.2.2.2.2.2)   
    : ∀ (n : Nat) (v1 : Int32) (v2 : Int32) (σ : St), wbX12_lowestOf_2   post n v1 v2 σ → Go X G 2 [(0, .ref (G.2.2.1 75)), (1, .int v1), (2, .int v2)] [] σ := by
  intro n
  induction n with
  | zero => intro v1 v2 σ hw; exact hw.elim
  | succ n ih =>
    intro v1 v2 σ hw
    have hw : vp_in v2 16 ∧ (
    wpX12_ending (gL σ 78 v2.toNatClampNeg) σ (fun r_1 σ_2 =>
    vp_in v1 16 ∧ (
    wpX12_ending (gL σ_2 78 v1.toNatClampNeg) σ_2 (fun r_3 σ_4 =>
    ((r_1 = r_3 →
      post v2 σ_4) ∧
    (¬ r_1 = r_3 →
      ∀ v2_5 : Int32, v2_5 = v2 + 1 →
      wbX12_lowestOf_2 post n v1 v2_5 σ_4)))))) := hw
    refine go_aload_n C 0 rfl rfl dX12_lowestOf_2 ?_
    refine go_get (v := .ref (G.2.2.1 78)) C (shX12 G) (ltX12 hN) lkX12_16 rfl dX12_lowestOf_3 ?_
    refine go_iload_n C 2 rfl rfl dX12_lowestOf_6 ?_
    refine go_lald C (saX12_letters G) (laX12_letters hN) hw.1 dX12_lowestOf_7 ?_
    replace hw := hw.2
    refine go_callS (as := [.long (gL σ 78 v2.toNatClampNeg)]) C hR cwX12_196 (Nat.le_trans (by decide) hd) (by decide) rfl rfl (Nat.le_of_ble_eq_true rfl) dX12_lowestOf_8 (spX12_ending (Nat.le_refl _) hN hw) (fun v_ τ_ hw => ?_)
    obtain ⟨r_1, rfl, hw⟩ := hw
    obtain ⟨σ_2, rfl⟩ : ∃ z, z = τ_ := ⟨_, rfl⟩
    refine go_aload_n C 0 rfl rfl dX12_lowestOf_11 ?_
    refine go_get (v := .ref (G.2.2.1 78)) C (shX12 G) (ltX12 hN) lkX12_16 rfl dX12_lowestOf_12 ?_
    refine go_iload_n C 1 rfl rfl dX12_lowestOf_15 ?_
    refine go_lald C (saX12_letters G) (laX12_letters hN) hw.1 dX12_lowestOf_16 ?_
    replace hw := hw.2
    refine go_callS (as := [.long (gL σ_2 78 v1.toNatClampNeg)]) C hR cwX12_196 (Nat.le_trans (by decide) hd) (by decide) rfl rfl (Nat.le_of_ble_eq_true rfl) dX12_lowestOf_17 (spX12_ending (Nat.le_refl _) hN hw) (fun v_ τ_ hw => ?_)
    obtain ⟨r_3, rfl, hw⟩ := hw
    obtain ⟨σ_4, rfl⟩ : ∃ z, z = τ_ := ⟨_, rfl⟩
    refine go_lc_eq C 30 rfl dX12_lowestOf_20 dX12_lowestOf_21 (fun hc => ?_) (fun hc => ?_)
    · replace hw := hw.1 hc
      refine go_iload_n C 2 rfl rfl dX12_lowestOf_30 ?_
      exact go_iret C hr ⟨_, rfl, hw⟩ dX12_lowestOf_31
    · replace hw := hw.2 hc
      obtain ⟨v2_5, ev2_5⟩ : ∃ z : Int32, z = v2 + 1 := ⟨_, rfl⟩
      replace hw := hw v2_5 ev2_5
      refine go_iinc (v := v2_5) (lv2 := [(2, .int v2_5), (0, .ref (G.2.2.1 75)), (1, .int v1)]) C 2 rfl (by rw [ev2_5]; rfl) (by rw [hnl]; decide) rfl dX12_lowestOf_24 ?_
      refine go_goto C 2 rfl dX12_lowestOf_27 ?_
      refine go_sub [1, 2, 0] rfl ?_
      exact ih _ _ _ hw
set_option maxRecDepth 20000 in
set_option maxHeartbeats 4000000 in
theorem spX12_lowestOf {l : Launch} {G : GT} {d : Nat}  (hd : 4 ≤ d)  (hN : 119 ≤ G.2.2.2.2.2)  {a1 : Int32} {σ : St} {post : Int32 → St → Prop} (hw : wpX12_lowestOf  a1 σ post) : Sp l G d yX12_lowestOf cX12_lowestOf 3 (some .int) [.ref (G.2.2.1 75), .int a1] σ (fun v τ => ∃ r : Int32, v = some (.int r) ∧ post r τ) := by
  refine Sp.of (by decide) (Nat.le_of_ble_eq_true rfl) fun X C hr hR hnl => ?_
  show Go X G 0 [(0, .ref (G.2.2.1 75)), (1, .int a1)] [] σ
  have hw : ∃ m_2, wbX12_lowestOf_2 post m_2 a1 0 σ := hw
  refine go_iconst (v := 0) C rfl dX12_lowestOf_0 ?_
  refine go_istore_n (lv2 := [(2, .int 0), (0, .ref (G.2.2.1 75)), (1, .int a1)]) C rfl (by rw [hnl]; decide) rfl dX12_lowestOf_1 ?_
  refine go_sub [1, 2, 0] rfl ?_
  obtain ⟨n_0, hw⟩ := hw
  exact (gbX12_lowestOf_2 C hr hR hnl hd hN) n_0 _ _ _ hw
-- CradleNamesModel.all(II)I
set_option maxRecDepth 20000 in
set_option maxHeartbeats 4000000 in
theorem spX12_all {l : Launch} {G : GT} {d : Nat}  (hd : 1 ≤ d)  (hN : 119 ≤ G.2.2.2.2.2)  {a1 : Int32} {a2 : Int32} {σ : St} {post : Int32 → St → Prop} (hw : wpX12_all  a1 a2 σ post) : Sp l G d yX12_all cX12_all 3 (some .int) [.ref (G.2.2.1 75), .int a1, .int a2] σ (fun v τ => ∃ r : Int32, v = some (.int r) ∧ post r τ) := by
  refine Sp.of (by decide) (Nat.le_of_ble_eq_true rfl) fun X C hr hR hnl => ?_
  show Go X G 0 [(0, .ref (G.2.2.1 75)), (1, .int a1), (2, .int a2)] [] σ
  have hw : (((-40) ≤ a1 →
    vp_in ((16 * (a1 + 40)) + a2) 1616 ∧ (
    post (gI σ 99 ((16 * (a1 + 40)) + a2).toNatClampNeg) σ)) ∧
  (¬ (-40) ≤ a1 →
    post 0 σ)) := hw
  refine go_iload_n C 1 rfl rfl dX12_all_0 ?_
  refine go_bipush (v := (-40)) C rfl dX12_all_1 ?_
  refine go_icmp_ge C 10 rfl dX12_all_3 (fun hc => ?_) (fun hc => ?_)
  · replace hw := hw.1 hc
    refine go_aload_n C 0 rfl rfl dX12_all_10 ?_
    refine go_get (v := .ref (G.2.2.1 99)) C (shX12 G) (ltX12 hN) lkX12_88 rfl dX12_all_11 ?_
    refine go_bipush (v := 16) C rfl dX12_all_14 ?_
    refine go_iload_n C 1 rfl rfl dX12_all_16 ?_
    refine go_bipush (v := 40) C rfl dX12_all_17 ?_
    refine go_iadd C dX12_all_19 ?_
    refine go_imul C dX12_all_20 ?_
    refine go_iload_n C 2 rfl rfl dX12_all_21 ?_
    refine go_iadd C dX12_all_22 ?_
    refine go_iald C (saX12_together G) (laX12_together hN) hw.1 dX12_all_23 ?_
    replace hw := hw.2
    exact go_iret C hr ⟨_, rfl, hw⟩ dX12_all_24
  · replace hw := hw.2 hc
    refine go_iconst (v := 0) C rfl dX12_all_6 ?_
    refine go_goto C 24 rfl dX12_all_7 ?_
    exact go_iret C hr ⟨_, rfl, hw⟩ dX12_all_24
-- CradleNamesModel.words(IIII)V
set_option maxRecDepth 20000 in
set_option maxHeartbeats 4000000 in
theorem gbX12_words_315 {X : XT} {G : GT} {l : Launch} {d : Nat}  {post : St → Prop} (C : Cx X G cX12_words RX12) (hr : Rt X G none (fun v τ => v = none ∧ post τ)) (hR : Rm X l d) (hnl : X.2.2.2.2.2.2.2.2.2.2.1 = 8)  (hd : 3 ≤ d) (hN : 119 ≤ G.2.2.2.2.2)   
    : ∀ (v1 : Int32) (v4 : Int32) (s0 : Int64) (s1 : Int32) (σ : St), wbX12_words_315   post v1 v4 s0 s1 σ → Go X G 315 [(0, .ref (G.2.2.1 75)), (1, .int v1), (4, .int v4)] [.long s0, .int s1, .ref (G.2.2.1 96)] σ := by
  intro v1 v4 s0 s1 σ hw
  have hw : vp_in s1 14 ∧ (
  ∀ σ_1 : St, σ_1 = sL σ 96 s1.toNatClampNeg s0 →
  vp_in v4 16 ∧ (
  vp_in 9 14 ∧ (
  ∀ σ_2 : St, σ_2 = sL σ_1 96 (9 : Int32).toNatClampNeg ((gI σ_1 110 v4.toNatClampNeg).toInt64) →
  vp_in v4 16 ∧ (
  vp_in 10 14 ∧ (
  ∀ σ_3 : St, σ_3 = sL σ_2 96 (10 : Int32).toNatClampNeg ((gI σ_2 111 v4.toNatClampNeg).toInt64) →
  vp_in v4 16 ∧ (
  vp_in 11 14 ∧ (
  ∀ σ_4 : St, σ_4 = sL σ_3 96 (11 : Int32).toNatClampNeg ((gI σ_3 112 v4.toNatClampNeg).toInt64) →
  vp_in v4 16 ∧ (
  wpX12_size (gL σ_4 78 v4.toNatClampNeg) σ_4 (fun r_5 σ_6 =>
  vp_in 12 14 ∧ (
  ∀ σ_7 : St, σ_7 = sL σ_6 96 (12 : Int32).toNatClampNeg r_5.toInt64 →
  vp_in 13 14 ∧ (
  ∀ σ_8 : St, σ_8 = sL σ_7 96 (13 : Int32).toNatClampNeg v1.toInt64 →
  post σ_8))))))))))) := hw
  refine go_last C (saX12_name G) (laX12_name hN) hw.1 dX12_words_315 (go_nm fun σ_1 eσ_1 => ?_)
  replace hw := hw.2 σ_1 eσ_1
  refine go_aload_n C 0 rfl rfl dX12_words_316 ?_
  refine go_get (v := .ref (G.2.2.1 96)) C (shX12 G) (ltX12 hN) lkX12_79 rfl dX12_words_317 ?_
  refine go_bipush (v := 9) C rfl dX12_words_320 ?_
  refine go_aload_n C 0 rfl rfl dX12_words_322 ?_
  refine go_get (v := .ref (G.2.2.1 110)) C (shX12 G) (ltX12 hN) lkX12_121 rfl dX12_words_323 ?_
  refine go_iload C 2 rfl dX12_words_326 ?_
  refine go_iald C (saX12_rises G) (laX12_rises hN) hw.1 dX12_words_328 ?_
  replace hw := hw.2
  refine go_i2l C dX12_words_329 ?_
  refine go_last C (saX12_name G) (laX12_name hN) hw.1 dX12_words_330 (go_nm fun σ_2 eσ_2 => ?_)
  replace hw := hw.2 σ_2 eσ_2
  refine go_aload_n C 0 rfl rfl dX12_words_331 ?_
  refine go_get (v := .ref (G.2.2.1 96)) C (shX12 G) (ltX12 hN) lkX12_79 rfl dX12_words_332 ?_
  refine go_bipush (v := 10) C rfl dX12_words_335 ?_
  refine go_aload_n C 0 rfl rfl dX12_words_337 ?_
  refine go_get (v := .ref (G.2.2.1 111)) C (shX12 G) (ltX12 hN) lkX12_124 rfl dX12_words_338 ?_
  refine go_iload C 2 rfl dX12_words_341 ?_
  refine go_iald C (saX12_soundsNow G) (laX12_soundsNow hN) hw.1 dX12_words_343 ?_
  replace hw := hw.2
  refine go_i2l C dX12_words_344 ?_
  refine go_last C (saX12_name G) (laX12_name hN) hw.1 dX12_words_345 (go_nm fun σ_3 eσ_3 => ?_)
  replace hw := hw.2 σ_3 eσ_3
  refine go_aload_n C 0 rfl rfl dX12_words_346 ?_
  refine go_get (v := .ref (G.2.2.1 96)) C (shX12 G) (ltX12 hN) lkX12_79 rfl dX12_words_347 ?_
  refine go_bipush (v := 11) C rfl dX12_words_350 ?_
  refine go_aload_n C 0 rfl rfl dX12_words_352 ?_
  refine go_get (v := .ref (G.2.2.1 112)) C (shX12 G) (ltX12 hN) lkX12_127 rfl dX12_words_353 ?_
  refine go_iload C 2 rfl dX12_words_356 ?_
  refine go_iald C (saX12_filmNow G) (laX12_filmNow hN) hw.1 dX12_words_358 ?_
  replace hw := hw.2
  refine go_i2l C dX12_words_359 ?_
  refine go_last C (saX12_name G) (laX12_name hN) hw.1 dX12_words_360 (go_nm fun σ_4 eσ_4 => ?_)
  replace hw := hw.2 σ_4 eσ_4
  refine go_aload_n C 0 rfl rfl dX12_words_361 ?_
  refine go_get (v := .ref (G.2.2.1 96)) C (shX12 G) (ltX12 hN) lkX12_79 rfl dX12_words_362 ?_
  refine go_bipush (v := 12) C rfl dX12_words_365 ?_
  refine go_aload_n C 0 rfl rfl dX12_words_367 ?_
  refine go_get (v := .ref (G.2.2.1 78)) C (shX12 G) (ltX12 hN) lkX12_16 rfl dX12_words_368 ?_
  refine go_iload C 2 rfl dX12_words_371 ?_
  refine go_lald C (saX12_letters G) (laX12_letters hN) hw.1 dX12_words_373 ?_
  replace hw := hw.2
  refine go_callS (as := [.long (gL σ_4 78 v4.toNatClampNeg)]) C hR cwX12_162 (Nat.le_trans (by decide) hd) (by decide) rfl rfl (Nat.le_of_ble_eq_true rfl) dX12_words_374 (spX12_size (Nat.le_refl _) hN hw) (fun v_ τ_ hw => ?_)
  obtain ⟨r_5, rfl, hw⟩ := hw
  obtain ⟨σ_6, rfl⟩ : ∃ z, z = τ_ := ⟨_, rfl⟩
  refine go_i2l C dX12_words_377 ?_
  refine go_last C (saX12_name G) (laX12_name hN) hw.1 dX12_words_378 (go_nm fun σ_7 eσ_7 => ?_)
  replace hw := hw.2 σ_7 eσ_7
  refine go_aload_n C 0 rfl rfl dX12_words_379 ?_
  refine go_get (v := .ref (G.2.2.1 96)) C (shX12 G) (ltX12 hN) lkX12_79 rfl dX12_words_380 ?_
  refine go_bipush (v := 13) C rfl dX12_words_383 ?_
  refine go_iload_n C 1 rfl rfl dX12_words_385 ?_
  refine go_i2l C dX12_words_386 ?_
  refine go_last C (saX12_name G) (laX12_name hN) hw.1 dX12_words_387 (go_nm fun σ_8 eσ_8 => ?_)
  replace hw := hw.2 σ_8 eσ_8
  exact go_vret C hr ⟨rfl, hw⟩ dX12_words_388
set_option maxRecDepth 20000 in
set_option maxHeartbeats 4000000 in
theorem gbX12_words_135 {X : XT} {G : GT} {l : Launch} {d : Nat}  {post : St → Prop} (C : Cx X G cX12_words RX12) (hr : Rt X G none (fun v τ => v = none ∧ post τ)) (hR : Rm X l d) (hnl : X.2.2.2.2.2.2.2.2.2.2.1 = 8)  (hd : 3 ≤ d) (hN : 119 ≤ G.2.2.2.2.2)   
    : ∀ (v1 : Int32) (v3 : Int32) (v4 : Int32) (s0 : Int64) (s1 : Int32) (σ : St), wbX12_words_135   post v1 v3 v4 s0 s1 σ → Go X G 135 [(0, .ref (G.2.2.1 75)), (1, .int v1), (3, .int v3), (4, .int v4)] [.long s0, .int s1, .ref (G.2.2.1 96)] σ := by
  intro v1 v3 v4 s0 s1 σ hw
  have hw : vp_in s1 14 ∧ (
  ∀ σ_1 : St, σ_1 = sL σ 96 s1.toNatClampNeg s0 →
  vp_in (((32 * v3) + (16 * v3)) + v4) 64 ∧ (
  vp_in (((32 * (v1 + 40)) + (16 * v3)) + v4) 3232 ∧ (
  vp_in 3 14 ∧ (
  ∀ σ_2 : St, σ_2 = sL σ_1 96 (3 : Int32).toNatClampNeg (((gI σ_1 106 (((32 * v3) + (16 * v3)) + v4).toNatClampNeg) + (gI σ_1 101 (((32 * (v1 + 40)) + (16 * v3)) + v4).toNatClampNeg)).toInt64) →
  vp_in v4 32 ∧ (
  vp_in ((32 * (v1 + 40)) + v4) 3232 ∧ (
  vp_in 4 14 ∧ (
  ∀ σ_3 : St, σ_3 = sL σ_2 96 (4 : Int32).toNatClampNeg (((gI σ_2 108 v4.toNatClampNeg) + (gI σ_2 102 ((32 * (v1 + 40)) + v4).toNatClampNeg)).toInt64) →
  vp_in (16 + v4) 32 ∧ (
  vp_in (((32 * (v1 + 40)) + 16) + v4) 3232 ∧ (
  vp_in 5 14 ∧ (
  ∀ σ_4 : St, σ_4 = sL σ_3 96 (5 : Int32).toNatClampNeg (((gI σ_3 108 (16 + v4).toNatClampNeg) + (gI σ_3 102 (((32 * (v1 + 40)) + 16) + v4).toNatClampNeg)).toInt64) →
  vp_in ((16 * v3) + v4) 32 ∧ (
  vp_in 6 14 ∧ (
  ∀ σ_5 : St, σ_5 = sL σ_4 96 (6 : Int32).toNatClampNeg ((gI σ_4 107 ((16 * v3) + v4).toNatClampNeg).toInt64) →
  vp_in 4 14 ∧ (
  vp_in 5 14 ∧ (
  vp_in 7 14 ∧ (
  ∀ σ_6 : St, σ_6 = sL σ_5 96 (7 : Int32).toNatClampNeg ((gL σ_5 96 (4 : Int32).toNatClampNeg) + (gL σ_5 96 (5 : Int32).toNatClampNeg)) →
  wpX12_all v1 v4 σ_6 (fun r_7 σ_8 =>
  ((r_7 ≤ 0 →
    vp_in v4 16 ∧ (
    wbX12_words_315 post v1 v4 ((gI σ_8 109 v4.toNatClampNeg).toInt64) 8 σ_8)) ∧
  (¬ r_7 ≤ 0 →
    wbX12_words_315 post v1 v4 0 8 σ_8)))))))))))))))))) := hw
  refine go_last C (saX12_name G) (laX12_name hN) hw.1 dX12_words_135 (go_nm fun σ_1 eσ_1 => ?_)
  replace hw := hw.2 σ_1 eσ_1
  refine go_aload_n C 0 rfl rfl dX12_words_136 ?_
  refine go_get (v := .ref (G.2.2.1 96)) C (shX12 G) (ltX12 hN) lkX12_79 rfl dX12_words_137 ?_
  refine go_iconst (v := 3) C rfl dX12_words_140 ?_
  refine go_aload_n C 0 rfl rfl dX12_words_141 ?_
  refine go_get (v := .ref (G.2.2.1 106)) C (shX12 G) (ltX12 hN) lkX12_109 rfl dX12_words_142 ?_
  refine go_bipush (v := 32) C rfl dX12_words_145 ?_
  refine go_iload_n C 2 rfl rfl dX12_words_147 ?_
  refine go_imul C dX12_words_148 ?_
  refine go_bipush (v := 16) C rfl dX12_words_149 ?_
  refine go_iload_n C 2 rfl rfl dX12_words_151 ?_
  refine go_imul C dX12_words_152 ?_
  refine go_iadd C dX12_words_153 ?_
  refine go_iload C 3 rfl dX12_words_154 ?_
  refine go_iadd C dX12_words_156 ?_
  refine go_iald C (saX12_standingAhead G) (laX12_standingAhead hN) hw.1 dX12_words_157 ?_
  replace hw := hw.2
  refine go_aload_n C 0 rfl rfl dX12_words_158 ?_
  refine go_get (v := .ref (G.2.2.1 101)) C (shX12 G) (ltX12 hN) lkX12_94 rfl dX12_words_159 ?_
  refine go_bipush (v := 32) C rfl dX12_words_162 ?_
  refine go_iload_n C 1 rfl rfl dX12_words_164 ?_
  refine go_bipush (v := 40) C rfl dX12_words_165 ?_
  refine go_iadd C dX12_words_167 ?_
  refine go_imul C dX12_words_168 ?_
  refine go_bipush (v := 16) C rfl dX12_words_169 ?_
  refine go_iload_n C 2 rfl rfl dX12_words_171 ?_
  refine go_imul C dX12_words_172 ?_
  refine go_iadd C dX12_words_173 ?_
  refine go_iload C 3 rfl dX12_words_174 ?_
  refine go_iadd C dX12_words_176 ?_
  refine go_iald C (saX12_inStanding G) (laX12_inStanding hN) hw.1 dX12_words_177 ?_
  replace hw := hw.2
  refine go_iadd C dX12_words_178 ?_
  refine go_i2l C dX12_words_179 ?_
  refine go_last C (saX12_name G) (laX12_name hN) hw.1 dX12_words_180 (go_nm fun σ_2 eσ_2 => ?_)
  replace hw := hw.2 σ_2 eσ_2
  refine go_aload_n C 0 rfl rfl dX12_words_181 ?_
  refine go_get (v := .ref (G.2.2.1 96)) C (shX12 G) (ltX12 hN) lkX12_79 rfl dX12_words_182 ?_
  refine go_iconst (v := 4) C rfl dX12_words_185 ?_
  refine go_aload_n C 0 rfl rfl dX12_words_186 ?_
  refine go_get (v := .ref (G.2.2.1 108)) C (shX12 G) (ltX12 hN) lkX12_115 rfl dX12_words_187 ?_
  refine go_iload C 3 rfl dX12_words_190 ?_
  refine go_iald C (saX12_sexAhead G) (laX12_sexAhead hN) hw.1 dX12_words_192 ?_
  replace hw := hw.2
  refine go_aload_n C 0 rfl rfl dX12_words_193 ?_
  refine go_get (v := .ref (G.2.2.1 102)) C (shX12 G) (ltX12 hN) lkX12_97 rfl dX12_words_194 ?_
  refine go_bipush (v := 32) C rfl dX12_words_197 ?_
  refine go_iload_n C 1 rfl rfl dX12_words_199 ?_
  refine go_bipush (v := 40) C rfl dX12_words_200 ?_
  refine go_iadd C dX12_words_202 ?_
  refine go_imul C dX12_words_203 ?_
  refine go_iload C 3 rfl dX12_words_204 ?_
  refine go_iadd C dX12_words_206 ?_
  refine go_iald C (saX12_inSex G) (laX12_inSex hN) hw.1 dX12_words_207 ?_
  replace hw := hw.2
  refine go_iadd C dX12_words_208 ?_
  refine go_i2l C dX12_words_209 ?_
  refine go_last C (saX12_name G) (laX12_name hN) hw.1 dX12_words_210 (go_nm fun σ_3 eσ_3 => ?_)
  replace hw := hw.2 σ_3 eσ_3
  refine go_aload_n C 0 rfl rfl dX12_words_211 ?_
  refine go_get (v := .ref (G.2.2.1 96)) C (shX12 G) (ltX12 hN) lkX12_79 rfl dX12_words_212 ?_
  refine go_iconst (v := 5) C rfl dX12_words_215 ?_
  refine go_aload_n C 0 rfl rfl dX12_words_216 ?_
  refine go_get (v := .ref (G.2.2.1 108)) C (shX12 G) (ltX12 hN) lkX12_115 rfl dX12_words_217 ?_
  refine go_bipush (v := 16) C rfl dX12_words_220 ?_
  refine go_iload C 3 rfl dX12_words_222 ?_
  refine go_iadd C dX12_words_224 ?_
  refine go_iald C (saX12_sexAhead G) (laX12_sexAhead hN) hw.1 dX12_words_225 ?_
  replace hw := hw.2
  refine go_aload_n C 0 rfl rfl dX12_words_226 ?_
  refine go_get (v := .ref (G.2.2.1 102)) C (shX12 G) (ltX12 hN) lkX12_97 rfl dX12_words_227 ?_
  refine go_bipush (v := 32) C rfl dX12_words_230 ?_
  refine go_iload_n C 1 rfl rfl dX12_words_232 ?_
  refine go_bipush (v := 40) C rfl dX12_words_233 ?_
  refine go_iadd C dX12_words_235 ?_
  refine go_imul C dX12_words_236 ?_
  refine go_bipush (v := 16) C rfl dX12_words_237 ?_
  refine go_iadd C dX12_words_239 ?_
  refine go_iload C 3 rfl dX12_words_240 ?_
  refine go_iadd C dX12_words_242 ?_
  refine go_iald C (saX12_inSex G) (laX12_inSex hN) hw.1 dX12_words_243 ?_
  replace hw := hw.2
  refine go_iadd C dX12_words_244 ?_
  refine go_i2l C dX12_words_245 ?_
  refine go_last C (saX12_name G) (laX12_name hN) hw.1 dX12_words_246 (go_nm fun σ_4 eσ_4 => ?_)
  replace hw := hw.2 σ_4 eσ_4
  refine go_aload_n C 0 rfl rfl dX12_words_247 ?_
  refine go_get (v := .ref (G.2.2.1 96)) C (shX12 G) (ltX12 hN) lkX12_79 rfl dX12_words_248 ?_
  refine go_bipush (v := 6) C rfl dX12_words_251 ?_
  refine go_aload_n C 0 rfl rfl dX12_words_253 ?_
  refine go_get (v := .ref (G.2.2.1 107)) C (shX12 G) (ltX12 hN) lkX12_112 rfl dX12_words_254 ?_
  refine go_bipush (v := 16) C rfl dX12_words_257 ?_
  refine go_iload_n C 2 rfl rfl dX12_words_259 ?_
  refine go_imul C dX12_words_260 ?_
  refine go_iload C 3 rfl dX12_words_261 ?_
  refine go_iadd C dX12_words_263 ?_
  refine go_iald C (saX12_oldOnes G) (laX12_oldOnes hN) hw.1 dX12_words_264 ?_
  replace hw := hw.2
  refine go_i2l C dX12_words_265 ?_
  refine go_last C (saX12_name G) (laX12_name hN) hw.1 dX12_words_266 (go_nm fun σ_5 eσ_5 => ?_)
  replace hw := hw.2 σ_5 eσ_5
  refine go_aload_n C 0 rfl rfl dX12_words_267 ?_
  refine go_get (v := .ref (G.2.2.1 96)) C (shX12 G) (ltX12 hN) lkX12_79 rfl dX12_words_268 ?_
  refine go_bipush (v := 7) C rfl dX12_words_271 ?_
  refine go_aload_n C 0 rfl rfl dX12_words_273 ?_
  refine go_get (v := .ref (G.2.2.1 96)) C (shX12 G) (ltX12 hN) lkX12_79 rfl dX12_words_274 ?_
  refine go_iconst (v := 4) C rfl dX12_words_277 ?_
  refine go_lald C (saX12_name G) (laX12_name hN) hw.1 dX12_words_278 ?_
  replace hw := hw.2
  refine go_aload_n C 0 rfl rfl dX12_words_279 ?_
  refine go_get (v := .ref (G.2.2.1 96)) C (shX12 G) (ltX12 hN) lkX12_79 rfl dX12_words_280 ?_
  refine go_iconst (v := 5) C rfl dX12_words_283 ?_
  refine go_lald C (saX12_name G) (laX12_name hN) hw.1 dX12_words_284 ?_
  replace hw := hw.2
  refine go_ladd C dX12_words_285 ?_
  refine go_last C (saX12_name G) (laX12_name hN) hw.1 dX12_words_286 (go_nm fun σ_6 eσ_6 => ?_)
  replace hw := hw.2 σ_6 eσ_6
  refine go_aload_n C 0 rfl rfl dX12_words_287 ?_
  refine go_get (v := .ref (G.2.2.1 96)) C (shX12 G) (ltX12 hN) lkX12_79 rfl dX12_words_288 ?_
  refine go_bipush (v := 8) C rfl dX12_words_291 ?_
  refine go_aload_n C 0 rfl rfl dX12_words_293 ?_
  refine go_iload_n C 1 rfl rfl dX12_words_294 ?_
  refine go_iload C 3 rfl dX12_words_295 ?_
  refine go_callV (as := [.int v1, .int v4]) C hR (shX12 G) (ltX12 hN) cwX12_407 (Nat.le_trans (by decide) hd) (by decide) rfl rfl (Nat.le_of_ble_eq_true rfl) dX12_words_297 (spX12_all (Nat.le_refl _) hN hw) (fun v_ τ_ hw => ?_)
  obtain ⟨r_7, rfl, hw⟩ := hw
  obtain ⟨σ_8, rfl⟩ : ∃ z, z = τ_ := ⟨_, rfl⟩
  refine go_if_le C 307 rfl dX12_words_300 (fun hc => ?_) (fun hc => ?_)
  · replace hw := hw.1 hc
    refine go_aload_n C 0 rfl rfl dX12_words_307 ?_
    refine go_get (v := .ref (G.2.2.1 109)) C (shX12 G) (ltX12 hN) lkX12_118 rfl dX12_words_308 ?_
    refine go_iload C 3 rfl dX12_words_311 ?_
    refine go_iald C (saX12_goneFor G) (laX12_goneFor hN) hw.1 dX12_words_313 ?_
    replace hw := hw.2
    refine go_i2l C dX12_words_314 ?_
    refine go_sub [0, 1, 3] rfl ?_
    exact (gbX12_words_315 C hr hR hnl hd hN) _ _ _ _ _ hw
  · replace hw := hw.2 hc
    refine go_lconst (v := 0) C rfl dX12_words_303 ?_
    refine go_goto C 315 rfl dX12_words_304 ?_
    refine go_sub [0, 1, 3] rfl ?_
    exact (gbX12_words_315 C hr hR hnl hd hN) _ _ _ _ _ hw
set_option maxRecDepth 20000 in
set_option maxHeartbeats 4000000 in
theorem gbX12_words_6 {X : XT} {G : GT} {l : Launch} {d : Nat}  {post : St → Prop} (C : Cx X G cX12_words RX12) (hr : Rt X G none (fun v τ => v = none ∧ post τ)) (hR : Rm X l d) (hnl : X.2.2.2.2.2.2.2.2.2.2.1 = 8)  (hd : 3 ≤ d) (hN : 119 ≤ G.2.2.2.2.2)   
    : ∀ (n : Nat) (v1 : Int32) (v2 : Int32) (v3 : Int32) (v4 : Int32) (v5 : Int32) (v6 : Int32) (σ : St), wbX12_words_6   post n v1 v2 v3 v4 v5 v6 σ → Go X G 6 [(0, .ref (G.2.2.1 75)), (1, .int v1), (2, .int v2), (3, .int v3), (4, .int v4), (5, .int v5), (6, .int v6)] [] σ := by
  intro n
  induction n with
  | zero => intro v1 v2 v3 v4 v5 v6 σ hw; exact hw.elim
  | succ n ih =>
    intro v1 v2 v3 v4 v5 v6 σ hw
    have hw : ((3 ≤ v6 →
      vp_in 1 14 ∧ (
      ∀ σ_1 : St, σ_1 = sL σ 96 (1 : Int32).toNatClampNeg v5.toInt64 →
      ((¬ v3 = 1 →
        wbX12_words_135 post v1 v3 v4 0 2 σ_1) ∧
      (v3 = 1 →
        vp_in (32 + v4) 64 ∧ (
        vp_in ((32 * (v1 + 40)) + v4) 3232 ∧ (
        wbX12_words_135 post v1 v3 v4 (((gI σ_1 106 (32 + v4).toNatClampNeg) + (gI σ_1 101 ((32 * (v1 + 40)) + v4).toNatClampNeg)).toInt64) 2 σ_1)))))) ∧
    (¬ 3 ≤ v6 →
      vp_in (((48 * v3) + (16 * v6)) + v4) 96 ∧ (
      vp_in (((48 * (v1 + 40)) + (16 * v6)) + v4) 4848 ∧ (
      ∀ v7_2 : Int32, v7_2 = ((gI σ 105 (((48 * v3) + (16 * v6)) + v4).toNatClampNeg) + (gI σ 100 (((48 * (v1 + 40)) + (16 * v6)) + v4).toNatClampNeg)) →
      ((¬ v6 = v2 →
        ∀ v5_3 : Int32, v5_3 = (v5 + v7_2) →
        ∀ v6_4 : Int32, v6_4 = v6 + 1 →
        wbX12_words_6 post n v1 v2 v3 v4 v5_3 v6_4 σ) ∧
      (v6 = v2 →
        vp_in 0 14 ∧ (
        ∀ σ_5 : St, σ_5 = sL σ 96 (0 : Int32).toNatClampNeg v7_2.toInt64 →
        ∀ v6_6 : Int32, v6_6 = v6 + 1 →
        wbX12_words_6 post n v1 v2 v3 v4 v5 v6_6 σ_5))))))) := hw
    refine go_iload C 6 rfl dX12_words_6 ?_
    refine go_iconst (v := 3) C rfl dX12_words_8 ?_
    refine go_icmp_ge C 85 rfl dX12_words_9 (fun hc => ?_) (fun hc => ?_)
    · replace hw := hw.1 hc
      refine go_aload_n C 0 rfl rfl dX12_words_85 ?_
      refine go_get (v := .ref (G.2.2.1 96)) C (shX12 G) (ltX12 hN) lkX12_79 rfl dX12_words_86 ?_
      refine go_iconst (v := 1) C rfl dX12_words_89 ?_
      refine go_iload C 5 rfl dX12_words_90 ?_
      refine go_i2l C dX12_words_92 ?_
      refine go_last C (saX12_name G) (laX12_name hN) hw.1 dX12_words_93 (go_nm fun σ_1 eσ_1 => ?_)
      replace hw := hw.2 σ_1 eσ_1
      refine go_aload_n C 0 rfl rfl dX12_words_94 ?_
      refine go_get (v := .ref (G.2.2.1 96)) C (shX12 G) (ltX12 hN) lkX12_79 rfl dX12_words_95 ?_
      refine go_iconst (v := 2) C rfl dX12_words_98 ?_
      refine go_iload_n C 3 rfl rfl dX12_words_99 ?_
      refine go_iconst (v := 1) C rfl dX12_words_100 ?_
      refine go_icmp_ne C 134 rfl dX12_words_101 (fun hc => ?_) (fun hc => ?_)
      · replace hw := hw.1 hc
        refine go_lconst (v := 0) C rfl dX12_words_134 ?_
        refine go_sub [0, 1, 3, 4] rfl ?_
        exact (gbX12_words_135 C hr hR hnl hd hN) _ _ _ _ _ _ hw
      · replace hw := hw.2 hc
        refine go_aload_n C 0 rfl rfl dX12_words_104 ?_
        refine go_get (v := .ref (G.2.2.1 106)) C (shX12 G) (ltX12 hN) lkX12_109 rfl dX12_words_105 ?_
        refine go_bipush (v := 32) C rfl dX12_words_108 ?_
        refine go_iload C 4 rfl dX12_words_110 ?_
        refine go_iadd C dX12_words_112 ?_
        refine go_iald C (saX12_standingAhead G) (laX12_standingAhead hN) hw.1 dX12_words_113 ?_
        replace hw := hw.2
        refine go_aload_n C 0 rfl rfl dX12_words_114 ?_
        refine go_get (v := .ref (G.2.2.1 101)) C (shX12 G) (ltX12 hN) lkX12_94 rfl dX12_words_115 ?_
        refine go_bipush (v := 32) C rfl dX12_words_118 ?_
        refine go_iload_n C 1 rfl rfl dX12_words_120 ?_
        refine go_bipush (v := 40) C rfl dX12_words_121 ?_
        refine go_iadd C dX12_words_123 ?_
        refine go_imul C dX12_words_124 ?_
        refine go_iload C 4 rfl dX12_words_125 ?_
        refine go_iadd C dX12_words_127 ?_
        refine go_iald C (saX12_inStanding G) (laX12_inStanding hN) hw.1 dX12_words_128 ?_
        replace hw := hw.2
        refine go_iadd C dX12_words_129 ?_
        refine go_i2l C dX12_words_130 ?_
        refine go_goto C 135 rfl dX12_words_131 ?_
        refine go_sub [0, 1, 3, 4] rfl ?_
        exact (gbX12_words_135 C hr hR hnl hd hN) _ _ _ _ _ _ hw
    · replace hw := hw.2 hc
      refine go_aload_n C 0 rfl rfl dX12_words_12 ?_
      refine go_get (v := .ref (G.2.2.1 105)) C (shX12 G) (ltX12 hN) lkX12_106 rfl dX12_words_13 ?_
      refine go_bipush (v := 48) C rfl dX12_words_16 ?_
      refine go_iload_n C 3 rfl rfl dX12_words_18 ?_
      refine go_imul C dX12_words_19 ?_
      refine go_bipush (v := 16) C rfl dX12_words_20 ?_
      refine go_iload C 6 rfl dX12_words_22 ?_
      refine go_imul C dX12_words_24 ?_
      refine go_iadd C dX12_words_25 ?_
      refine go_iload C 4 rfl dX12_words_26 ?_
      refine go_iadd C dX12_words_28 ?_
      refine go_iald C (saX12_nearAhead G) (laX12_nearAhead hN) hw.1 dX12_words_29 ?_
      replace hw := hw.2
      refine go_aload_n C 0 rfl rfl dX12_words_30 ?_
      refine go_get (v := .ref (G.2.2.1 100)) C (shX12 G) (ltX12 hN) lkX12_91 rfl dX12_words_31 ?_
      refine go_bipush (v := 48) C rfl dX12_words_34 ?_
      refine go_iload_n C 1 rfl rfl dX12_words_36 ?_
      refine go_bipush (v := 40) C rfl dX12_words_37 ?_
      refine go_iadd C dX12_words_39 ?_
      refine go_imul C dX12_words_40 ?_
      refine go_bipush (v := 16) C rfl dX12_words_41 ?_
      refine go_iload C 6 rfl dX12_words_43 ?_
      refine go_imul C dX12_words_45 ?_
      refine go_iadd C dX12_words_46 ?_
      refine go_iload C 4 rfl dX12_words_47 ?_
      refine go_iadd C dX12_words_49 ?_
      refine go_iald C (saX12_inPlace G) (laX12_inPlace hN) hw.1 dX12_words_50 ?_
      replace hw := hw.2
      refine go_iadd C dX12_words_51 ?_
      refine go_topi (fun v7_2 ev7_2 => ?_)
      replace hw := hw v7_2 ev7_2
      refine go_istore (lv2 := [(7, .int v7_2), (0, .ref (G.2.2.1 75)), (1, .int v1), (2, .int v2), (3, .int v3), (4, .int v4), (5, .int v5), (6, .int v6)]) C (by rw [hnl]; decide) rfl dX12_words_52 ?_
      refine go_iload C 7 rfl dX12_words_54 ?_
      refine go_iload_n C 3 rfl rfl dX12_words_56 ?_
      refine go_icmp_ne C 72 rfl dX12_words_57 (fun hc => ?_) (fun hc => ?_)
      · replace hw := hw.1 hc
        refine go_iload C 6 rfl dX12_words_72 ?_
        refine go_iload C 0 rfl dX12_words_74 ?_
        refine go_iadd C dX12_words_76 ?_
        refine go_topi (fun v5_3 ev5_3 => ?_)
        replace hw := hw v5_3 ev5_3
        refine go_istore (lv2 := [(5, .int v5_3), (7, .int v7_2), (0, .ref (G.2.2.1 75)), (1, .int v1), (2, .int v2), (3, .int v3), (4, .int v4), (6, .int v6)]) C (by rw [hnl]; decide) rfl dX12_words_77 ?_
        obtain ⟨v6_4, ev6_4⟩ : ∃ z : Int32, z = v6 + 1 := ⟨_, rfl⟩
        replace hw := hw v6_4 ev6_4
        refine go_iinc (v := v6_4) (lv2 := [(6, .int v6_4), (5, .int v5_3), (7, .int v7_2), (0, .ref (G.2.2.1 75)), (1, .int v1), (2, .int v2), (3, .int v3), (4, .int v4)]) C 7 rfl (by rw [ev6_4]; rfl) (by rw [hnl]; decide) rfl dX12_words_79 ?_
        refine go_goto C 6 rfl dX12_words_82 ?_
        refine go_sub [3, 4, 5, 6, 7, 1, 0] rfl ?_
        exact ih _ _ _ _ _ _ _ hw
      · replace hw := hw.2 hc
        refine go_aload_n C 1 rfl rfl dX12_words_60 ?_
        refine go_get (v := .ref (G.2.2.1 96)) C (shX12 G) (ltX12 hN) lkX12_79 rfl dX12_words_61 ?_
        refine go_iconst (v := 0) C rfl dX12_words_64 ?_
        refine go_iload C 0 rfl dX12_words_65 ?_
        refine go_i2l C dX12_words_67 ?_
        refine go_last C (saX12_name G) (laX12_name hN) hw.1 dX12_words_68 (go_nm fun σ_5 eσ_5 => ?_)
        replace hw := hw.2 σ_5 eσ_5
        refine go_goto C 79 rfl dX12_words_69 ?_
        obtain ⟨v6_6, ev6_6⟩ : ∃ z : Int32, z = v6 + 1 := ⟨_, rfl⟩
        replace hw := hw v6_6 ev6_6
        refine go_iinc (v := v6_6) (lv2 := [(6, .int v6_6), (7, .int v7_2), (0, .ref (G.2.2.1 75)), (1, .int v1), (2, .int v2), (3, .int v3), (4, .int v4), (5, .int v5)]) C 7 rfl (by rw [ev6_6]; rfl) (by rw [hnl]; decide) rfl dX12_words_79 ?_
        refine go_goto C 6 rfl dX12_words_82 ?_
        refine go_sub [2, 3, 4, 5, 6, 7, 0] rfl ?_
        exact ih _ _ _ _ _ _ _ hw
set_option maxRecDepth 20000 in
set_option maxHeartbeats 4000000 in
theorem spX12_words {l : Launch} {G : GT} {d : Nat}  (hd : 3 ≤ d)  (hN : 119 ≤ G.2.2.2.2.2)  {a1 : Int32} {a2 : Int32} {a3 : Int32} {a4 : Int32} {σ : St} {post : St → Prop} (hw : wpX12_words  a1 a2 a3 a4 σ post) : Sp l G d yX12_words cX12_words 8 none [.ref (G.2.2.1 75), .int a1, .int a2, .int a3, .int a4] σ (fun v τ => v = none ∧ post τ) := by
  refine Sp.of (by decide) (Nat.le_of_ble_eq_true rfl) fun X C hr hR hnl => ?_
  show Go X G 0 [(0, .ref (G.2.2.1 75)), (1, .int a1), (2, .int a2), (3, .int a3), (4, .int a4)] [] σ
  have hw : ∃ m_6, wbX12_words_6 post m_6 a1 a2 a3 a4 0 0 σ := hw
  refine go_iconst (v := 0) C rfl dX12_words_0 ?_
  refine go_istore (lv2 := [(5, .int 0), (0, .ref (G.2.2.1 75)), (1, .int a1), (2, .int a2), (3, .int a3), (4, .int a4)]) C (by rw [hnl]; decide) rfl dX12_words_1 ?_
  refine go_iconst (v := 0) C rfl dX12_words_3 ?_
  refine go_istore (lv2 := [(6, .int 0), (5, .int 0), (0, .ref (G.2.2.1 75)), (1, .int a1), (2, .int a2), (3, .int a3), (4, .int a4)]) C (by rw [hnl]; decide) rfl dX12_words_4 ?_
  refine go_sub [2, 3, 4, 5, 6, 1, 0] rfl ?_
  obtain ⟨n_0, hw⟩ := hw
  exact (gbX12_words_6 C hr hR hnl hd hN) n_0 _ _ _ _ _ _ _ hw
-- CradleNamesModel.bound(J)J
set_option maxRecDepth 20000 in
set_option maxHeartbeats 4000000 in
theorem spX12_bound {l : Launch} {G : GT} {d : Nat}  (hd : 1 ≤ d)  (hN : 119 ≤ G.2.2.2.2.2)  {a1 : Int64} {σ : St} {post : Int64 → St → Prop} (hw : wpX12_bound  a1 σ post) : Sp l G d yX12_bound cX12_bound 2 (some .long) [.long a1] σ (fun v τ => ∃ r : Int64, v = some (.long r) ∧ post r τ) := by
  refine Sp.of (by decide) (Nat.le_of_ble_eq_true rfl) fun X C hr hR hnl => ?_
  show Go X G 0 [(0, .long a1)] [] σ
  have hw : ((a1 ≤ 1000000000 →
    (((-1000000000) ≤ a1 →
      post a1 σ) ∧
    (¬ (-1000000000) ≤ a1 →
      post (-1000000000) σ))) ∧
  (¬ a1 ≤ 1000000000 →
    post 1000000000 σ)) := hw
  refine go_lload_n C 0 rfl rfl dX12_bound_0 ?_
  refine go_ldc2 (v := 1000000000) C kcX12_389 dX12_bound_1 ?_
  refine go_lc_le C 14 rfl dX12_bound_4 dX12_bound_5 (fun hc => ?_) (fun hc => ?_)
  · replace hw := hw.1 hc
    refine go_lload_n C 0 rfl rfl dX12_bound_14 ?_
    refine go_ldc2 (v := (-1000000000)) C kcX12_391 dX12_bound_15 ?_
    refine go_lc_ge C 28 rfl dX12_bound_18 dX12_bound_19 (fun hc => ?_) (fun hc => ?_)
    · replace hw := hw.1 hc
      refine go_lload_n C 0 rfl rfl dX12_bound_28 ?_
      exact go_lret C hr ⟨_, rfl, hw⟩ dX12_bound_29
    · replace hw := hw.2 hc
      refine go_ldc2 (v := (-1000000000)) C kcX12_391 dX12_bound_22 ?_
      refine go_goto C 29 rfl dX12_bound_25 ?_
      exact go_lret C hr ⟨_, rfl, hw⟩ dX12_bound_29
  · replace hw := hw.2 hc
    refine go_ldc2 (v := 1000000000) C kcX12_389 dX12_bound_8 ?_
    refine go_goto C 29 rfl dX12_bound_11 ?_
    exact go_lret C hr ⟨_, rfl, hw⟩ dX12_bound_29
-- CradleNamesModel.worked(IJJ)J
set_option maxRecDepth 20000 in
set_option maxHeartbeats 4000000 in
theorem spX12_worked {l : Launch} {G : GT} {d : Nat}  (hd : 2 ≤ d)  (hN : 119 ≤ G.2.2.2.2.2)  {a1 : Int32} {a2 : Int64} {a3 : Int64} {σ : St} {post : Int64 → St → Prop} (hw : wpX12_worked  a1 a2 a3 σ post) : Sp l G d yX12_worked cX12_worked 5 (some .long) [.int a1, .long a2, .long a3] σ (fun v τ => ∃ r : Int64, v = some (.long r) ∧ post r τ) := by
  refine Sp.of (by decide) (Nat.le_of_ble_eq_true rfl) fun X C hr hR hnl => ?_
  show Go X G 0 [(0, .int a1), (1, .long a2), (3, .long a3)] [] σ
  have hw : ((a1 = 35 →
    ((a2 = a3 →
      post 0 σ) ∧
    (¬ a2 = a3 →
      post 1 σ))) ∧
  (¬ a1 = 35 →
  ((a1 = 42 →
    wpX12_bound (a2 * a3) σ (fun r_1 σ_2 =>
    post r_1 σ_2)) ∧
  (¬ a1 = 42 →
  ((a1 = 43 →
    wpX12_bound (a2 + a3) σ (fun r_3 σ_4 =>
    post r_3 σ_4)) ∧
  (¬ a1 = 43 →
  ((a1 = 45 →
    wpX12_bound (a2 - a3) σ (fun r_5 σ_6 =>
    post r_5 σ_6)) ∧
  (¬ a1 = 45 →
  ((a1 = 47 →
    ((¬ a3 = 0 →
      ¬ a3 = 0 ∧ (
      post (a2 / a3) σ)) ∧
    (a3 = 0 →
      post 0 σ))) ∧
  (¬ a1 = 47 →
  ((a1 = 60 →
    ((a3 ≤ a2 →
      post 0 σ) ∧
    (¬ a3 ≤ a2 →
      post 1 σ))) ∧
  (¬ a1 = 60 →
  ((a1 = 61 →
    ((¬ a2 = a3 →
      post 0 σ) ∧
    (a2 = a3 →
      post 1 σ))) ∧
  (¬ a1 = 61 →
  ((a1 = 62 →
    ((a2 ≤ a3 →
      post 0 σ) ∧
    (¬ a2 ≤ a3 →
      post 1 σ))) ∧
  (¬ a1 = 62 →
  ((a1 = 300 →
    ((a3 < a2 →
      post 0 σ) ∧
    (¬ a3 < a2 →
      post 1 σ))) ∧
  (¬ a1 = 300 →
  ((a1 = 301 →
    ((a2 < a3 →
      post 0 σ) ∧
    (¬ a2 < a3 →
      post 1 σ))) ∧
  (¬ a1 = 301 →
  ((a1 = 403 →
    ((a3 ≤ a2 →
      post a3 σ) ∧
    (¬ a3 ≤ a2 →
      post a2 σ))) ∧
  (¬ a1 = 403 →
  ((a1 = 404 →
    ((a2 ≤ a3 →
      post a3 σ) ∧
    (¬ a2 ≤ a3 →
      post a2 σ))) ∧
  (¬ a1 = 404 →
  ((a1 = 406 →
    post (a2 * a3) σ) ∧
  (¬ a1 = 406 →
  (((a2 + a3) ≤ 0 →
    post 0 σ) ∧
  (¬ (a2 + a3) ≤ 0 →
    post 1 σ)))))))))))))))))))))))))))) := hw
  refine go_iload_n C 0 rfl rfl dX12_worked_0 ?_
  by_cases hc0 : a1 = 35
  · replace hw := hw.1 hc0
    refine go_lookup C 211 rfl (by rw [hc0]) rfl dX12_worked_1 ?_
    refine go_lload_n C 1 rfl rfl dX12_worked_211 ?_
    refine go_lload_n C 2 rfl rfl dX12_worked_212 ?_
    refine go_lc_eq C 221 rfl dX12_worked_213 dX12_worked_214 (fun hc => ?_) (fun hc => ?_)
    · replace hw := hw.1 hc
      refine go_lconst (v := 0) C rfl dX12_worked_221 ?_
      exact go_lret C hr ⟨_, rfl, hw⟩ dX12_worked_222
    · replace hw := hw.2 hc
      refine go_lconst (v := 1) C rfl dX12_worked_217 ?_
      refine go_goto C 222 rfl dX12_worked_218 ?_
      exact go_lret C hr ⟨_, rfl, hw⟩ dX12_worked_222
  replace hw := hw.2 hc0
  by_cases hc1 : a1 = 42
  · replace hw := hw.1 hc1
    refine go_lookup C 130 rfl (by rw [hc1]) rfl dX12_worked_1 ?_
    refine go_lload_n C 1 rfl rfl dX12_worked_130 ?_
    refine go_lload_n C 2 rfl rfl dX12_worked_131 ?_
    refine go_lmul C dX12_worked_132 ?_
    refine go_callS (as := [.long (a2 * a3)]) C hR cwX12_393 (Nat.le_trans (by decide) hd) (by decide) rfl rfl (Nat.le_of_ble_eq_true rfl) dX12_worked_133 (spX12_bound (Nat.le_refl _) hN hw) (fun v_ τ_ hw => ?_)
    obtain ⟨r_1, rfl, hw⟩ := hw
    obtain ⟨σ_2, rfl⟩ : ∃ z, z = τ_ := ⟨_, rfl⟩
    exact go_lret C hr ⟨_, rfl, hw⟩ dX12_worked_136
  replace hw := hw.2 hc1
  by_cases hc2 : a1 = 43
  · replace hw := hw.1 hc2
    refine go_lookup C 116 rfl (by rw [hc2]) rfl dX12_worked_1 ?_
    refine go_lload_n C 1 rfl rfl dX12_worked_116 ?_
    refine go_lload_n C 2 rfl rfl dX12_worked_117 ?_
    refine go_ladd C dX12_worked_118 ?_
    refine go_callS (as := [.long (a2 + a3)]) C hR cwX12_393 (Nat.le_trans (by decide) hd) (by decide) rfl rfl (Nat.le_of_ble_eq_true rfl) dX12_worked_119 (spX12_bound (Nat.le_refl _) hN hw) (fun v_ τ_ hw => ?_)
    obtain ⟨r_3, rfl, hw⟩ := hw
    obtain ⟨σ_4, rfl⟩ : ∃ z, z = τ_ := ⟨_, rfl⟩
    exact go_lret C hr ⟨_, rfl, hw⟩ dX12_worked_122
  replace hw := hw.2 hc2
  by_cases hc3 : a1 = 45
  · replace hw := hw.1 hc3
    refine go_lookup C 123 rfl (by rw [hc3]) rfl dX12_worked_1 ?_
    refine go_lload_n C 1 rfl rfl dX12_worked_123 ?_
    refine go_lload_n C 2 rfl rfl dX12_worked_124 ?_
    refine go_lsub C dX12_worked_125 ?_
    refine go_callS (as := [.long (a2 - a3)]) C hR cwX12_393 (Nat.le_trans (by decide) hd) (by decide) rfl rfl (Nat.le_of_ble_eq_true rfl) dX12_worked_126 (spX12_bound (Nat.le_refl _) hN hw) (fun v_ τ_ hw => ?_)
    obtain ⟨r_5, rfl, hw⟩ := hw
    obtain ⟨σ_6, rfl⟩ : ∃ z, z = τ_ := ⟨_, rfl⟩
    exact go_lret C hr ⟨_, rfl, hw⟩ dX12_worked_129
  replace hw := hw.2 hc3
  by_cases hc4 : a1 = 47
  · replace hw := hw.1 hc4
    refine go_lookup C 137 rfl (by rw [hc4]) rfl dX12_worked_1 ?_
    refine go_lload_n C 2 rfl rfl dX12_worked_137 ?_
    refine go_lconst (v := 0) C rfl dX12_worked_138 ?_
    refine go_lc_ne C 147 rfl dX12_worked_139 dX12_worked_140 (fun hc => ?_) (fun hc => ?_)
    · replace hw := hw.1 hc
      refine go_lload_n C 1 rfl rfl dX12_worked_147 ?_
      refine go_lload_n C 2 rfl rfl dX12_worked_148 ?_
      refine go_ldiv C hw.1 dX12_worked_149 ?_
      replace hw := hw.2
      exact go_lret C hr ⟨_, rfl, hw⟩ dX12_worked_150
    · replace hw := hw.2 hc
      refine go_lconst (v := 0) C rfl dX12_worked_143 ?_
      refine go_goto C 150 rfl dX12_worked_144 ?_
      exact go_lret C hr ⟨_, rfl, hw⟩ dX12_worked_150
  replace hw := hw.2 hc4
  by_cases hc5 : a1 = 60
  · replace hw := hw.1 hc5
    refine go_lookup C 175 rfl (by rw [hc5]) rfl dX12_worked_1 ?_
    refine go_lload_n C 1 rfl rfl dX12_worked_175 ?_
    refine go_lload_n C 2 rfl rfl dX12_worked_176 ?_
    refine go_lc_ge C 185 rfl dX12_worked_177 dX12_worked_178 (fun hc => ?_) (fun hc => ?_)
    · replace hw := hw.1 hc
      refine go_lconst (v := 0) C rfl dX12_worked_185 ?_
      exact go_lret C hr ⟨_, rfl, hw⟩ dX12_worked_186
    · replace hw := hw.2 hc
      refine go_lconst (v := 1) C rfl dX12_worked_181 ?_
      refine go_goto C 186 rfl dX12_worked_182 ?_
      exact go_lret C hr ⟨_, rfl, hw⟩ dX12_worked_186
  replace hw := hw.2 hc5
  by_cases hc6 : a1 = 61
  · replace hw := hw.1 hc6
    refine go_lookup C 199 rfl (by rw [hc6]) rfl dX12_worked_1 ?_
    refine go_lload_n C 1 rfl rfl dX12_worked_199 ?_
    refine go_lload_n C 2 rfl rfl dX12_worked_200 ?_
    refine go_lc_ne C 209 rfl dX12_worked_201 dX12_worked_202 (fun hc => ?_) (fun hc => ?_)
    · replace hw := hw.1 hc
      refine go_lconst (v := 0) C rfl dX12_worked_209 ?_
      exact go_lret C hr ⟨_, rfl, hw⟩ dX12_worked_210
    · replace hw := hw.2 hc
      refine go_lconst (v := 1) C rfl dX12_worked_205 ?_
      refine go_goto C 210 rfl dX12_worked_206 ?_
      exact go_lret C hr ⟨_, rfl, hw⟩ dX12_worked_210
  replace hw := hw.2 hc6
  by_cases hc7 : a1 = 62
  · replace hw := hw.1 hc7
    refine go_lookup C 187 rfl (by rw [hc7]) rfl dX12_worked_1 ?_
    refine go_lload_n C 1 rfl rfl dX12_worked_187 ?_
    refine go_lload_n C 2 rfl rfl dX12_worked_188 ?_
    refine go_lc_le C 197 rfl dX12_worked_189 dX12_worked_190 (fun hc => ?_) (fun hc => ?_)
    · replace hw := hw.1 hc
      refine go_lconst (v := 0) C rfl dX12_worked_197 ?_
      exact go_lret C hr ⟨_, rfl, hw⟩ dX12_worked_198
    · replace hw := hw.2 hc
      refine go_lconst (v := 1) C rfl dX12_worked_193 ?_
      refine go_goto C 198 rfl dX12_worked_194 ?_
      exact go_lret C hr ⟨_, rfl, hw⟩ dX12_worked_198
  replace hw := hw.2 hc7
  by_cases hc8 : a1 = 300
  · replace hw := hw.1 hc8
    refine go_lookup C 223 rfl (by rw [hc8]) rfl dX12_worked_1 ?_
    refine go_lload_n C 1 rfl rfl dX12_worked_223 ?_
    refine go_lload_n C 2 rfl rfl dX12_worked_224 ?_
    refine go_lc_gt C 233 rfl dX12_worked_225 dX12_worked_226 (fun hc => ?_) (fun hc => ?_)
    · replace hw := hw.1 hc
      refine go_lconst (v := 0) C rfl dX12_worked_233 ?_
      exact go_lret C hr ⟨_, rfl, hw⟩ dX12_worked_234
    · replace hw := hw.2 hc
      refine go_lconst (v := 1) C rfl dX12_worked_229 ?_
      refine go_goto C 234 rfl dX12_worked_230 ?_
      exact go_lret C hr ⟨_, rfl, hw⟩ dX12_worked_234
  replace hw := hw.2 hc8
  by_cases hc9 : a1 = 301
  · replace hw := hw.1 hc9
    refine go_lookup C 235 rfl (by rw [hc9]) rfl dX12_worked_1 ?_
    refine go_lload_n C 1 rfl rfl dX12_worked_235 ?_
    refine go_lload_n C 2 rfl rfl dX12_worked_236 ?_
    refine go_lc_lt C 245 rfl dX12_worked_237 dX12_worked_238 (fun hc => ?_) (fun hc => ?_)
    · replace hw := hw.1 hc
      refine go_lconst (v := 0) C rfl dX12_worked_245 ?_
      exact go_lret C hr ⟨_, rfl, hw⟩ dX12_worked_246
    · replace hw := hw.2 hc
      refine go_lconst (v := 1) C rfl dX12_worked_241 ?_
      refine go_goto C 246 rfl dX12_worked_242 ?_
      exact go_lret C hr ⟨_, rfl, hw⟩ dX12_worked_246
  replace hw := hw.2 hc9
  by_cases hc10 : a1 = 403
  · replace hw := hw.1 hc10
    refine go_lookup C 151 rfl (by rw [hc10]) rfl dX12_worked_1 ?_
    refine go_lload_n C 1 rfl rfl dX12_worked_151 ?_
    refine go_lload_n C 2 rfl rfl dX12_worked_152 ?_
    refine go_lc_ge C 161 rfl dX12_worked_153 dX12_worked_154 (fun hc => ?_) (fun hc => ?_)
    · replace hw := hw.1 hc
      refine go_lload_n C 2 rfl rfl dX12_worked_161 ?_
      exact go_lret C hr ⟨_, rfl, hw⟩ dX12_worked_162
    · replace hw := hw.2 hc
      refine go_lload_n C 1 rfl rfl dX12_worked_157 ?_
      refine go_goto C 162 rfl dX12_worked_158 ?_
      exact go_lret C hr ⟨_, rfl, hw⟩ dX12_worked_162
  replace hw := hw.2 hc10
  by_cases hc11 : a1 = 404
  · replace hw := hw.1 hc11
    refine go_lookup C 163 rfl (by rw [hc11]) rfl dX12_worked_1 ?_
    refine go_lload_n C 1 rfl rfl dX12_worked_163 ?_
    refine go_lload_n C 2 rfl rfl dX12_worked_164 ?_
    refine go_lc_le C 173 rfl dX12_worked_165 dX12_worked_166 (fun hc => ?_) (fun hc => ?_)
    · replace hw := hw.1 hc
      refine go_lload_n C 2 rfl rfl dX12_worked_173 ?_
      exact go_lret C hr ⟨_, rfl, hw⟩ dX12_worked_174
    · replace hw := hw.2 hc
      refine go_lload_n C 1 rfl rfl dX12_worked_169 ?_
      refine go_goto C 174 rfl dX12_worked_170 ?_
      exact go_lret C hr ⟨_, rfl, hw⟩ dX12_worked_174
  replace hw := hw.2 hc11
  by_cases hc12 : a1 = 406
  · replace hw := hw.1 hc12
    refine go_lookup C 247 rfl (by rw [hc12]) rfl dX12_worked_1 ?_
    refine go_lload_n C 1 rfl rfl dX12_worked_247 ?_
    refine go_lload_n C 2 rfl rfl dX12_worked_248 ?_
    refine go_lmul C dX12_worked_249 ?_
    exact go_lret C hr ⟨_, rfl, hw⟩ dX12_worked_250
  replace hw := hw.2 hc12
  refine go_lookup C 251 rfl ((lv_osw hc0 (k := 35) (a := 35) rfl).trans ((lv_osw hc1 (k := 42) (a := 42) rfl).trans ((lv_osw hc2 (k := 43) (a := 43) rfl).trans ((lv_osw hc3 (k := 45) (a := 45) rfl).trans ((lv_osw hc4 (k := 47) (a := 47) rfl).trans ((lv_osw hc5 (k := 60) (a := 60) rfl).trans ((lv_osw hc6 (k := 61) (a := 61) rfl).trans ((lv_osw hc7 (k := 62) (a := 62) rfl).trans ((lv_osw hc8 (k := 300) (a := 300) rfl).trans ((lv_osw hc9 (k := 301) (a := 301) rfl).trans ((lv_osw hc10 (k := 403) (a := 403) rfl).trans ((lv_osw hc11 (k := 404) (a := 404) rfl).trans ((lv_osw hc12 (k := 406) (a := 406) rfl).trans (rfl)))))))))))))) rfl dX12_worked_1 ?_
  refine go_lload_n C 1 rfl rfl dX12_worked_251 ?_
  refine go_lload_n C 2 rfl rfl dX12_worked_252 ?_
  refine go_ladd C dX12_worked_253 ?_
  refine go_lconst (v := 0) C rfl dX12_worked_254 ?_
  refine go_lc_le C 263 rfl dX12_worked_255 dX12_worked_256 (fun hc => ?_) (fun hc => ?_)
  · replace hw := hw.1 hc
    refine go_lconst (v := 0) C rfl dX12_worked_263 ?_
    exact go_lret C hr ⟨_, rfl, hw⟩ dX12_worked_264
  · replace hw := hw.2 hc
    refine go_lconst (v := 1) C rfl dX12_worked_259 ?_
    refine go_goto C 264 rfl dX12_worked_260 ?_
    exact go_lret C hr ⟨_, rfl, hw⟩ dX12_worked_264
-- CradleNamesModel.tells(I)J
set_option maxRecDepth 20000 in
set_option maxHeartbeats 4000000 in
theorem gbX12_tells_40 {X : XT} {G : GT} {l : Launch} {d : Nat}  {post : Int64 → St → Prop} (C : Cx X G cX12_tells RX12) (hr : Rt X G (some .long) (fun v τ => ∃ r : Int64, v = some (.long r) ∧ post r τ)) (hR : Rm X l d) (hnl : X.2.2.2.2.2.2.2.2.2.2.1 = 5)  (hd : 3 ≤ d) (hN : 119 ≤ G.2.2.2.2.2)  {K4 : Int32 → Int32 → St → Prop} (hK4 : ∀ (v2 : Int32) (v3 : Int32) (σ : St), K4 v2 v3 σ → Go X G 4 [(0, .ref (G.2.2.1 75)), (2, .int v2), (3, .int v3)] [] σ)
    : ∀ (v2 : Int32) (v3 : Int32) (v4 : Int32) (σ : St), wbX12_tells_40  K4 post v2 v3 v4 σ → Go X G 40 [(0, .ref (G.2.2.1 75)), (2, .int v2), (3, .int v3), (4, .int v4)] [] σ := by
  intro v2 v3 v4 σ hw
  have hw : ((¬ v4 = 400 →
    vp_in v3 2400 ∧ (
    vp_in (gI σ 86 v3.toNatClampNeg) 14 ∧ (
    vp_in v2 200 ∧ (
    ∀ σ_1 : St, σ_1 = sL σ 97 v2.toNatClampNeg (gL σ 96 (gI σ 86 v3.toNatClampNeg).toNatClampNeg) →
    ∀ v2_2 : Int32, v2_2 = v2 + 1 →
    ∀ v3_3 : Int32, v3_3 = v3 + 1 →
    K4 v2_2 v3_3 σ_1)))) ∧
  (v4 = 400 →
    vp_in v3 2400 ∧ (
    vp_in v2 200 ∧ (
    ∀ σ_4 : St, σ_4 = sL σ 97 v2.toNatClampNeg ((gI σ 86 v3.toNatClampNeg).toInt64) →
    ∀ v2_5 : Int32, v2_5 = v2 + 1 →
    ∀ v3_6 : Int32, v3_6 = v3 + 1 →
    K4 v2_5 v3_6 σ_4)))) := hw
  refine go_aload_n C 0 rfl rfl dX12_tells_40 ?_
  refine go_get (v := .ref (G.2.2.1 97)) C (shX12 G) (ltX12 hN) lkX12_82 rfl dX12_tells_41 ?_
  refine go_iload_n C 1 rfl rfl dX12_tells_44 ?_
  refine go_iload C 3 rfl dX12_tells_45 ?_
  refine go_sipush (v := 400) C rfl dX12_tells_47 ?_
  refine go_icmp_ne C 63 rfl dX12_tells_50 (fun hc => ?_) (fun hc => ?_)
  · replace hw := hw.1 hc
    refine go_aload_n C 0 rfl rfl dX12_tells_63 ?_
    refine go_get (v := .ref (G.2.2.1 96)) C (shX12 G) (ltX12 hN) lkX12_79 rfl dX12_tells_64 ?_
    refine go_aload_n C 0 rfl rfl dX12_tells_67 ?_
    refine go_get (v := .ref (G.2.2.1 86)) C (shX12 G) (ltX12 hN) lkX12_49 rfl dX12_tells_68 ?_
    refine go_iload_n C 2 rfl rfl dX12_tells_71 ?_
    refine go_iald C (saX12_value G) (laX12_value hN) hw.1 dX12_tells_72 ?_
    replace hw := hw.2
    refine go_lald C (saX12_name G) (laX12_name hN) hw.1 dX12_tells_73 ?_
    replace hw := hw.2
    refine go_last C (saX12_pile G) (laX12_pile hN) hw.1 dX12_tells_74 (go_nm fun σ_1 eσ_1 => ?_)
    replace hw := hw.2 σ_1 eσ_1
    obtain ⟨v2_2, ev2_2⟩ : ∃ z : Int32, z = v2 + 1 := ⟨_, rfl⟩
    replace hw := hw v2_2 ev2_2
    refine go_iinc (v := v2_2) (lv2 := [(2, .int v2_2), (0, .ref (G.2.2.1 75)), (3, .int v3), (4, .int v4)]) C 1 rfl (by rw [ev2_2]; rfl) (by rw [hnl]; decide) rfl dX12_tells_75 ?_
    refine go_goto C 168 rfl dX12_tells_78 ?_
    obtain ⟨v3_3, ev3_3⟩ : ∃ z : Int32, z = v3 + 1 := ⟨_, rfl⟩
    replace hw := hw v3_3 ev3_3
    refine go_iinc (v := v3_3) (lv2 := [(3, .int v3_3), (2, .int v2_2), (0, .ref (G.2.2.1 75)), (4, .int v4)]) C 2 rfl (by rw [ev3_3]; rfl) (by rw [hnl]; decide) rfl dX12_tells_168 ?_
    refine go_goto C 4 rfl dX12_tells_171 ?_
    refine go_sub [2, 1, 0] rfl ?_
    exact hK4 _ _ _ hw
  · replace hw := hw.2 hc
    refine go_aload_n C 0 rfl rfl dX12_tells_53 ?_
    refine go_get (v := .ref (G.2.2.1 86)) C (shX12 G) (ltX12 hN) lkX12_49 rfl dX12_tells_54 ?_
    refine go_iload_n C 2 rfl rfl dX12_tells_57 ?_
    refine go_iald C (saX12_value G) (laX12_value hN) hw.1 dX12_tells_58 ?_
    replace hw := hw.2
    refine go_i2l C dX12_tells_59 ?_
    refine go_goto C 74 rfl dX12_tells_60 ?_
    refine go_last C (saX12_pile G) (laX12_pile hN) hw.1 dX12_tells_74 (go_nm fun σ_4 eσ_4 => ?_)
    replace hw := hw.2 σ_4 eσ_4
    obtain ⟨v2_5, ev2_5⟩ : ∃ z : Int32, z = v2 + 1 := ⟨_, rfl⟩
    replace hw := hw v2_5 ev2_5
    refine go_iinc (v := v2_5) (lv2 := [(2, .int v2_5), (0, .ref (G.2.2.1 75)), (3, .int v3), (4, .int v4)]) C 1 rfl (by rw [ev2_5]; rfl) (by rw [hnl]; decide) rfl dX12_tells_75 ?_
    refine go_goto C 168 rfl dX12_tells_78 ?_
    obtain ⟨v3_6, ev3_6⟩ : ∃ z : Int32, z = v3 + 1 := ⟨_, rfl⟩
    replace hw := hw v3_6 ev3_6
    refine go_iinc (v := v3_6) (lv2 := [(3, .int v3_6), (2, .int v2_5), (0, .ref (G.2.2.1 75)), (4, .int v4)]) C 2 rfl (by rw [ev3_6]; rfl) (by rw [hnl]; decide) rfl dX12_tells_168 ?_
    refine go_goto C 4 rfl dX12_tells_171 ?_
    refine go_sub [2, 1, 0] rfl ?_
    exact hK4 _ _ _ hw
set_option maxRecDepth 20000 in
set_option maxHeartbeats 4000000 in
theorem gbX12_tells_4 {X : XT} {G : GT} {l : Launch} {d : Nat}  {post : Int64 → St → Prop} (C : Cx X G cX12_tells RX12) (hr : Rt X G (some .long) (fun v τ => ∃ r : Int64, v = some (.long r) ∧ post r τ)) (hR : Rm X l d) (hnl : X.2.2.2.2.2.2.2.2.2.2.1 = 5)  (hd : 3 ≤ d) (hN : 119 ≤ G.2.2.2.2.2)   
    : ∀ (n : Nat) (v2 : Int32) (v3 : Int32) (σ : St), wbX12_tells_4   post n v2 v3 σ → Go X G 4 [(0, .ref (G.2.2.1 75)), (2, .int v2), (3, .int v3)] [] σ := by
  intro n
  induction n with
  | zero => intro v2 v3 σ hw; exact hw.elim
  | succ n ih =>
    intro v2 v3 σ hw
    have hw : vp_in v3 2400 ∧ (
    (((gI σ 85 v3.toNatClampNeg) = 408 →
      vp_in 0 200 ∧ (
      post (gL σ 97 (0 : Int32).toNatClampNeg) σ)) ∧
    (¬ (gI σ 85 v3.toNatClampNeg) = 408 →
      vp_in v3 2400 ∧ (
      ∀ v4_1 : Int32, v4_1 = (gI σ 85 v3.toNatClampNeg) →
      ((v4_1 = 400 →
        wbX12_tells_40 (wbX12_tells_4 post n) post v2 v3 v4_1 σ) ∧
      (¬ v4_1 = 400 →
        ((¬ v4_1 = 401 →
          ((¬ v4_1 = 402 →
            ((¬ v4_1 = 405 →
              ∀ v2_2 : Int32, v2_2 = v2 + (-1) →
              vp_in (v2_2 - 1) 200 ∧ (
              vp_in v2_2 200 ∧ (
              wpX12_worked v4_1 (gL σ 97 (v2_2 - 1).toNatClampNeg) (gL σ 97 v2_2.toNatClampNeg) σ (fun r_3 σ_4 =>
              vp_in (v2_2 - 1) 200 ∧ (
              ∀ σ_5 : St, σ_5 = sL σ_4 97 (v2_2 - 1).toNatClampNeg r_3 →
              ∀ v3_6 : Int32, v3_6 = v3 + 1 →
              wbX12_tells_4 post n v2_2 v3_6 σ_5))))) ∧
            (v4_1 = 405 →
              vp_in (v2 - 1) 200 ∧ (
              vp_in (v2 - 1) 200 ∧ (
              ∀ σ_7 : St, σ_7 = sL σ 97 (v2 - 1).toNatClampNeg (1 - (gL σ 97 (v2 - 1).toNatClampNeg)) →
              ∀ v3_8 : Int32, v3_8 = v3 + 1 →
              wbX12_tells_4 post n v2 v3_8 σ_7))))) ∧
          (v4_1 = 402 →
            vp_in (v2 - 1) 200 ∧ (
            vp_in (v2 - 1) 200 ∧ (
            ∀ σ_9 : St, σ_9 = sL σ 97 (v2 - 1).toNatClampNeg (-(gL σ 97 (v2 - 1).toNatClampNeg)) →
            ∀ v3_10 : Int32, v3_10 = v3 + 1 →
            wbX12_tells_4 post n v2 v3_10 σ_9))))) ∧
        (v4_1 = 401 →
          wbX12_tells_40 (wbX12_tells_4 post n) post v2 v3 v4_1 σ)))))))) := hw
    refine go_aload_n C 0 rfl rfl dX12_tells_4 ?_
    refine go_get (v := .ref (G.2.2.1 85)) C (shX12 G) (ltX12 hN) lkX12_46 rfl dX12_tells_5 ?_
    refine go_iload_n C 2 rfl rfl dX12_tells_8 ?_
    refine go_iald C (saX12_order G) (laX12_order hN) hw.1 dX12_tells_9 ?_
    replace hw := hw.2
    refine go_sipush (v := 408) C rfl dX12_tells_10 ?_
    refine go_icmp_eq C 174 rfl dX12_tells_13 (fun hc => ?_) (fun hc => ?_)
    · replace hw := hw.1 hc
      refine go_aload_n C 0 rfl rfl dX12_tells_174 ?_
      refine go_get (v := .ref (G.2.2.1 97)) C (shX12 G) (ltX12 hN) lkX12_82 rfl dX12_tells_175 ?_
      refine go_iconst (v := 0) C rfl dX12_tells_178 ?_
      refine go_lald C (saX12_pile G) (laX12_pile hN) hw.1 dX12_tells_179 ?_
      replace hw := hw.2
      exact go_lret C hr ⟨_, rfl, hw⟩ dX12_tells_180
    · replace hw := hw.2 hc
      refine go_aload_n C 0 rfl rfl dX12_tells_16 ?_
      refine go_get (v := .ref (G.2.2.1 85)) C (shX12 G) (ltX12 hN) lkX12_46 rfl dX12_tells_17 ?_
      refine go_iload_n C 2 rfl rfl dX12_tells_20 ?_
      refine go_iald C (saX12_order G) (laX12_order hN) hw.1 dX12_tells_21 ?_
      replace hw := hw.2
      refine go_topi (fun v4_1 ev4_1 => ?_)
      replace hw := hw v4_1 ev4_1
      refine go_istore (lv2 := [(4, .int v4_1), (0, .ref (G.2.2.1 75)), (2, .int v2), (3, .int v3)]) C (by rw [hnl]; decide) rfl dX12_tells_22 ?_
      refine go_iload C 0 rfl dX12_tells_24 ?_
      refine go_sipush (v := 400) C rfl dX12_tells_26 ?_
      refine go_icmp_eq C 40 rfl dX12_tells_29 (fun hc => ?_) (fun hc => ?_)
      · replace hw := hw.1 hc
        refine go_sub [1, 2, 3, 0] rfl ?_
        exact (gbX12_tells_40 C hr hR hnl hd hN ih) _ _ _ _ hw
      · replace hw := hw.2 hc
        refine go_iload C 0 rfl dX12_tells_32 ?_
        refine go_sipush (v := 401) C rfl dX12_tells_34 ?_
        refine go_icmp_ne C 81 rfl dX12_tells_37 (fun hc => ?_) (fun hc => ?_)
        · replace hw := hw.1 hc
          refine go_iload C 0 rfl dX12_tells_81 ?_
          refine go_sipush (v := 402) C rfl dX12_tells_83 ?_
          refine go_icmp_ne C 109 rfl dX12_tells_86 (fun hc => ?_) (fun hc => ?_)
          · replace hw := hw.1 hc
            refine go_iload C 0 rfl dX12_tells_109 ?_
            refine go_sipush (v := 405) C rfl dX12_tells_111 ?_
            refine go_icmp_ne C 138 rfl dX12_tells_114 (fun hc => ?_) (fun hc => ?_)
            · replace hw := hw.1 hc
              obtain ⟨v2_2, ev2_2⟩ : ∃ z : Int32, z = v2 + (-1) := ⟨_, rfl⟩
              replace hw := hw v2_2 ev2_2
              refine go_iinc (v := v2_2) (lv2 := [(2, .int v2_2), (4, .int v4_1), (0, .ref (G.2.2.1 75)), (3, .int v3)]) C 2 rfl (by rw [ev2_2]; rfl) (by rw [hnl]; decide) rfl dX12_tells_138 ?_
              refine go_aload_n C 2 rfl rfl dX12_tells_141 ?_
              refine go_get (v := .ref (G.2.2.1 97)) C (shX12 G) (ltX12 hN) lkX12_82 rfl dX12_tells_142 ?_
              refine go_iload_n C 0 rfl rfl dX12_tells_145 ?_
              refine go_iconst (v := 1) C rfl dX12_tells_146 ?_
              refine go_isub C dX12_tells_147 ?_
              refine go_iload C 1 rfl dX12_tells_148 ?_
              refine go_aload_n C 2 rfl rfl dX12_tells_150 ?_
              refine go_get (v := .ref (G.2.2.1 97)) C (shX12 G) (ltX12 hN) lkX12_82 rfl dX12_tells_151 ?_
              refine go_iload_n C 0 rfl rfl dX12_tells_154 ?_
              refine go_iconst (v := 1) C rfl dX12_tells_155 ?_
              refine go_isub C dX12_tells_156 ?_
              refine go_lald C (saX12_pile G) (laX12_pile hN) hw.1 dX12_tells_157 ?_
              replace hw := hw.2
              refine go_aload_n C 2 rfl rfl dX12_tells_158 ?_
              refine go_get (v := .ref (G.2.2.1 97)) C (shX12 G) (ltX12 hN) lkX12_82 rfl dX12_tells_159 ?_
              refine go_iload_n C 0 rfl rfl dX12_tells_162 ?_
              refine go_lald C (saX12_pile G) (laX12_pile hN) hw.1 dX12_tells_163 ?_
              replace hw := hw.2
              refine go_callS (as := [.int v4_1, .long (gL σ 97 (v2_2 - 1).toNatClampNeg), .long (gL σ 97 v2_2.toNatClampNeg)]) C hR cwX12_396 (Nat.le_trans (by decide) hd) (by decide) rfl rfl (Nat.le_of_ble_eq_true rfl) dX12_tells_164 (spX12_worked (Nat.le_refl _) hN hw) (fun v_ τ_ hw => ?_)
              obtain ⟨r_3, rfl, hw⟩ := hw
              obtain ⟨σ_4, rfl⟩ : ∃ z, z = τ_ := ⟨_, rfl⟩
              refine go_last C (saX12_pile G) (laX12_pile hN) hw.1 dX12_tells_167 (go_nm fun σ_5 eσ_5 => ?_)
              replace hw := hw.2 σ_5 eσ_5
              obtain ⟨v3_6, ev3_6⟩ : ∃ z : Int32, z = v3 + 1 := ⟨_, rfl⟩
              replace hw := hw v3_6 ev3_6
              refine go_iinc (v := v3_6) (lv2 := [(3, .int v3_6), (2, .int v2_2), (4, .int v4_1), (0, .ref (G.2.2.1 75))]) C 3 rfl (by rw [ev3_6]; rfl) (by rw [hnl]; decide) rfl dX12_tells_168 ?_
              refine go_goto C 4 rfl dX12_tells_171 ?_
              refine go_sub [3, 1, 0] rfl ?_
              exact ih _ _ _ hw
            · replace hw := hw.2 hc
              refine go_aload_n C 1 rfl rfl dX12_tells_117 ?_
              refine go_get (v := .ref (G.2.2.1 97)) C (shX12 G) (ltX12 hN) lkX12_82 rfl dX12_tells_118 ?_
              refine go_iload_n C 2 rfl rfl dX12_tells_121 ?_
              refine go_iconst (v := 1) C rfl dX12_tells_122 ?_
              refine go_isub C dX12_tells_123 ?_
              refine go_lconst (v := 1) C rfl dX12_tells_124 ?_
              refine go_aload_n C 1 rfl rfl dX12_tells_125 ?_
              refine go_get (v := .ref (G.2.2.1 97)) C (shX12 G) (ltX12 hN) lkX12_82 rfl dX12_tells_126 ?_
              refine go_iload_n C 2 rfl rfl dX12_tells_129 ?_
              refine go_iconst (v := 1) C rfl dX12_tells_130 ?_
              refine go_isub C dX12_tells_131 ?_
              refine go_lald C (saX12_pile G) (laX12_pile hN) hw.1 dX12_tells_132 ?_
              replace hw := hw.2
              refine go_lsub C dX12_tells_133 ?_
              refine go_last C (saX12_pile G) (laX12_pile hN) hw.1 dX12_tells_134 (go_nm fun σ_7 eσ_7 => ?_)
              replace hw := hw.2 σ_7 eσ_7
              refine go_goto C 168 rfl dX12_tells_135 ?_
              obtain ⟨v3_8, ev3_8⟩ : ∃ z : Int32, z = v3 + 1 := ⟨_, rfl⟩
              replace hw := hw v3_8 ev3_8
              refine go_iinc (v := v3_8) (lv2 := [(3, .int v3_8), (4, .int v4_1), (0, .ref (G.2.2.1 75)), (2, .int v2)]) C 3 rfl (by rw [ev3_8]; rfl) (by rw [hnl]; decide) rfl dX12_tells_168 ?_
              refine go_goto C 4 rfl dX12_tells_171 ?_
              refine go_sub [2, 3, 0] rfl ?_
              exact ih _ _ _ hw
          · replace hw := hw.2 hc
            refine go_aload_n C 1 rfl rfl dX12_tells_89 ?_
            refine go_get (v := .ref (G.2.2.1 97)) C (shX12 G) (ltX12 hN) lkX12_82 rfl dX12_tells_90 ?_
            refine go_iload_n C 2 rfl rfl dX12_tells_93 ?_
            refine go_iconst (v := 1) C rfl dX12_tells_94 ?_
            refine go_isub C dX12_tells_95 ?_
            refine go_aload_n C 1 rfl rfl dX12_tells_96 ?_
            refine go_get (v := .ref (G.2.2.1 97)) C (shX12 G) (ltX12 hN) lkX12_82 rfl dX12_tells_97 ?_
            refine go_iload_n C 2 rfl rfl dX12_tells_100 ?_
            refine go_iconst (v := 1) C rfl dX12_tells_101 ?_
            refine go_isub C dX12_tells_102 ?_
            refine go_lald C (saX12_pile G) (laX12_pile hN) hw.1 dX12_tells_103 ?_
            replace hw := hw.2
            refine go_lneg C dX12_tells_104 ?_
            refine go_last C (saX12_pile G) (laX12_pile hN) hw.1 dX12_tells_105 (go_nm fun σ_9 eσ_9 => ?_)
            replace hw := hw.2 σ_9 eσ_9
            refine go_goto C 168 rfl dX12_tells_106 ?_
            obtain ⟨v3_10, ev3_10⟩ : ∃ z : Int32, z = v3 + 1 := ⟨_, rfl⟩
            replace hw := hw v3_10 ev3_10
            refine go_iinc (v := v3_10) (lv2 := [(3, .int v3_10), (4, .int v4_1), (0, .ref (G.2.2.1 75)), (2, .int v2)]) C 3 rfl (by rw [ev3_10]; rfl) (by rw [hnl]; decide) rfl dX12_tells_168 ?_
            refine go_goto C 4 rfl dX12_tells_171 ?_
            refine go_sub [2, 3, 0] rfl ?_
            exact ih _ _ _ hw
        · replace hw := hw.2 hc
          refine go_sub [1, 2, 3, 0] rfl ?_
          exact (gbX12_tells_40 C hr hR hnl hd hN ih) _ _ _ _ hw
set_option maxRecDepth 20000 in
set_option maxHeartbeats 4000000 in
theorem spX12_tells {l : Launch} {G : GT} {d : Nat}  (hd : 3 ≤ d)  (hN : 119 ≤ G.2.2.2.2.2)  {a1 : Int32} {σ : St} {post : Int64 → St → Prop} (hw : wpX12_tells  a1 σ post) : Sp l G d yX12_tells cX12_tells 5 (some .long) [.ref (G.2.2.1 75), .int a1] σ (fun v τ => ∃ r : Int64, v = some (.long r) ∧ post r τ) := by
  refine Sp.of (by decide) (Nat.le_of_ble_eq_true rfl) fun X C hr hR hnl => ?_
  show Go X G 0 [(0, .ref (G.2.2.1 75)), (1, .int a1)] [] σ
  have hw : ∃ m_4, wbX12_tells_4 post m_4 0 a1 σ := hw
  refine go_iconst (v := 0) C rfl dX12_tells_0 ?_
  refine go_istore_n (lv2 := [(2, .int 0), (0, .ref (G.2.2.1 75)), (1, .int a1)]) C rfl (by rw [hnl]; decide) rfl dX12_tells_1 ?_
  refine go_iload_n C 2 rfl rfl dX12_tells_2 ?_
  refine go_istore_n (lv2 := [(3, .int a1), (2, .int 0), (0, .ref (G.2.2.1 75)), (1, .int a1)]) C rfl (by rw [hnl]; decide) rfl dX12_tells_3 ?_
  refine go_sub [2, 1, 0] rfl ?_
  obtain ⟨n_0, hw⟩ := hw
  exact (gbX12_tells_4 C hr hR hnl hd hN) n_0 _ _ _ hw
-- CradleNamesModel.isBarred(I)Z
set_option maxRecDepth 20000 in
set_option maxHeartbeats 4000000 in
theorem gbX12_isBarred_4 {X : XT} {G : GT} {l : Launch} {d : Nat}  {post : Int32 → St → Prop} (C : Cx X G cX12_isBarred RX12) (hr : Rt X G (some .boolean) (fun v τ => ∃ r : Int32, v = some (.int r) ∧ post r τ)) (hR : Rm X l d) (hnl : X.2.2.2.2.2.2.2.2.2.2.1 = 4)  (hd : 4 ≤ d) (hN : 119 ≤ G.2.2.2.2.2)   
    : ∀ (n : Nat) (v1 : Int32) (v2 : Int32) (v3 : Int32) (σ : St), wbX12_isBarred_4   post n v1 v2 v3 σ → Go X G 4 [(0, .ref (G.2.2.1 75)), (1, .int v1), (2, .int v2), (3, .int v3)] [] σ := by
  intro n
  induction n with
  | zero => intro v1 v2 v3 σ hw; exact hw.elim
  | succ n ih =>
    intro v1 v2 v3 σ hw
    have hw : vp_in v1 6 ∧ (
    (((gI σ 80 v1.toNatClampNeg) ≤ v3 →
      (v2 = 0 ∨ v2 = 1) ∧ post v2 σ) ∧
    (¬ (gI σ 80 v1.toNatClampNeg) ≤ v3 →
      vp_in ((12 * v1) + v3) 72 ∧ (
      ((¬ (gI σ 81 ((12 * v1) + v3).toNatClampNeg) = 1 →
        ∀ v3_1 : Int32, v3_1 = v3 + 1 →
        wbX12_isBarred_4 post n v1 v2 v3_1 σ) ∧
      ((gI σ 81 ((12 * v1) + v3).toNatClampNeg) = 1 →
        ((¬ v2 = 0 →
          ∀ v3_2 : Int32, v3_2 = v3 + 1 →
          wbX12_isBarred_4 post n v1 1 v3_2 σ) ∧
        (v2 = 0 →
          vp_in ((12 * v1) + v3) 72 ∧ (
          wpX12_tells (gI σ 82 ((12 * v1) + v3).toNatClampNeg) σ (fun r_3 σ_4 =>
          ((r_3 ≤ 0 →
            ∀ v3_5 : Int32, v3_5 = v3 + 1 →
            wbX12_isBarred_4 post n v1 0 v3_5 σ_4) ∧
          (¬ r_3 ≤ 0 →
            ∀ v3_6 : Int32, v3_6 = v3 + 1 →
            wbX12_isBarred_4 post n v1 1 v3_6 σ_4)))))))))))) := hw
    refine go_iload_n C 3 rfl rfl dX12_isBarred_4 ?_
    refine go_aload_n C 0 rfl rfl dX12_isBarred_5 ?_
    refine go_get (v := .ref (G.2.2.1 80)) C (shX12 G) (ltX12 hN) lkX12_31 rfl dX12_isBarred_6 ?_
    refine go_iload_n C 1 rfl rfl dX12_isBarred_9 ?_
    refine go_iald C (saX12_clauses G) (laX12_clauses hN) hw.1 dX12_isBarred_10 ?_
    replace hw := hw.2
    refine go_icmp_ge C 65 rfl dX12_isBarred_11 (fun hc => ?_) (fun hc => ?_)
    · replace hw := hw.1 hc
      refine go_iload_n C 2 rfl rfl dX12_isBarred_65 ?_
      exact go_zret C hr (bool_nar hw.1) ⟨_, rfl, hw.2⟩ dX12_isBarred_66
    · replace hw := hw.2 hc
      refine go_aload_n C 0 rfl rfl dX12_isBarred_14 ?_
      refine go_get (v := .ref (G.2.2.1 81)) C (shX12 G) (ltX12 hN) lkX12_34 rfl dX12_isBarred_15 ?_
      refine go_bipush (v := 12) C rfl dX12_isBarred_18 ?_
      refine go_iload_n C 1 rfl rfl dX12_isBarred_20 ?_
      refine go_imul C dX12_isBarred_21 ?_
      refine go_iload_n C 3 rfl rfl dX12_isBarred_22 ?_
      refine go_iadd C dX12_isBarred_23 ?_
      refine go_iald C (saX12_clauseWord G) (laX12_clauseWord hN) hw.1 dX12_isBarred_24 ?_
      replace hw := hw.2
      refine go_iconst (v := 1) C rfl dX12_isBarred_25 ?_
      refine go_icmp_ne C 59 rfl dX12_isBarred_26 (fun hc => ?_) (fun hc => ?_)
      · replace hw := hw.1 hc
        obtain ⟨v3_1, ev3_1⟩ : ∃ z : Int32, z = v3 + 1 := ⟨_, rfl⟩
        replace hw := hw v3_1 ev3_1
        refine go_iinc (v := v3_1) (lv2 := [(3, .int v3_1), (0, .ref (G.2.2.1 75)), (1, .int v1), (2, .int v2)]) C 3 rfl (by rw [ev3_1]; rfl) (by rw [hnl]; decide) rfl dX12_isBarred_59 ?_
        refine go_goto C 4 rfl dX12_isBarred_62 ?_
        refine go_sub [1, 2, 3, 0] rfl ?_
        exact ih _ _ _ _ hw
      · replace hw := hw.2 hc
        refine go_iload_n C 2 rfl rfl dX12_isBarred_29 ?_
        refine go_if_ne C 53 rfl dX12_isBarred_30 (fun hc => ?_) (fun hc => ?_)
        · replace hw := hw.1 hc
          refine go_iconst (v := 1) C rfl dX12_isBarred_53 ?_
          refine go_goto C 58 rfl dX12_isBarred_54 ?_
          refine go_istore_n (lv2 := [(2, .int 1), (0, .ref (G.2.2.1 75)), (1, .int v1), (3, .int v3)]) C rfl (by rw [hnl]; decide) rfl dX12_isBarred_58 ?_
          obtain ⟨v3_2, ev3_2⟩ : ∃ z : Int32, z = v3 + 1 := ⟨_, rfl⟩
          replace hw := hw v3_2 ev3_2
          refine go_iinc (v := v3_2) (lv2 := [(3, .int v3_2), (2, .int 1), (0, .ref (G.2.2.1 75)), (1, .int v1)]) C 3 rfl (by rw [ev3_2]; rfl) (by rw [hnl]; decide) rfl dX12_isBarred_59 ?_
          refine go_goto C 4 rfl dX12_isBarred_62 ?_
          refine go_sub [2, 3, 1, 0] rfl ?_
          exact ih _ _ _ _ hw
        · replace hw := hw.2 hc
          refine go_aload_n C 0 rfl rfl dX12_isBarred_33 ?_
          refine go_aload_n C 0 rfl rfl dX12_isBarred_34 ?_
          refine go_get (v := .ref (G.2.2.1 82)) C (shX12 G) (ltX12 hN) lkX12_37 rfl dX12_isBarred_35 ?_
          refine go_bipush (v := 12) C rfl dX12_isBarred_38 ?_
          refine go_iload_n C 1 rfl rfl dX12_isBarred_40 ?_
          refine go_imul C dX12_isBarred_41 ?_
          refine go_iload_n C 3 rfl rfl dX12_isBarred_42 ?_
          refine go_iadd C dX12_isBarred_43 ?_
          refine go_iald C (saX12_clauseAt G) (laX12_clauseAt hN) hw.1 dX12_isBarred_44 ?_
          replace hw := hw.2
          refine go_callV (as := [.int (gI σ 82 ((12 * v1) + v3).toNatClampNeg)]) C hR (shX12 G) (ltX12 hN) cwX12_400 (Nat.le_trans (by decide) hd) (by decide) rfl rfl (Nat.le_of_ble_eq_true rfl) dX12_isBarred_45 (spX12_tells (Nat.le_refl _) hN hw) (fun v_ τ_ hw => ?_)
          obtain ⟨r_3, rfl, hw⟩ := hw
          obtain ⟨σ_4, rfl⟩ : ∃ z, z = τ_ := ⟨_, rfl⟩
          refine go_lconst (v := 0) C rfl dX12_isBarred_48 ?_
          refine go_lc_le C 57 rfl dX12_isBarred_49 dX12_isBarred_50 (fun hc => ?_) (fun hc => ?_)
          · replace hw := hw.1 hc
            refine go_iconst (v := 0) C rfl dX12_isBarred_57 ?_
            refine go_istore_n (lv2 := [(2, .int 0), (0, .ref (G.2.2.1 75)), (1, .int v1), (3, .int v3)]) C rfl (by rw [hnl]; decide) rfl dX12_isBarred_58 ?_
            obtain ⟨v3_5, ev3_5⟩ : ∃ z : Int32, z = v3 + 1 := ⟨_, rfl⟩
            replace hw := hw v3_5 ev3_5
            refine go_iinc (v := v3_5) (lv2 := [(3, .int v3_5), (2, .int 0), (0, .ref (G.2.2.1 75)), (1, .int v1)]) C 3 rfl (by rw [ev3_5]; rfl) (by rw [hnl]; decide) rfl dX12_isBarred_59 ?_
            refine go_goto C 4 rfl dX12_isBarred_62 ?_
            refine go_sub [2, 3, 1, 0] rfl ?_
            exact ih _ _ _ _ hw
          · replace hw := hw.2 hc
            refine go_iconst (v := 1) C rfl dX12_isBarred_53 ?_
            refine go_goto C 58 rfl dX12_isBarred_54 ?_
            refine go_istore_n (lv2 := [(2, .int 1), (0, .ref (G.2.2.1 75)), (1, .int v1), (3, .int v3)]) C rfl (by rw [hnl]; decide) rfl dX12_isBarred_58 ?_
            obtain ⟨v3_6, ev3_6⟩ : ∃ z : Int32, z = v3 + 1 := ⟨_, rfl⟩
            replace hw := hw v3_6 ev3_6
            refine go_iinc (v := v3_6) (lv2 := [(3, .int v3_6), (2, .int 1), (0, .ref (G.2.2.1 75)), (1, .int v1)]) C 3 rfl (by rw [ev3_6]; rfl) (by rw [hnl]; decide) rfl dX12_isBarred_59 ?_
            refine go_goto C 4 rfl dX12_isBarred_62 ?_
            refine go_sub [2, 3, 1, 0] rfl ?_
            exact ih _ _ _ _ hw
set_option maxRecDepth 20000 in
set_option maxHeartbeats 4000000 in
theorem spX12_isBarred {l : Launch} {G : GT} {d : Nat}  (hd : 4 ≤ d)  (hN : 119 ≤ G.2.2.2.2.2)  {a1 : Int32} {σ : St} {post : Int32 → St → Prop} (hw : wpX12_isBarred  a1 σ post) : Sp l G d yX12_isBarred cX12_isBarred 4 (some .boolean) [.ref (G.2.2.1 75), .int a1] σ (fun v τ => ∃ r : Int32, v = some (.int r) ∧ post r τ) := by
  refine Sp.of (by decide) (Nat.le_of_ble_eq_true rfl) fun X C hr hR hnl => ?_
  show Go X G 0 [(0, .ref (G.2.2.1 75)), (1, .int a1)] [] σ
  have hw : ∃ m_4, wbX12_isBarred_4 post m_4 a1 0 0 σ := hw
  refine go_iconst (v := 0) C rfl dX12_isBarred_0 ?_
  refine go_istore_n (lv2 := [(2, .int 0), (0, .ref (G.2.2.1 75)), (1, .int a1)]) C rfl (by rw [hnl]; decide) rfl dX12_isBarred_1 ?_
  refine go_iconst (v := 0) C rfl dX12_isBarred_2 ?_
  refine go_istore_n (lv2 := [(3, .int 0), (2, .int 0), (0, .ref (G.2.2.1 75)), (1, .int a1)]) C rfl (by rw [hnl]; decide) rfl dX12_isBarred_3 ?_
  refine go_sub [2, 3, 1, 0] rfl ?_
  obtain ⟨n_0, hw⟩ := hw
  exact (gbX12_isBarred_4 C hr hR hnl hd hN) n_0 _ _ _ _ hw
