set_option maxRecDepth 100000 in
set_option maxHeartbeats 8000000 in
theorem gbL_law_1198 {X : XT} {G : GT} {l : Launch} {d b L : Nat} {xs : Nat → Int32} (C : Cx X G cL_law RLw) (Lw : Lr X b) (hR : Rm X l d) (hnl : X.2.2.2.2.2.2.2.2.2.2.1 = 4) (hd : 62 ≤ d) (hN : 119 ≤ G.2.2.2.2.2) (hS : Sx X b L xs) {K18 : Int32 → St → Prop} (hK18 : ∀ (v3 : Int32) (σ : St), K18 v3 σ → Go X G 18 [(0, .ref b), (1, .ref (G.2.2.1 0)), (2, .ref (G.2.2.1 75)), (3, .int v3)] [] σ)
    : ∀ (v3 : Int32) (s0 : Int32) (s1 : Int32) (s2 : Int32) (s3 : Int32) (s5 : Int32) (σ : St), wbL_law_1198 L xs K18 v3 s0 s1 s2 s3 s5 σ → Go X G 1198 [(0, .ref b), (1, .ref (G.2.2.1 0)), (2, .ref (G.2.2.1 75)), (3, .int v3)] [.int s0, .int s1, .int s2, .int s3, .ref (G.2.2.1 75), .int s5] σ := by
  have hN1 : 75 ≤ G.2.2.2.2.2 := Nat.le_trans (by decide) hN
  intro v3 s0 s1 s2 s3 s5 σ hw
  have hw : wpX12_room s3 s2 s1 s0 σ (fun r_1 σ_2 =>
  ((s5 = r_1 →
    ∀ v3_3 : Int32, v3_3 = v3 + 7 →
    K18 v3_3 σ_2) ∧
  (¬ s5 = r_1 →
    False))) := hw
  refine go_callV (as := [.int s3, .int s2, .int s1, .int s0]) C hR (shX12 G) (ltX12 hN) cwL_130 (Nat.le_trans (by decide) hd) (by decide) rfl rfl (Nat.le_of_ble_eq_true rfl) dL_law_1198 (spX12_room (Nat.le_refl _) hN hw) (fun v_ τ_ hw => ?_)
  obtain ⟨r_1, rfl, hw⟩ := hw
  obtain ⟨σ_2, rfl⟩ : ∃ z, z = τ_ := ⟨_, rfl⟩
  refine go_icmp_eq C 1658 rfl dL_law_1201 (fun hc => ?_) (fun hc => ?_)
  · replace hw := hw.1 hc
    obtain ⟨v3_3, ev3_3⟩ : ∃ z : Int32, z = v3 + 7 := ⟨_, rfl⟩
    replace hw := hw v3_3 ev3_3
    refine go_iinc (v := v3_3) (lv2 := [(3, .int v3_3), (0, .ref b), (1, .ref (G.2.2.1 0)), (2, .ref (G.2.2.1 75))]) C 3 rfl (by rw [ev3_3]; rfl) (by rw [hnl]; decide) rfl dL_law_1658 ?_
    refine go_goto C 18 rfl dL_law_1661 ?_
    refine go_sub [1, 2, 3, 0] rfl ?_
    exact hK18 _ _ hw
  · replace hw := hw.2 hc
    refine go_iconst (v := 0) C rfl dL_law_1204 ?_
    exact hw.elim
set_option maxRecDepth 100000 in
set_option maxHeartbeats 8000000 in
theorem gbL_law_1568 {X : XT} {G : GT} {l : Launch} {d b L : Nat} {xs : Nat → Int32} (C : Cx X G cL_law RLw) (Lw : Lr X b) (hR : Rm X l d) (hnl : X.2.2.2.2.2.2.2.2.2.2.1 = 4) (hd : 62 ≤ d) (hN : 119 ≤ G.2.2.2.2.2) (hS : Sx X b L xs) {K18 : Int32 → St → Prop} (hK18 : ∀ (v3 : Int32) (σ : St), K18 v3 σ → Go X G 18 [(0, .ref b), (1, .ref (G.2.2.1 0)), (2, .ref (G.2.2.1 75)), (3, .int v3)] [] σ)
    : ∀ (v3 : Int32) (s0 : Int32) (s1 : Int32) (s2 : Int32) (s3 : Int32) (s4 : Int32) (s6 : Int32) (σ : St), wbL_law_1568 L xs K18 v3 s0 s1 s2 s3 s4 s6 σ → Go X G 1568 [(0, .ref b), (1, .ref (G.2.2.1 0)), (2, .ref (G.2.2.1 75)), (3, .int v3)] [.int s0, .int s1, .int s2, .int s3, .int s4, .ref (G.2.2.1 75), .int s6] σ := by
  have hN1 : 75 ≤ G.2.2.2.2.2 := Nat.le_trans (by decide) hN
  intro v3 s0 s1 s2 s3 s4 s6 σ hw
  have hw : wpX12_span s4 s3 s2 s1 s0 σ (fun r_1 σ_2 =>
  ((s6 = r_1 →
    ∀ v3_3 : Int32, v3_3 = v3 + 7 →
    K18 v3_3 σ_2) ∧
  (¬ s6 = r_1 →
    False))) := hw
  refine go_callV (as := [.int s4, .int s3, .int s2, .int s1, .int s0]) C hR (shX12 G) (ltX12 hN) cwL_163 (Nat.le_trans (by decide) hd) (by decide) rfl rfl (Nat.le_of_ble_eq_true rfl) dL_law_1568 (spX12_span (Nat.le_refl _) hN hw) (fun v_ τ_ hw => ?_)
  obtain ⟨r_1, rfl, hw⟩ := hw
  obtain ⟨σ_2, rfl⟩ : ∃ z, z = τ_ := ⟨_, rfl⟩
  refine go_icmp_eq C 1658 rfl dL_law_1571 (fun hc => ?_) (fun hc => ?_)
  · replace hw := hw.1 hc
    obtain ⟨v3_3, ev3_3⟩ : ∃ z : Int32, z = v3 + 7 := ⟨_, rfl⟩
    replace hw := hw v3_3 ev3_3
    refine go_iinc (v := v3_3) (lv2 := [(3, .int v3_3), (0, .ref b), (1, .ref (G.2.2.1 0)), (2, .ref (G.2.2.1 75))]) C 3 rfl (by rw [ev3_3]; rfl) (by rw [hnl]; decide) rfl dL_law_1658 ?_
    refine go_goto C 18 rfl dL_law_1661 ?_
    refine go_sub [1, 2, 3, 0] rfl ?_
    exact hK18 _ _ hw
  · replace hw := hw.2 hc
    refine go_iconst (v := 0) C rfl dL_law_1574 ?_
    exact hw.elim
set_option maxRecDepth 100000 in
set_option maxHeartbeats 8000000 in
theorem gbL_law_1166 {X : XT} {G : GT} {l : Launch} {d b L : Nat} {xs : Nat → Int32} (C : Cx X G cL_law RLw) (Lw : Lr X b) (hR : Rm X l d) (hnl : X.2.2.2.2.2.2.2.2.2.2.1 = 4) (hd : 62 ≤ d) (hN : 119 ≤ G.2.2.2.2.2) (hS : Sx X b L xs) {K18 : Int32 → St → Prop} (hK18 : ∀ (v3 : Int32) (σ : St), K18 v3 σ → Go X G 18 [(0, .ref b), (1, .ref (G.2.2.1 0)), (2, .ref (G.2.2.1 75)), (3, .int v3)] [] σ)
    : ∀ (v3 : Int32) (s0 : Int32) (s1 : Int32) (s2 : Int32) (s3 : Int32) (σ : St), wbL_law_1166 L xs K18 v3 s0 s1 s2 s3 σ → Go X G 1166 [(0, .ref b), (1, .ref (G.2.2.1 0)), (2, .ref (G.2.2.1 75)), (3, .int v3)] [.int s0, .int s1, .int s2, .int s3, .ref (G.2.2.1 0)] σ := by
  have hN1 : 75 ≤ G.2.2.2.2.2 := Nat.le_trans (by decide) hN
  intro v3 s0 s1 s2 s3 σ hw
  have hw : wpX11_room s3 s2 s1 s0 σ (fun r_1 σ_2 =>
  vp_in (v3 + 1) L ∧ (
  vp_in (v3 + 2) L ∧ (
  vp_in (v3 + 3) L ∧ (
  vp_in (v3 + 4) L ∧ (
  (((xs (v3 + 4).toNatClampNeg) = 0 →
    wbL_law_1198 L xs K18 v3 0 (xs (v3 + 3).toNatClampNeg) (xs (v3 + 2).toNatClampNeg) (xs (v3 + 1).toNatClampNeg) r_1 σ_2) ∧
  (¬ (xs (v3 + 4).toNatClampNeg) = 0 →
    wbL_law_1198 L xs K18 v3 1 (xs (v3 + 3).toNatClampNeg) (xs (v3 + 2).toNatClampNeg) (xs (v3 + 1).toNatClampNeg) r_1 σ_2))))))) := hw
  refine go_callV (as := [.int s3, .int s2, .int s1, .int s0]) C hR (shX11 G) (ltX11 hN1) cwL_126 (Nat.le_trans (by decide) hd) (by decide) rfl rfl (Nat.le_of_ble_eq_true rfl) dL_law_1166 (spX11_room (Nat.le_refl _) hN1 hw) (fun v_ τ_ hw => ?_)
  obtain ⟨r_1, rfl, hw⟩ := hw
  obtain ⟨σ_2, rfl⟩ : ∃ z, z = τ_ := ⟨_, rfl⟩
  refine go_aload_n C 2 rfl rfl dL_law_1169 ?_
  refine go_aload_n C 0 rfl rfl dL_law_1170 ?_
  refine go_iload_n C 3 rfl rfl dL_law_1171 ?_
  refine go_iconst (v := 1) C rfl dL_law_1172 ?_
  refine go_iadd C dL_law_1173 ?_
  refine go_sld C hS hw.1 dL_law_1174 ?_
  replace hw := hw.2
  refine go_aload_n C 0 rfl rfl dL_law_1175 ?_
  refine go_iload_n C 3 rfl rfl dL_law_1176 ?_
  refine go_iconst (v := 2) C rfl dL_law_1177 ?_
  refine go_iadd C dL_law_1178 ?_
  refine go_sld C hS hw.1 dL_law_1179 ?_
  replace hw := hw.2
  refine go_aload_n C 0 rfl rfl dL_law_1180 ?_
  refine go_iload_n C 3 rfl rfl dL_law_1181 ?_
  refine go_iconst (v := 3) C rfl dL_law_1182 ?_
  refine go_iadd C dL_law_1183 ?_
  refine go_sld C hS hw.1 dL_law_1184 ?_
  replace hw := hw.2
  refine go_aload_n C 0 rfl rfl dL_law_1185 ?_
  refine go_iload_n C 3 rfl rfl dL_law_1186 ?_
  refine go_iconst (v := 4) C rfl dL_law_1187 ?_
  refine go_iadd C dL_law_1188 ?_
  refine go_sld C hS hw.1 dL_law_1189 ?_
  replace hw := hw.2
  refine go_if_eq C 1197 rfl dL_law_1190 (fun hc => ?_) (fun hc => ?_)
  · replace hw := hw.1 hc
    refine go_iconst (v := 0) C rfl dL_law_1197 ?_
    exact (gbL_law_1198 C Lw hR hnl hd hN hS hK18) _ _ _ _ _ _ _ hw
  · replace hw := hw.2 hc
    refine go_iconst (v := 1) C rfl dL_law_1193 ?_
    refine go_goto C 1198 rfl dL_law_1194 ?_
    exact (gbL_law_1198 C Lw hR hnl hd hN hS hK18) _ _ _ _ _ _ _ hw
set_option maxRecDepth 100000 in
set_option maxHeartbeats 8000000 in
theorem gbL_law_1531 {X : XT} {G : GT} {l : Launch} {d b L : Nat} {xs : Nat → Int32} (C : Cx X G cL_law RLw) (Lw : Lr X b) (hR : Rm X l d) (hnl : X.2.2.2.2.2.2.2.2.2.2.1 = 4) (hd : 62 ≤ d) (hN : 119 ≤ G.2.2.2.2.2) (hS : Sx X b L xs) {K18 : Int32 → St → Prop} (hK18 : ∀ (v3 : Int32) (σ : St), K18 v3 σ → Go X G 18 [(0, .ref b), (1, .ref (G.2.2.1 0)), (2, .ref (G.2.2.1 75)), (3, .int v3)] [] σ)
    : ∀ (v3 : Int32) (s0 : Int32) (s1 : Int32) (s2 : Int32) (s3 : Int32) (s4 : Int32) (σ : St), wbL_law_1531 L xs K18 v3 s0 s1 s2 s3 s4 σ → Go X G 1531 [(0, .ref b), (1, .ref (G.2.2.1 0)), (2, .ref (G.2.2.1 75)), (3, .int v3)] [.int s0, .int s1, .int s2, .int s3, .int s4, .ref (G.2.2.1 0)] σ := by
  have hN1 : 75 ≤ G.2.2.2.2.2 := Nat.le_trans (by decide) hN
  intro v3 s0 s1 s2 s3 s4 σ hw
  have hw : wpX11_span s4 s3 s2 s1 s0 σ (fun r_1 σ_2 =>
  vp_in (v3 + 1) L ∧ (
  vp_in (v3 + 2) L ∧ (
  vp_in (v3 + 3) L ∧ (
  vp_in (v3 + 4) L ∧ (
  vp_in (v3 + 5) L ∧ (
  (((xs (v3 + 5).toNatClampNeg) = 0 →
    wbL_law_1568 L xs K18 v3 0 (xs (v3 + 4).toNatClampNeg) (xs (v3 + 3).toNatClampNeg) (xs (v3 + 2).toNatClampNeg) (xs (v3 + 1).toNatClampNeg) r_1 σ_2) ∧
  (¬ (xs (v3 + 5).toNatClampNeg) = 0 →
    wbL_law_1568 L xs K18 v3 1 (xs (v3 + 4).toNatClampNeg) (xs (v3 + 3).toNatClampNeg) (xs (v3 + 2).toNatClampNeg) (xs (v3 + 1).toNatClampNeg) r_1 σ_2)))))))) := hw
  refine go_callV (as := [.int s4, .int s3, .int s2, .int s1, .int s0]) C hR (shX11 G) (ltX11 hN1) cwL_159 (Nat.le_trans (by decide) hd) (by decide) rfl rfl (Nat.le_of_ble_eq_true rfl) dL_law_1531 (spX11_span (Nat.le_refl _) hN1 hw) (fun v_ τ_ hw => ?_)
  obtain ⟨r_1, rfl, hw⟩ := hw
  obtain ⟨σ_2, rfl⟩ : ∃ z, z = τ_ := ⟨_, rfl⟩
  refine go_aload_n C 2 rfl rfl dL_law_1534 ?_
  refine go_aload_n C 0 rfl rfl dL_law_1535 ?_
  refine go_iload_n C 3 rfl rfl dL_law_1536 ?_
  refine go_iconst (v := 1) C rfl dL_law_1537 ?_
  refine go_iadd C dL_law_1538 ?_
  refine go_sld C hS hw.1 dL_law_1539 ?_
  replace hw := hw.2
  refine go_aload_n C 0 rfl rfl dL_law_1540 ?_
  refine go_iload_n C 3 rfl rfl dL_law_1541 ?_
  refine go_iconst (v := 2) C rfl dL_law_1542 ?_
  refine go_iadd C dL_law_1543 ?_
  refine go_sld C hS hw.1 dL_law_1544 ?_
  replace hw := hw.2
  refine go_aload_n C 0 rfl rfl dL_law_1545 ?_
  refine go_iload_n C 3 rfl rfl dL_law_1546 ?_
  refine go_iconst (v := 3) C rfl dL_law_1547 ?_
  refine go_iadd C dL_law_1548 ?_
  refine go_sld C hS hw.1 dL_law_1549 ?_
  replace hw := hw.2
  refine go_aload_n C 0 rfl rfl dL_law_1550 ?_
  refine go_iload_n C 3 rfl rfl dL_law_1551 ?_
  refine go_iconst (v := 4) C rfl dL_law_1552 ?_
  refine go_iadd C dL_law_1553 ?_
  refine go_sld C hS hw.1 dL_law_1554 ?_
  replace hw := hw.2
  refine go_aload_n C 0 rfl rfl dL_law_1555 ?_
  refine go_iload_n C 3 rfl rfl dL_law_1556 ?_
  refine go_iconst (v := 5) C rfl dL_law_1557 ?_
  refine go_iadd C dL_law_1558 ?_
  refine go_sld C hS hw.1 dL_law_1559 ?_
  replace hw := hw.2
  refine go_if_eq C 1567 rfl dL_law_1560 (fun hc => ?_) (fun hc => ?_)
  · replace hw := hw.1 hc
    refine go_iconst (v := 0) C rfl dL_law_1567 ?_
    exact (gbL_law_1568 C Lw hR hnl hd hN hS hK18) _ _ _ _ _ _ _ _ hw
  · replace hw := hw.2 hc
    refine go_iconst (v := 1) C rfl dL_law_1563 ?_
    refine go_goto C 1568 rfl dL_law_1564 ?_
    exact (gbL_law_1568 C Lw hR hnl hd hN hS hK18) _ _ _ _ _ _ _ _ hw
set_option maxRecDepth 100000 in
set_option maxHeartbeats 8000000 in
theorem gbL_law_18 {X : XT} {G : GT} {l : Launch} {d b L : Nat} {xs : Nat → Int32} (C : Cx X G cL_law RLw) (Lw : Lr X b) (hR : Rm X l d) (hnl : X.2.2.2.2.2.2.2.2.2.2.1 = 4) (hd : 62 ≤ d) (hN : 119 ≤ G.2.2.2.2.2) (hS : Sx X b L xs)  
    : ∀ (n : Nat) (v3 : Int32) (σ : St), wbL_law_18 L xs  n v3 σ → Go X G 18 [(0, .ref b), (1, .ref (G.2.2.1 0)), (2, .ref (G.2.2.1 75)), (3, .int v3)] [] σ := by
  have hN1 : 75 ≤ G.2.2.2.2.2 := Nat.le_trans (by decide) hN
  intro n
  induction n with
  | zero => intro v3 σ hw; exact hw.elim
  | succ n ih =>
    intro v3 σ hw
    have hw : ((((Int32.ofNat L) - 7) < v3 →
      True) ∧
    (¬ ((Int32.ofNat L) - 7) < v3 →
      vp_in v3 L ∧ (
      ∀ x_1 : Int32, x_1 = ((xs v3.toNatClampNeg) &&& 63) →
      ((x_1 = 0 →
        vp_in (v3 + 1) L ∧ (
        vp_in (v3 + 2) L ∧ (
        vp_in (v3 + 3) L ∧ (
        wpX11_name (((xs (v3 + 1).toNatClampNeg).toInt64 <<< ((32 : Int32).toInt64 &&& 63)) ||| ((xs (v3 + 2).toNatClampNeg).toInt64 &&& 4294967295)) (xs (v3 + 3).toNatClampNeg) σ (fun r_2 σ_3 =>
        vp_in (v3 + 1) L ∧ (
        vp_in (v3 + 2) L ∧ (
        vp_in (v3 + 3) L ∧ (
        wpX12_name (((xs (v3 + 1).toNatClampNeg).toInt64 <<< ((32 : Int32).toInt64 &&& 63)) ||| ((xs (v3 + 2).toNatClampNeg).toInt64 &&& 4294967295)) (xs (v3 + 3).toNatClampNeg) σ_3 (fun r_4 σ_5 =>
        ((r_2 = r_4 →
          ∀ v3_6 : Int32, v3_6 = v3 + 7 →
          wbL_law_18 L xs n v3_6 σ_5) ∧
        (¬ r_2 = r_4 →
          False))))))))))) ∧
      (¬ x_1 = 0 →
      ((x_1 = 1 →
        vp_in (v3 + 1) L ∧ (
        vp_in (v3 + 2) L ∧ (
        wpX11_of (xs (v3 + 1).toNatClampNeg) (xs (v3 + 2).toNatClampNeg) σ (fun r_7 σ_8 =>
        vp_in (v3 + 1) L ∧ (
        vp_in (v3 + 2) L ∧ (
        wpX12_of (xs (v3 + 1).toNatClampNeg) (xs (v3 + 2).toNatClampNeg) σ_8 (fun r_9 σ_10 =>
        ((r_7 = r_9 →
          ∀ v3_11 : Int32, v3_11 = v3 + 7 →
          wbL_law_18 L xs n v3_11 σ_10) ∧
        (¬ r_7 = r_9 →
          False))))))))) ∧
      (¬ x_1 = 1 →
      ((x_1 = 2 →
        vp_in (v3 + 1) L ∧ (
        vp_in (v3 + 2) L ∧ (
        wpX11_alike (xs (v3 + 1).toNatClampNeg) (xs (v3 + 2).toNatClampNeg) σ (fun r_12 σ_13 =>
        vp_in (v3 + 1) L ∧ (
        vp_in (v3 + 2) L ∧ (
        wpX12_alike (xs (v3 + 1).toNatClampNeg) (xs (v3 + 2).toNatClampNeg) σ_13 (fun r_14 σ_15 =>
        ((r_12 = r_14 →
          ∀ v3_16 : Int32, v3_16 = v3 + 7 →
          wbL_law_18 L xs n v3_16 σ_15) ∧
        (¬ r_12 = r_14 →
          False))))))))) ∧
      (¬ x_1 = 2 →
      ((x_1 = 3 →
        vp_in (v3 + 1) L ∧ (
        vp_in (v3 + 2) L ∧ (
        vp_in (v3 + 3) L ∧ (
        vp_in (v3 + 4) L ∧ (
        vp_in (v3 + 5) L ∧ (
        vp_in (v3 + 6) L ∧ (
        wpX11_born (xs (v3 + 1).toNatClampNeg) (xs (v3 + 2).toNatClampNeg) (xs (v3 + 3).toNatClampNeg) (xs (v3 + 4).toNatClampNeg) (xs (v3 + 5).toNatClampNeg) (xs (v3 + 6).toNatClampNeg) σ (fun r_17 σ_18 =>
        vp_in (v3 + 1) L ∧ (
        vp_in (v3 + 2) L ∧ (
        vp_in (v3 + 3) L ∧ (
        vp_in (v3 + 4) L ∧ (
        vp_in (v3 + 5) L ∧ (
        vp_in (v3 + 6) L ∧ (
        wpX12_born (xs (v3 + 1).toNatClampNeg) (xs (v3 + 2).toNatClampNeg) (xs (v3 + 3).toNatClampNeg) (xs (v3 + 4).toNatClampNeg) (xs (v3 + 5).toNatClampNeg) (xs (v3 + 6).toNatClampNeg) σ_18 (fun r_19 σ_20 =>
        ((r_17 = r_19 →
          ∀ v3_21 : Int32, v3_21 = v3 + 7 →
          wbL_law_18 L xs n v3_21 σ_20) ∧
        (¬ r_17 = r_19 →
          False))))))))))))))))) ∧
      (¬ x_1 = 3 →
      ((x_1 = 4 →
        vp_in (v3 + 1) L ∧ (
        wpX11_life (xs (v3 + 1).toNatClampNeg) σ (fun r_22 σ_23 =>
        vp_in (v3 + 1) L ∧ (
        wpX12_life (xs (v3 + 1).toNatClampNeg) σ_23 (fun r_24 σ_25 =>
        ((r_22 = r_24 →
          ∀ v3_26 : Int32, v3_26 = v3 + 7 →
          wbL_law_18 L xs n v3_26 σ_25) ∧
        (¬ r_22 = r_24 →
          False))))))) ∧
      (¬ x_1 = 4 →
      ((x_1 = 5 →
        vp_in (v3 + 1) L ∧ (
        vp_in (v3 + 2) L ∧ (
        vp_in (v3 + 3) L ∧ (
        vp_in (v3 + 4) L ∧ (
        wpX11_cradles (xs (v3 + 1).toNatClampNeg) (xs (v3 + 2).toNatClampNeg) (xs (v3 + 3).toNatClampNeg) (xs (v3 + 4).toNatClampNeg) σ (fun r_27 σ_28 =>
        vp_in (v3 + 1) L ∧ (
        vp_in (v3 + 2) L ∧ (
        vp_in (v3 + 3) L ∧ (
        vp_in (v3 + 4) L ∧ (
        wpX12_cradles (xs (v3 + 1).toNatClampNeg) (xs (v3 + 2).toNatClampNeg) (xs (v3 + 3).toNatClampNeg) (xs (v3 + 4).toNatClampNeg) σ_28 (fun r_29 σ_30 =>
        ((r_27 = r_29 →
          ∀ v3_31 : Int32, v3_31 = v3 + 7 →
          wbL_law_18 L xs n v3_31 σ_30) ∧
        (¬ r_27 = r_29 →
          False))))))))))))) ∧
      (¬ x_1 = 5 →
      ((x_1 = 6 →
        vp_in (v3 + 1) L ∧ (
        vp_in (v3 + 2) L ∧ (
        wpX11_list (xs (v3 + 1).toNatClampNeg) (xs (v3 + 2).toNatClampNeg) σ (fun r_32 σ_33 =>
        vp_in (v3 + 1) L ∧ (
        vp_in (v3 + 2) L ∧ (
        wpX12_list (xs (v3 + 1).toNatClampNeg) (xs (v3 + 2).toNatClampNeg) σ_33 (fun r_34 σ_35 =>
        ((r_32 = r_34 →
          ∀ v3_36 : Int32, v3_36 = v3 + 7 →
          wbL_law_18 L xs n v3_36 σ_35) ∧
        (¬ r_32 = r_34 →
          False))))))))) ∧
      (¬ x_1 = 6 →
      ((x_1 = 7 →
        vp_in (v3 + 1) L ∧ (
        vp_in (v3 + 2) L ∧ (
        vp_in (v3 + 3) L ∧ (
        wpX11_film (xs (v3 + 1).toNatClampNeg) (xs (v3 + 2).toNatClampNeg) (xs (v3 + 3).toNatClampNeg) σ (fun r_37 σ_38 =>
        vp_in (v3 + 1) L ∧ (
        vp_in (v3 + 2) L ∧ (
        vp_in (v3 + 3) L ∧ (
        wpX12_film (xs (v3 + 1).toNatClampNeg) (xs (v3 + 2).toNatClampNeg) (xs (v3 + 3).toNatClampNeg) σ_38 (fun r_39 σ_40 =>
        ((r_37 = r_39 →
          ∀ v3_41 : Int32, v3_41 = v3 + 7 →
          wbL_law_18 L xs n v3_41 σ_40) ∧
        (¬ r_37 = r_39 →
          False))))))))))) ∧
      (¬ x_1 = 7 →
      ((x_1 = 8 →
        vp_in (v3 + 1) L ∧ (
        vp_in (v3 + 2) L ∧ (
        vp_in (v3 + 3) L ∧ (
        vp_in (v3 + 4) L ∧ (
        vp_in (v3 + 5) L ∧ (
        wpX11_feed (xs (v3 + 1).toNatClampNeg) (xs (v3 + 2).toNatClampNeg) (xs (v3 + 3).toNatClampNeg) (xs (v3 + 4).toNatClampNeg) (xs (v3 + 5).toNatClampNeg) σ (fun r_42 σ_43 =>
        vp_in (v3 + 1) L ∧ (
        vp_in (v3 + 2) L ∧ (
        vp_in (v3 + 3) L ∧ (
        vp_in (v3 + 4) L ∧ (
        vp_in (v3 + 5) L ∧ (
        wpX12_feed (xs (v3 + 1).toNatClampNeg) (xs (v3 + 2).toNatClampNeg) (xs (v3 + 3).toNatClampNeg) (xs (v3 + 4).toNatClampNeg) (xs (v3 + 5).toNatClampNeg) σ_43 (fun r_44 σ_45 =>
        ((r_42 = r_44 →
          ∀ v3_46 : Int32, v3_46 = v3 + 7 →
          wbL_law_18 L xs n v3_46 σ_45) ∧
        (¬ r_42 = r_44 →
          False))))))))))))))) ∧
      (¬ x_1 = 8 →
      ((x_1 = 9 →
        vp_in (v3 + 1) L ∧ (
        wpX11_end (xs (v3 + 1).toNatClampNeg) σ (fun r_47 σ_48 =>
        vp_in (v3 + 1) L ∧ (
        wpX12_end (xs (v3 + 1).toNatClampNeg) σ_48 (fun r_49 σ_50 =>
        ((r_47 = r_49 →
          ∀ v3_51 : Int32, v3_51 = v3 + 7 →
          wbL_law_18 L xs n v3_51 σ_50) ∧
        (¬ r_47 = r_49 →
          False))))))) ∧
      (¬ x_1 = 9 →
      ((x_1 = 10 →
        wpX11_taste  σ (fun r_52 σ_53 =>
        wpX12_taste  σ_53 (fun r_54 σ_55 =>
        ((r_52 = r_54 →
          ∀ v3_56 : Int32, v3_56 = v3 + 7 →
          wbL_law_18 L xs n v3_56 σ_55) ∧
        (¬ r_52 = r_54 →
          False))))) ∧
      (¬ x_1 = 10 →
      ((x_1 = 11 →
        vp_in (v3 + 1) L ∧ (
        wpX11_fault (xs (v3 + 1).toNatClampNeg) σ (fun r_57 σ_58 =>
        vp_in (v3 + 1) L ∧ (
        wpX12_fault (xs (v3 + 1).toNatClampNeg) σ_58 (fun r_59 σ_60 =>
        ((r_57 = r_59 →
          ∀ v3_61 : Int32, v3_61 = v3 + 7 →
          wbL_law_18 L xs n v3_61 σ_60) ∧
        (¬ r_57 = r_59 →
          False))))))) ∧
      (¬ x_1 = 11 →
      ((x_1 = 12 →
        vp_in (v3 + 1) L ∧ (
        vp_in (v3 + 2) L ∧ (
        wpX11_by (xs (v3 + 1).toNatClampNeg) (xs (v3 + 2).toNatClampNeg) σ (fun r_62 σ_63 =>
        vp_in (v3 + 1) L ∧ (
        vp_in (v3 + 2) L ∧ (
        wpX12_by (xs (v3 + 1).toNatClampNeg) (xs (v3 + 2).toNatClampNeg) σ_63 (fun r_64 σ_65 =>
        ((r_62 = r_64 →
          ∀ v3_66 : Int32, v3_66 = v3 + 7 →
          wbL_law_18 L xs n v3_66 σ_65) ∧
        (¬ r_62 = r_64 →
          False))))))))) ∧
      (¬ x_1 = 12 →
      ((x_1 = 13 →
        vp_in (v3 + 1) L ∧ (
        wpX11_years (xs (v3 + 1).toNatClampNeg) σ (fun r_67 σ_68 =>
        vp_in (v3 + 1) L ∧ (
        wpX12_years (xs (v3 + 1).toNatClampNeg) σ_68 (fun r_69 σ_70 =>
        ((r_67 = r_69 →
          ∀ v3_71 : Int32, v3_71 = v3 + 7 →
          wbL_law_18 L xs n v3_71 σ_70) ∧
        (¬ r_67 = r_69 →
          False))))))) ∧
      (¬ x_1 = 13 →
      ((x_1 = 14 →
        vp_in (v3 + 1) L ∧ (
        vp_in (v3 + 2) L ∧ (
        vp_in (v3 + 3) L ∧ (
        vp_in (v3 + 4) L ∧ (
        vp_in (v3 + 5) L ∧ (
        wpX11_given (xs (v3 + 1).toNatClampNeg) (xs (v3 + 2).toNatClampNeg) (xs (v3 + 3).toNatClampNeg) (xs (v3 + 4).toNatClampNeg) (xs (v3 + 5).toNatClampNeg) σ (fun r_72 σ_73 =>
        vp_in (v3 + 1) L ∧ (
        vp_in (v3 + 2) L ∧ (
        vp_in (v3 + 3) L ∧ (
        vp_in (v3 + 4) L ∧ (
        vp_in (v3 + 5) L ∧ (
        wpX12_given (xs (v3 + 1).toNatClampNeg) (xs (v3 + 2).toNatClampNeg) (xs (v3 + 3).toNatClampNeg) (xs (v3 + 4).toNatClampNeg) (xs (v3 + 5).toNatClampNeg) σ_73 (fun r_74 σ_75 =>
        ((r_72 = r_74 →
          ∀ v3_76 : Int32, v3_76 = v3 + 7 →
          wbL_law_18 L xs n v3_76 σ_75) ∧
        (¬ r_72 = r_74 →
          False))))))))))))))) ∧
      (¬ x_1 = 14 →
      ((x_1 = 15 →
        vp_in (v3 + 1) L ∧ (
        wpX11_unnamed (xs (v3 + 1).toNatClampNeg) σ (fun r_77 σ_78 =>
        vp_in (v3 + 1) L ∧ (
        wpX12_unnamed (xs (v3 + 1).toNatClampNeg) σ_78 (fun r_79 σ_80 =>
        ((r_77 = r_79 →
          ∀ v3_81 : Int32, v3_81 = v3 + 7 →
          wbL_law_18 L xs n v3_81 σ_80) ∧
        (¬ r_77 = r_79 →
          False))))))) ∧
      (¬ x_1 = 15 →
      ((x_1 = 16 →
        vp_in (v3 + 1) L ∧ (
        vp_in (v3 + 2) L ∧ (
        vp_in (v3 + 3) L ∧ (
        vp_in (v3 + 4) L ∧ (
        wpX11_now (xs (v3 + 1).toNatClampNeg) (xs (v3 + 2).toNatClampNeg) (xs (v3 + 3).toNatClampNeg) (xs (v3 + 4).toNatClampNeg) σ (fun r_82 σ_83 =>
        vp_in (v3 + 1) L ∧ (
        vp_in (v3 + 2) L ∧ (
        vp_in (v3 + 3) L ∧ (
        vp_in (v3 + 4) L ∧ (
        wpX12_now (xs (v3 + 1).toNatClampNeg) (xs (v3 + 2).toNatClampNeg) (xs (v3 + 3).toNatClampNeg) (xs (v3 + 4).toNatClampNeg) σ_83 (fun r_84 σ_85 =>
        ((r_82 = r_84 →
          ∀ v3_86 : Int32, v3_86 = v3 + 7 →
          wbL_law_18 L xs n v3_86 σ_85) ∧
        (¬ r_82 = r_84 →
          False))))))))))))) ∧
      (¬ x_1 = 16 →
      ((x_1 = 17 →
        vp_in (v3 + 1) L ∧ (
        vp_in (v3 + 2) L ∧ (
        wpX11_shape (xs (v3 + 1).toNatClampNeg) (xs (v3 + 2).toNatClampNeg) σ (fun r_87 σ_88 =>
        vp_in (v3 + 1) L ∧ (
        vp_in (v3 + 2) L ∧ (
        wpX12_shape (xs (v3 + 1).toNatClampNeg) (xs (v3 + 2).toNatClampNeg) σ_88 (fun r_89 σ_90 =>
        ((r_87 = r_89 →
          ∀ v3_91 : Int32, v3_91 = v3 + 7 →
          wbL_law_18 L xs n v3_91 σ_90) ∧
        (¬ r_87 = r_89 →
          False))))))))) ∧
      (¬ x_1 = 17 →
      ((x_1 = 18 →
        vp_in (v3 + 1) L ∧ (
        wpX11_shapes (xs (v3 + 1).toNatClampNeg) σ (fun r_92 σ_93 =>
        vp_in (v3 + 1) L ∧ (
        wpX12_shapes (xs (v3 + 1).toNatClampNeg) σ_93 (fun r_94 σ_95 =>
        ((r_92 = r_94 →
          ∀ v3_96 : Int32, v3_96 = v3 + 7 →
          wbL_law_18 L xs n v3_96 σ_95) ∧
        (¬ r_92 = r_94 →
          False))))))) ∧
      (¬ x_1 = 18 →
      ((x_1 = 19 →
        vp_in (v3 + 1) L ∧ (
        wpX11_lag (xs (v3 + 1).toNatClampNeg) σ (fun r_97 σ_98 =>
        vp_in (v3 + 1) L ∧ (
        wpX12_lag (xs (v3 + 1).toNatClampNeg) σ_98 (fun r_99 σ_100 =>
        ((r_97 = r_99 →
          ∀ v3_101 : Int32, v3_101 = v3 + 7 →
          wbL_law_18 L xs n v3_101 σ_100) ∧
        (¬ r_97 = r_99 →
          False))))))) ∧
      (¬ x_1 = 19 →
      ((x_1 = 20 →
        vp_in (v3 + 1) L ∧ (
        vp_in (v3 + 2) L ∧ (
        wpX11_together (xs (v3 + 1).toNatClampNeg) (xs (v3 + 2).toNatClampNeg) σ (fun r_102 σ_103 =>
        vp_in (v3 + 1) L ∧ (
        vp_in (v3 + 2) L ∧ (
        wpX12_together (xs (v3 + 1).toNatClampNeg) (xs (v3 + 2).toNatClampNeg) σ_103 (fun r_104 σ_105 =>
        ((r_102 = r_104 →
          ∀ v3_106 : Int32, v3_106 = v3 + 7 →
          wbL_law_18 L xs n v3_106 σ_105) ∧
        (¬ r_102 = r_104 →
          False))))))))) ∧
      (¬ x_1 = 20 →
      ((x_1 = 21 →
        vp_in (v3 + 1) L ∧ (
        vp_in (v3 + 2) L ∧ (
        vp_in (v3 + 3) L ∧ (
        wpX11_took (xs (v3 + 1).toNatClampNeg) (xs (v3 + 2).toNatClampNeg) (xs (v3 + 3).toNatClampNeg) σ (fun r_107 σ_108 =>
        vp_in (v3 + 1) L ∧ (
        vp_in (v3 + 2) L ∧ (
        vp_in (v3 + 3) L ∧ (
        wpX12_took (xs (v3 + 1).toNatClampNeg) (xs (v3 + 2).toNatClampNeg) (xs (v3 + 3).toNatClampNeg) σ_108 (fun r_109 σ_110 =>
        ((r_107 = r_109 →
          ∀ v3_111 : Int32, v3_111 = v3 + 7 →
          wbL_law_18 L xs n v3_111 σ_110) ∧
        (¬ r_107 = r_109 →
          False))))))))))) ∧
      (¬ x_1 = 21 →
      ((x_1 = 22 →
        vp_in (v3 + 1) L ∧ (
        vp_in (v3 + 2) L ∧ (
        wpX11_sound (xs (v3 + 1).toNatClampNeg) (xs (v3 + 2).toNatClampNeg) σ (fun r_112 σ_113 =>
        vp_in (v3 + 1) L ∧ (
        vp_in (v3 + 2) L ∧ (
        wpX12_sound (xs (v3 + 1).toNatClampNeg) (xs (v3 + 2).toNatClampNeg) σ_113 (fun r_114 σ_115 =>
        ((r_112 = r_114 →
          ∀ v3_116 : Int32, v3_116 = v3 + 7 →
          wbL_law_18 L xs n v3_116 σ_115) ∧
        (¬ r_112 = r_114 →
          False))))))))) ∧
      (¬ x_1 = 22 →
      ((x_1 = 23 →
        vp_in (v3 + 1) L ∧ (
        vp_in (v3 + 2) L ∧ (
        wpX11_crossed (xs (v3 + 1).toNatClampNeg) (xs (v3 + 2).toNatClampNeg) σ (fun r_117 σ_118 =>
        vp_in (v3 + 1) L ∧ (
        vp_in (v3 + 2) L ∧ (
        wpX12_crossed (xs (v3 + 1).toNatClampNeg) (xs (v3 + 2).toNatClampNeg) σ_118 (fun r_119 σ_120 =>
        ((r_117 = r_119 →
          ∀ v3_121 : Int32, v3_121 = v3 + 7 →
          wbL_law_18 L xs n v3_121 σ_120) ∧
        (¬ r_117 = r_119 →
          False))))))))) ∧
      (¬ x_1 = 23 →
      ((x_1 = 24 →
        vp_in (v3 + 1) L ∧ (
        vp_in (v3 + 2) L ∧ (
        vp_in (v3 + 3) L ∧ (
        wpX11_returned (xs (v3 + 1).toNatClampNeg) (xs (v3 + 2).toNatClampNeg) (xs (v3 + 3).toNatClampNeg) σ (fun r_122 σ_123 =>
        vp_in (v3 + 1) L ∧ (
        vp_in (v3 + 2) L ∧ (
        vp_in (v3 + 3) L ∧ (
        wpX12_returned (xs (v3 + 1).toNatClampNeg) (xs (v3 + 2).toNatClampNeg) (xs (v3 + 3).toNatClampNeg) σ_123 (fun r_124 σ_125 =>
        ((r_122 = r_124 →
          ∀ v3_126 : Int32, v3_126 = v3 + 7 →
          wbL_law_18 L xs n v3_126 σ_125) ∧
        (¬ r_122 = r_124 →
          False))))))))))) ∧
      (¬ x_1 = 24 →
      ((x_1 = 25 →
        vp_in (v3 + 1) L ∧ (
        vp_in (v3 + 2) L ∧ (
        vp_in (v3 + 3) L ∧ (
        vp_in (v3 + 4) L ∧ (
        (((xs (v3 + 4).toNatClampNeg) = 0 →
          wbL_law_1166 L xs (wbL_law_18 L xs n) v3 0 (xs (v3 + 3).toNatClampNeg) (xs (v3 + 2).toNatClampNeg) (xs (v3 + 1).toNatClampNeg) σ) ∧
        (¬ (xs (v3 + 4).toNatClampNeg) = 0 →
          wbL_law_1166 L xs (wbL_law_18 L xs n) v3 1 (xs (v3 + 3).toNatClampNeg) (xs (v3 + 2).toNatClampNeg) (xs (v3 + 1).toNatClampNeg) σ))))))) ∧
      (¬ x_1 = 25 →
      ((x_1 = 26 →
        vp_in (v3 + 1) L ∧ (
        vp_in (v3 + 2) L ∧ (
        vp_in (v3 + 3) L ∧ (
        vp_in (v3 + 4) L ∧ (
        wpX11_best (xs (v3 + 1).toNatClampNeg) (xs (v3 + 2).toNatClampNeg) (xs (v3 + 3).toNatClampNeg) (xs (v3 + 4).toNatClampNeg) σ (fun r_127 σ_128 =>
        vp_in (v3 + 1) L ∧ (
        vp_in (v3 + 2) L ∧ (
        vp_in (v3 + 3) L ∧ (
        vp_in (v3 + 4) L ∧ (
        wpX12_best (xs (v3 + 1).toNatClampNeg) (xs (v3 + 2).toNatClampNeg) (xs (v3 + 3).toNatClampNeg) (xs (v3 + 4).toNatClampNeg) σ_128 (fun r_129 σ_130 =>
        ((r_127 = r_129 →
          ∀ v3_131 : Int32, v3_131 = v3 + 7 →
          wbL_law_18 L xs n v3_131 σ_130) ∧
        (¬ r_127 = r_129 →
          False))))))))))))) ∧
      (¬ x_1 = 26 →
      ((x_1 = 27 →
        vp_in (v3 + 1) L ∧ (
        vp_in (v3 + 2) L ∧ (
        vp_in (v3 + 3) L ∧ (
        wpX11_age (xs (v3 + 1).toNatClampNeg) (xs (v3 + 2).toNatClampNeg) (xs (v3 + 3).toNatClampNeg) σ (fun r_132 σ_133 =>
        vp_in (v3 + 1) L ∧ (
        vp_in (v3 + 2) L ∧ (
        vp_in (v3 + 3) L ∧ (
        wpX12_age (xs (v3 + 1).toNatClampNeg) (xs (v3 + 2).toNatClampNeg) (xs (v3 + 3).toNatClampNeg) σ_133 (fun r_134 σ_135 =>
        ((r_132 = r_134 →
          ∀ v3_136 : Int32, v3_136 = v3 + 7 →
          wbL_law_18 L xs n v3_136 σ_135) ∧
        (¬ r_132 = r_134 →
          False))))))))))) ∧
      (¬ x_1 = 27 →
      ((x_1 = 28 →
        vp_in (v3 + 1) L ∧ (
        wpX11_guess (xs (v3 + 1).toNatClampNeg) σ (fun r_137 σ_138 =>
        vp_in (v3 + 1) L ∧ (
        wpX12_guess (xs (v3 + 1).toNatClampNeg) σ_138 (fun r_139 σ_140 =>
        ((r_137 = r_139 →
          ∀ v3_141 : Int32, v3_141 = v3 + 7 →
          wbL_law_18 L xs n v3_141 σ_140) ∧
        (¬ r_137 = r_139 →
          False))))))) ∧
      (¬ x_1 = 28 →
      ((x_1 = 29 →
        vp_in (v3 + 1) L ∧ (
        vp_in (v3 + 2) L ∧ (
        vp_in (v3 + 3) L ∧ (
        wpX11_chance (xs (v3 + 1).toNatClampNeg) (xs (v3 + 2).toNatClampNeg) (xs (v3 + 3).toNatClampNeg) σ (fun r_142 σ_143 =>
        vp_in (v3 + 1) L ∧ (
        vp_in (v3 + 2) L ∧ (
        vp_in (v3 + 3) L ∧ (
        wpX12_chance (xs (v3 + 1).toNatClampNeg) (xs (v3 + 2).toNatClampNeg) (xs (v3 + 3).toNatClampNeg) σ_143 (fun r_144 σ_145 =>
        ((r_142 = r_144 →
          ∀ v3_146 : Int32, v3_146 = v3 + 7 →
          wbL_law_18 L xs n v3_146 σ_145) ∧
        (¬ r_142 = r_144 →
          False))))))))))) ∧
      (¬ x_1 = 29 →
      ((x_1 = 30 →
        vp_in (v3 + 1) L ∧ (
        vp_in (v3 + 2) L ∧ (
        wpX11_turnover (xs (v3 + 1).toNatClampNeg) (xs (v3 + 2).toNatClampNeg) σ (fun r_147 σ_148 =>
        vp_in (v3 + 1) L ∧ (
        vp_in (v3 + 2) L ∧ (
        wpX12_turnover (xs (v3 + 1).toNatClampNeg) (xs (v3 + 2).toNatClampNeg) σ_148 (fun r_149 σ_150 =>
        ((r_147 = r_149 →
          ∀ v3_151 : Int32, v3_151 = v3 + 7 →
          wbL_law_18 L xs n v3_151 σ_150) ∧
        (¬ r_147 = r_149 →
          False))))))))) ∧
      (¬ x_1 = 30 →
      ((x_1 = 31 →
        vp_in (v3 + 1) L ∧ (
        vp_in (v3 + 2) L ∧ (
        vp_in (v3 + 3) L ∧ (
        vp_in (v3 + 4) L ∧ (
        vp_in (v3 + 5) L ∧ (
        wpX11_print (xs (v3 + 1).toNatClampNeg) (xs (v3 + 2).toNatClampNeg) (xs (v3 + 3).toNatClampNeg) (xs (v3 + 4).toNatClampNeg) (xs (v3 + 5).toNatClampNeg) σ (fun r_152 σ_153 =>
        vp_in (v3 + 1) L ∧ (
        vp_in (v3 + 2) L ∧ (
        vp_in (v3 + 3) L ∧ (
        vp_in (v3 + 4) L ∧ (
        vp_in (v3 + 5) L ∧ (
        wpX12_print (xs (v3 + 1).toNatClampNeg) (xs (v3 + 2).toNatClampNeg) (xs (v3 + 3).toNatClampNeg) (xs (v3 + 4).toNatClampNeg) (xs (v3 + 5).toNatClampNeg) σ_153 (fun r_154 σ_155 =>
        ((r_152 = r_154 →
          ∀ v3_156 : Int32, v3_156 = v3 + 7 →
          wbL_law_18 L xs n v3_156 σ_155) ∧
        (¬ r_152 = r_154 →
          False))))))))))))))) ∧
      (¬ x_1 = 31 →
      ((x_1 = 32 →
        vp_in (v3 + 1) L ∧ (
        vp_in (v3 + 2) L ∧ (
        wpX11_let (xs (v3 + 1).toNatClampNeg) (xs (v3 + 2).toNatClampNeg) σ (fun r_157 σ_158 =>
        vp_in (v3 + 1) L ∧ (
        vp_in (v3 + 2) L ∧ (
        wpX12_let (xs (v3 + 1).toNatClampNeg) (xs (v3 + 2).toNatClampNeg) σ_158 (fun r_159 σ_160 =>
        ((r_157 = r_159 →
          ∀ v3_161 : Int32, v3_161 = v3 + 7 →
          wbL_law_18 L xs n v3_161 σ_160) ∧
        (¬ r_157 = r_159 →
          False))))))))) ∧
      (¬ x_1 = 32 →
      ((x_1 = 33 →
        vp_in (v3 + 1) L ∧ (
        vp_in (v3 + 2) L ∧ (
        vp_in (v3 + 3) L ∧ (
        vp_in (v3 + 4) L ∧ (
        vp_in (v3 + 5) L ∧ (
        (((xs (v3 + 5).toNatClampNeg) = 0 →
          wbL_law_1531 L xs (wbL_law_18 L xs n) v3 0 (xs (v3 + 4).toNatClampNeg) (xs (v3 + 3).toNatClampNeg) (xs (v3 + 2).toNatClampNeg) (xs (v3 + 1).toNatClampNeg) σ) ∧
        (¬ (xs (v3 + 5).toNatClampNeg) = 0 →
          wbL_law_1531 L xs (wbL_law_18 L xs n) v3 1 (xs (v3 + 4).toNatClampNeg) (xs (v3 + 3).toNatClampNeg) (xs (v3 + 2).toNatClampNeg) (xs (v3 + 1).toNatClampNeg) σ)))))))) ∧
      (¬ x_1 = 33 →
      ((x_1 = 34 →
        vp_in (v3 + 1) L ∧ (
        vp_in (v3 + 2) L ∧ (
        wpX11_parts (xs (v3 + 1).toNatClampNeg) (xs (v3 + 2).toNatClampNeg) σ (fun r_162 σ_163 =>
        vp_in (v3 + 1) L ∧ (
        vp_in (v3 + 2) L ∧ (
        wpX12_parts (xs (v3 + 1).toNatClampNeg) (xs (v3 + 2).toNatClampNeg) σ_163 (fun r_164 σ_165 =>
        ((r_162 = r_164 →
          ∀ v3_166 : Int32, v3_166 = v3 + 7 →
          wbL_law_18 L xs n v3_166 σ_165) ∧
        (¬ r_162 = r_164 →
          False))))))))) ∧
      (¬ x_1 = 34 →
      ((x_1 = 35 →
        wpX11_image  σ (fun r_167 σ_168 =>
        wpX12_image  σ_168 (fun r_169 σ_170 =>
        ((r_167 = r_169 →
          ∀ v3_171 : Int32, v3_171 = v3 + 7 →
          wbL_law_18 L xs n v3_171 σ_170) ∧
        (¬ r_167 = r_169 →
          False))))) ∧
      (¬ x_1 = 35 →
      ((x_1 = 36 →
        wpX11_back  σ (fun r_172 σ_173 =>
        wpX12_back  σ_173 (fun r_174 σ_175 =>
        ((r_172 = r_174 →
          ∀ v3_176 : Int32, v3_176 = v3 + 7 →
          wbL_law_18 L xs n v3_176 σ_175) ∧
        (¬ r_172 = r_174 →
          False))))) ∧
      (¬ x_1 = 36 →
      ((x_1 = 37 →
        vp_in (v3 + 1) L ∧ (
        wpX11_about (xs (v3 + 1).toNatClampNeg) σ (fun r_177 σ_178 =>
        vp_in (v3 + 1) L ∧ (
        wpX12_about (xs (v3 + 1).toNatClampNeg) σ_178 (fun r_179 σ_180 =>
        ((r_177 = r_179 →
          ∀ v3_181 : Int32, v3_181 = v3 + 7 →
          wbL_law_18 L xs n v3_181 σ_180) ∧
        (¬ r_177 = r_179 →
          False))))))) ∧
      (¬ x_1 = 37 →
      ∀ v3_182 : Int32, v3_182 = v3 + 7 →
      wbL_law_18 L xs n v3_182 σ))))))))))))))))))))))))))))))))))))))))))))))))))))))))))))))))))))))))))))))) := hw
    refine go_iload_n C 3 rfl rfl dL_law_18 ?_
    refine go_aload_n C 0 rfl rfl dL_law_19 ?_
    refine go_slen C hS dL_law_20 ?_
    refine go_bipush (v := 7) C rfl dL_law_21 ?_
    refine go_isub C dL_law_23 ?_
    refine go_icmp_gt C 1664 rfl dL_law_24 (fun hc => ?_) (fun hc => ?_)
    · replace hw := hw.1 hc
      refine go_iconst (v := 1) C rfl dL_law_1664 ?_
      exact go_lawret C Lw dL_law_1665
    · replace hw := hw.2 hc
      refine go_aload_n C 0 rfl rfl dL_law_27 ?_
      refine go_iload_n C 3 rfl rfl dL_law_28 ?_
      refine go_sld C hS hw.1 dL_law_29 ?_
      replace hw := hw.2
      refine go_bipush (v := 63) C rfl dL_law_30 ?_
      refine go_iand C dL_law_32 ?_
      refine go_topi (fun x_1 ex_1 => ?_)
      replace hw := hw x_1 ex_1
      by_cases hc0 : x_1 = 0
      · replace hw := hw.1 hc0
        refine go_tableIn C 200 (by rw [hc0]; decide) (by rw [hc0]; decide) (by rw [hc0]; rfl) rfl dL_law_33 ?_
        refine go_aload_n C 1 rfl rfl dL_law_200 ?_
        refine go_aload_n C 0 rfl rfl dL_law_201 ?_
        refine go_iload_n C 3 rfl rfl dL_law_202 ?_
        refine go_iconst (v := 1) C rfl dL_law_203 ?_
        refine go_iadd C dL_law_204 ?_
        refine go_sld C hS hw.1 dL_law_205 ?_
        replace hw := hw.2
        refine go_i2l C dL_law_206 ?_
        refine go_bipush (v := 32) C rfl dL_law_207 ?_
        refine go_lshl C dL_law_209 ?_
        refine go_aload_n C 0 rfl rfl dL_law_210 ?_
        refine go_iload_n C 3 rfl rfl dL_law_211 ?_
        refine go_iconst (v := 2) C rfl dL_law_212 ?_
        refine go_iadd C dL_law_213 ?_
        refine go_sld C hS hw.1 dL_law_214 ?_
        replace hw := hw.2
        refine go_i2l C dL_law_215 ?_
        refine go_ldc2 (v := 4294967295) C kcL_13 dL_law_216 ?_
        refine go_land C dL_law_219 ?_
        refine go_lor C dL_law_220 ?_
        refine go_aload_n C 0 rfl rfl dL_law_221 ?_
        refine go_iload_n C 3 rfl rfl dL_law_222 ?_
        refine go_iconst (v := 3) C rfl dL_law_223 ?_
        refine go_iadd C dL_law_224 ?_
        refine go_sld C hS hw.1 dL_law_225 ?_
        replace hw := hw.2
        refine go_callV (as := [.long (((xs (v3 + 1).toNatClampNeg).toInt64 <<< ((32 : Int32).toInt64 &&& 63)) ||| ((xs (v3 + 2).toNatClampNeg).toInt64 &&& 4294967295)), .int (xs (v3 + 3).toNatClampNeg)]) C hR (shX11 G) (ltX11 hN1) cwL_15 (Nat.le_trans (by decide) hd) (by decide) rfl rfl (Nat.le_of_ble_eq_true rfl) dL_law_226 (spX11_name (Nat.le_refl _) hN1 hw) (fun v_ τ_ hw => ?_)
        obtain ⟨r_2, rfl, hw⟩ := hw
        obtain ⟨σ_3, rfl⟩ : ∃ z, z = τ_ := ⟨_, rfl⟩
        refine go_aload_n C 2 rfl rfl dL_law_229 ?_
        refine go_aload_n C 0 rfl rfl dL_law_230 ?_
        refine go_iload_n C 3 rfl rfl dL_law_231 ?_
        refine go_iconst (v := 1) C rfl dL_law_232 ?_
        refine go_iadd C dL_law_233 ?_
        refine go_sld C hS hw.1 dL_law_234 ?_
        replace hw := hw.2
        refine go_i2l C dL_law_235 ?_
        refine go_bipush (v := 32) C rfl dL_law_236 ?_
        refine go_lshl C dL_law_238 ?_
        refine go_aload_n C 0 rfl rfl dL_law_239 ?_
        refine go_iload_n C 3 rfl rfl dL_law_240 ?_
        refine go_iconst (v := 2) C rfl dL_law_241 ?_
        refine go_iadd C dL_law_242 ?_
        refine go_sld C hS hw.1 dL_law_243 ?_
        replace hw := hw.2
        refine go_i2l C dL_law_244 ?_
        refine go_ldc2 (v := 4294967295) C kcL_13 dL_law_245 ?_
        refine go_land C dL_law_248 ?_
        refine go_lor C dL_law_249 ?_
        refine go_aload_n C 0 rfl rfl dL_law_250 ?_
        refine go_iload_n C 3 rfl rfl dL_law_251 ?_
        refine go_iconst (v := 3) C rfl dL_law_252 ?_
        refine go_iadd C dL_law_253 ?_
        refine go_sld C hS hw.1 dL_law_254 ?_
        replace hw := hw.2
        refine go_callV (as := [.long (((xs (v3 + 1).toNatClampNeg).toInt64 <<< ((32 : Int32).toInt64 &&& 63)) ||| ((xs (v3 + 2).toNatClampNeg).toInt64 &&& 4294967295)), .int (xs (v3 + 3).toNatClampNeg)]) C hR (shX12 G) (ltX12 hN) cwL_19 (Nat.le_trans (by decide) hd) (by decide) rfl rfl (Nat.le_of_ble_eq_true rfl) dL_law_255 (spX12_name (Nat.le_refl _) hN hw) (fun v_ τ_ hw => ?_)
        obtain ⟨r_4, rfl, hw⟩ := hw
        obtain ⟨σ_5, rfl⟩ : ∃ z, z = τ_ := ⟨_, rfl⟩
        refine go_icmp_eq C 1658 rfl dL_law_258 (fun hc => ?_) (fun hc => ?_)
        · replace hw := hw.1 hc
          obtain ⟨v3_6, ev3_6⟩ : ∃ z : Int32, z = v3 + 7 := ⟨_, rfl⟩
          replace hw := hw v3_6 ev3_6
          refine go_iinc (v := v3_6) (lv2 := [(3, .int v3_6), (0, .ref b), (1, .ref (G.2.2.1 0)), (2, .ref (G.2.2.1 75))]) C 3 rfl (by rw [ev3_6]; rfl) (by rw [hnl]; decide) rfl dL_law_1658 ?_
          refine go_goto C 18 rfl dL_law_1661 ?_
          refine go_sub [1, 2, 3, 0] rfl ?_
          exact ih _ _ hw
        · replace hw := hw.2 hc
          refine go_iconst (v := 0) C rfl dL_law_261 ?_
          exact hw.elim
      replace hw := hw.2 hc0
      by_cases hc1 : x_1 = 1
      · replace hw := hw.1 hc1
        refine go_tableIn C 263 (by rw [hc1]; decide) (by rw [hc1]; decide) (by rw [hc1]; rfl) rfl dL_law_33 ?_
        refine go_aload_n C 1 rfl rfl dL_law_263 ?_
        refine go_aload_n C 0 rfl rfl dL_law_264 ?_
        refine go_iload_n C 3 rfl rfl dL_law_265 ?_
        refine go_iconst (v := 1) C rfl dL_law_266 ?_
        refine go_iadd C dL_law_267 ?_
        refine go_sld C hS hw.1 dL_law_268 ?_
        replace hw := hw.2
        refine go_aload_n C 0 rfl rfl dL_law_269 ?_
        refine go_iload_n C 3 rfl rfl dL_law_270 ?_
        refine go_iconst (v := 2) C rfl dL_law_271 ?_
        refine go_iadd C dL_law_272 ?_
        refine go_sld C hS hw.1 dL_law_273 ?_
        replace hw := hw.2
        refine go_callV (as := [.int (xs (v3 + 1).toNatClampNeg), .int (xs (v3 + 2).toNatClampNeg)]) C hR (shX11 G) (ltX11 hN1) cwL_20 (Nat.le_trans (by decide) hd) (by decide) rfl rfl (Nat.le_of_ble_eq_true rfl) dL_law_274 (spX11_of (Nat.le_refl _) hN1 hw) (fun v_ τ_ hw => ?_)
        obtain ⟨r_7, rfl, hw⟩ := hw
        obtain ⟨σ_8, rfl⟩ : ∃ z, z = τ_ := ⟨_, rfl⟩
        refine go_aload_n C 2 rfl rfl dL_law_277 ?_
        refine go_aload_n C 0 rfl rfl dL_law_278 ?_
        refine go_iload_n C 3 rfl rfl dL_law_279 ?_
        refine go_iconst (v := 1) C rfl dL_law_280 ?_
        refine go_iadd C dL_law_281 ?_
        refine go_sld C hS hw.1 dL_law_282 ?_
        replace hw := hw.2
        refine go_aload_n C 0 rfl rfl dL_law_283 ?_
        refine go_iload_n C 3 rfl rfl dL_law_284 ?_
        refine go_iconst (v := 2) C rfl dL_law_285 ?_
        refine go_iadd C dL_law_286 ?_
        refine go_sld C hS hw.1 dL_law_287 ?_
        replace hw := hw.2
        refine go_callV (as := [.int (xs (v3 + 1).toNatClampNeg), .int (xs (v3 + 2).toNatClampNeg)]) C hR (shX12 G) (ltX12 hN) cwL_24 (Nat.le_trans (by decide) hd) (by decide) rfl rfl (Nat.le_of_ble_eq_true rfl) dL_law_288 (spX12_of (Nat.le_refl _) hN hw) (fun v_ τ_ hw => ?_)
        obtain ⟨r_9, rfl, hw⟩ := hw
        obtain ⟨σ_10, rfl⟩ : ∃ z, z = τ_ := ⟨_, rfl⟩
        refine go_icmp_eq C 1658 rfl dL_law_291 (fun hc => ?_) (fun hc => ?_)
        · replace hw := hw.1 hc
          obtain ⟨v3_11, ev3_11⟩ : ∃ z : Int32, z = v3 + 7 := ⟨_, rfl⟩
          replace hw := hw v3_11 ev3_11
          refine go_iinc (v := v3_11) (lv2 := [(3, .int v3_11), (0, .ref b), (1, .ref (G.2.2.1 0)), (2, .ref (G.2.2.1 75))]) C 3 rfl (by rw [ev3_11]; rfl) (by rw [hnl]; decide) rfl dL_law_1658 ?_
          refine go_goto C 18 rfl dL_law_1661 ?_
          refine go_sub [1, 2, 3, 0] rfl ?_
          exact ih _ _ hw
        · replace hw := hw.2 hc
          refine go_iconst (v := 0) C rfl dL_law_294 ?_
          exact hw.elim
      replace hw := hw.2 hc1
      by_cases hc2 : x_1 = 2
      · replace hw := hw.1 hc2
        refine go_tableIn C 296 (by rw [hc2]; decide) (by rw [hc2]; decide) (by rw [hc2]; rfl) rfl dL_law_33 ?_
        refine go_aload_n C 1 rfl rfl dL_law_296 ?_
        refine go_aload_n C 0 rfl rfl dL_law_297 ?_
        refine go_iload_n C 3 rfl rfl dL_law_298 ?_
        refine go_iconst (v := 1) C rfl dL_law_299 ?_
        refine go_iadd C dL_law_300 ?_
        refine go_sld C hS hw.1 dL_law_301 ?_
        replace hw := hw.2
        refine go_aload_n C 0 rfl rfl dL_law_302 ?_
        refine go_iload_n C 3 rfl rfl dL_law_303 ?_
        refine go_iconst (v := 2) C rfl dL_law_304 ?_
        refine go_iadd C dL_law_305 ?_
        refine go_sld C hS hw.1 dL_law_306 ?_
        replace hw := hw.2
        refine go_callV (as := [.int (xs (v3 + 1).toNatClampNeg), .int (xs (v3 + 2).toNatClampNeg)]) C hR (shX11 G) (ltX11 hN1) cwL_25 (Nat.le_trans (by decide) hd) (by decide) rfl rfl (Nat.le_of_ble_eq_true rfl) dL_law_307 (spX11_alike (Nat.le_refl _) hN1 hw) (fun v_ τ_ hw => ?_)
        obtain ⟨r_12, rfl, hw⟩ := hw
        obtain ⟨σ_13, rfl⟩ : ∃ z, z = τ_ := ⟨_, rfl⟩
        refine go_aload_n C 2 rfl rfl dL_law_310 ?_
        refine go_aload_n C 0 rfl rfl dL_law_311 ?_
        refine go_iload_n C 3 rfl rfl dL_law_312 ?_
        refine go_iconst (v := 1) C rfl dL_law_313 ?_
        refine go_iadd C dL_law_314 ?_
        refine go_sld C hS hw.1 dL_law_315 ?_
        replace hw := hw.2
        refine go_aload_n C 0 rfl rfl dL_law_316 ?_
        refine go_iload_n C 3 rfl rfl dL_law_317 ?_
        refine go_iconst (v := 2) C rfl dL_law_318 ?_
        refine go_iadd C dL_law_319 ?_
        refine go_sld C hS hw.1 dL_law_320 ?_
        replace hw := hw.2
        refine go_callV (as := [.int (xs (v3 + 1).toNatClampNeg), .int (xs (v3 + 2).toNatClampNeg)]) C hR (shX12 G) (ltX12 hN) cwL_28 (Nat.le_trans (by decide) hd) (by decide) rfl rfl (Nat.le_of_ble_eq_true rfl) dL_law_321 (spX12_alike (Nat.le_refl _) hN hw) (fun v_ τ_ hw => ?_)
        obtain ⟨r_14, rfl, hw⟩ := hw
        obtain ⟨σ_15, rfl⟩ : ∃ z, z = τ_ := ⟨_, rfl⟩
        refine go_icmp_eq C 1658 rfl dL_law_324 (fun hc => ?_) (fun hc => ?_)
        · replace hw := hw.1 hc
          obtain ⟨v3_16, ev3_16⟩ : ∃ z : Int32, z = v3 + 7 := ⟨_, rfl⟩
          replace hw := hw v3_16 ev3_16
          refine go_iinc (v := v3_16) (lv2 := [(3, .int v3_16), (0, .ref b), (1, .ref (G.2.2.1 0)), (2, .ref (G.2.2.1 75))]) C 3 rfl (by rw [ev3_16]; rfl) (by rw [hnl]; decide) rfl dL_law_1658 ?_
          refine go_goto C 18 rfl dL_law_1661 ?_
          refine go_sub [1, 2, 3, 0] rfl ?_
          exact ih _ _ hw
        · replace hw := hw.2 hc
          refine go_iconst (v := 0) C rfl dL_law_327 ?_
          exact hw.elim
      replace hw := hw.2 hc2
      by_cases hc3 : x_1 = 3
      · replace hw := hw.1 hc3
        refine go_tableIn C 329 (by rw [hc3]; decide) (by rw [hc3]; decide) (by rw [hc3]; rfl) rfl dL_law_33 ?_
        refine go_aload_n C 1 rfl rfl dL_law_329 ?_
        refine go_aload_n C 0 rfl rfl dL_law_330 ?_
        refine go_iload_n C 3 rfl rfl dL_law_331 ?_
        refine go_iconst (v := 1) C rfl dL_law_332 ?_
        refine go_iadd C dL_law_333 ?_
        refine go_sld C hS hw.1 dL_law_334 ?_
        replace hw := hw.2
        refine go_aload_n C 0 rfl rfl dL_law_335 ?_
        refine go_iload_n C 3 rfl rfl dL_law_336 ?_
        refine go_iconst (v := 2) C rfl dL_law_337 ?_
        refine go_iadd C dL_law_338 ?_
        refine go_sld C hS hw.1 dL_law_339 ?_
        replace hw := hw.2
        refine go_aload_n C 0 rfl rfl dL_law_340 ?_
        refine go_iload_n C 3 rfl rfl dL_law_341 ?_
        refine go_iconst (v := 3) C rfl dL_law_342 ?_
        refine go_iadd C dL_law_343 ?_
        refine go_sld C hS hw.1 dL_law_344 ?_
        replace hw := hw.2
        refine go_aload_n C 0 rfl rfl dL_law_345 ?_
        refine go_iload_n C 3 rfl rfl dL_law_346 ?_
        refine go_iconst (v := 4) C rfl dL_law_347 ?_
        refine go_iadd C dL_law_348 ?_
        refine go_sld C hS hw.1 dL_law_349 ?_
        replace hw := hw.2
        refine go_aload_n C 0 rfl rfl dL_law_350 ?_
        refine go_iload_n C 3 rfl rfl dL_law_351 ?_
        refine go_iconst (v := 5) C rfl dL_law_352 ?_
        refine go_iadd C dL_law_353 ?_
        refine go_sld C hS hw.1 dL_law_354 ?_
        replace hw := hw.2
        refine go_aload_n C 0 rfl rfl dL_law_355 ?_
        refine go_iload_n C 3 rfl rfl dL_law_356 ?_
        refine go_bipush (v := 6) C rfl dL_law_357 ?_
        refine go_iadd C dL_law_359 ?_
        refine go_sld C hS hw.1 dL_law_360 ?_
        replace hw := hw.2
        refine go_callV (as := [.int (xs (v3 + 1).toNatClampNeg), .int (xs (v3 + 2).toNatClampNeg), .int (xs (v3 + 3).toNatClampNeg), .int (xs (v3 + 4).toNatClampNeg), .int (xs (v3 + 5).toNatClampNeg), .int (xs (v3 + 6).toNatClampNeg)]) C hR (shX11 G) (ltX11 hN1) cwL_29 (Nat.le_trans (by decide) hd) (by decide) rfl rfl (Nat.le_of_ble_eq_true rfl) dL_law_361 (spX11_born (Nat.le_refl _) hN1 hw) (fun v_ τ_ hw => ?_)
        obtain ⟨r_17, rfl, hw⟩ := hw
        obtain ⟨σ_18, rfl⟩ : ∃ z, z = τ_ := ⟨_, rfl⟩
        refine go_aload_n C 2 rfl rfl dL_law_364 ?_
        refine go_aload_n C 0 rfl rfl dL_law_365 ?_
        refine go_iload_n C 3 rfl rfl dL_law_366 ?_
        refine go_iconst (v := 1) C rfl dL_law_367 ?_
        refine go_iadd C dL_law_368 ?_
        refine go_sld C hS hw.1 dL_law_369 ?_
        replace hw := hw.2
        refine go_aload_n C 0 rfl rfl dL_law_370 ?_
        refine go_iload_n C 3 rfl rfl dL_law_371 ?_
        refine go_iconst (v := 2) C rfl dL_law_372 ?_
        refine go_iadd C dL_law_373 ?_
        refine go_sld C hS hw.1 dL_law_374 ?_
        replace hw := hw.2
        refine go_aload_n C 0 rfl rfl dL_law_375 ?_
        refine go_iload_n C 3 rfl rfl dL_law_376 ?_
        refine go_iconst (v := 3) C rfl dL_law_377 ?_
        refine go_iadd C dL_law_378 ?_
        refine go_sld C hS hw.1 dL_law_379 ?_
        replace hw := hw.2
        refine go_aload_n C 0 rfl rfl dL_law_380 ?_
        refine go_iload_n C 3 rfl rfl dL_law_381 ?_
        refine go_iconst (v := 4) C rfl dL_law_382 ?_
        refine go_iadd C dL_law_383 ?_
        refine go_sld C hS hw.1 dL_law_384 ?_
        replace hw := hw.2
        refine go_aload_n C 0 rfl rfl dL_law_385 ?_
        refine go_iload_n C 3 rfl rfl dL_law_386 ?_
        refine go_iconst (v := 5) C rfl dL_law_387 ?_
        refine go_iadd C dL_law_388 ?_
        refine go_sld C hS hw.1 dL_law_389 ?_
        replace hw := hw.2
        refine go_aload_n C 0 rfl rfl dL_law_390 ?_
        refine go_iload_n C 3 rfl rfl dL_law_391 ?_
        refine go_bipush (v := 6) C rfl dL_law_392 ?_
        refine go_iadd C dL_law_394 ?_
        refine go_sld C hS hw.1 dL_law_395 ?_
        replace hw := hw.2
        refine go_callV (as := [.int (xs (v3 + 1).toNatClampNeg), .int (xs (v3 + 2).toNatClampNeg), .int (xs (v3 + 3).toNatClampNeg), .int (xs (v3 + 4).toNatClampNeg), .int (xs (v3 + 5).toNatClampNeg), .int (xs (v3 + 6).toNatClampNeg)]) C hR (shX12 G) (ltX12 hN) cwL_33 (Nat.le_trans (by decide) hd) (by decide) rfl rfl (Nat.le_of_ble_eq_true rfl) dL_law_396 (spX12_born (Nat.le_refl _) hN hw) (fun v_ τ_ hw => ?_)
        obtain ⟨r_19, rfl, hw⟩ := hw
        obtain ⟨σ_20, rfl⟩ : ∃ z, z = τ_ := ⟨_, rfl⟩
        refine go_icmp_eq C 1658 rfl dL_law_399 (fun hc => ?_) (fun hc => ?_)
        · replace hw := hw.1 hc
          obtain ⟨v3_21, ev3_21⟩ : ∃ z : Int32, z = v3 + 7 := ⟨_, rfl⟩
          replace hw := hw v3_21 ev3_21
          refine go_iinc (v := v3_21) (lv2 := [(3, .int v3_21), (0, .ref b), (1, .ref (G.2.2.1 0)), (2, .ref (G.2.2.1 75))]) C 3 rfl (by rw [ev3_21]; rfl) (by rw [hnl]; decide) rfl dL_law_1658 ?_
          refine go_goto C 18 rfl dL_law_1661 ?_
          refine go_sub [1, 2, 3, 0] rfl ?_
          exact ih _ _ hw
        · replace hw := hw.2 hc
          refine go_iconst (v := 0) C rfl dL_law_402 ?_
          exact hw.elim
      replace hw := hw.2 hc3
      by_cases hc4 : x_1 = 4
      · replace hw := hw.1 hc4
        refine go_tableIn C 404 (by rw [hc4]; decide) (by rw [hc4]; decide) (by rw [hc4]; rfl) rfl dL_law_33 ?_
        refine go_aload_n C 1 rfl rfl dL_law_404 ?_
        refine go_aload_n C 0 rfl rfl dL_law_405 ?_
        refine go_iload_n C 3 rfl rfl dL_law_406 ?_
        refine go_iconst (v := 1) C rfl dL_law_407 ?_
        refine go_iadd C dL_law_408 ?_
        refine go_sld C hS hw.1 dL_law_409 ?_
        replace hw := hw.2
        refine go_callV (as := [.int (xs (v3 + 1).toNatClampNeg)]) C hR (shX11 G) (ltX11 hN1) cwL_34 (Nat.le_trans (by decide) hd) (by decide) rfl rfl (Nat.le_of_ble_eq_true rfl) dL_law_410 (spX11_life (Nat.le_refl _) hN1 hw) (fun v_ τ_ hw => ?_)
        obtain ⟨r_22, rfl, hw⟩ := hw
        obtain ⟨σ_23, rfl⟩ : ∃ z, z = τ_ := ⟨_, rfl⟩
        refine go_aload_n C 2 rfl rfl dL_law_413 ?_
        refine go_aload_n C 0 rfl rfl dL_law_414 ?_
        refine go_iload_n C 3 rfl rfl dL_law_415 ?_
        refine go_iconst (v := 1) C rfl dL_law_416 ?_
        refine go_iadd C dL_law_417 ?_
        refine go_sld C hS hw.1 dL_law_418 ?_
        replace hw := hw.2
        refine go_callV (as := [.int (xs (v3 + 1).toNatClampNeg)]) C hR (shX12 G) (ltX12 hN) cwL_38 (Nat.le_trans (by decide) hd) (by decide) rfl rfl (Nat.le_of_ble_eq_true rfl) dL_law_419 (spX12_life (Nat.le_refl _) hN hw) (fun v_ τ_ hw => ?_)
        obtain ⟨r_24, rfl, hw⟩ := hw
        obtain ⟨σ_25, rfl⟩ : ∃ z, z = τ_ := ⟨_, rfl⟩
        refine go_icmp_eq C 1658 rfl dL_law_422 (fun hc => ?_) (fun hc => ?_)
        · replace hw := hw.1 hc
          obtain ⟨v3_26, ev3_26⟩ : ∃ z : Int32, z = v3 + 7 := ⟨_, rfl⟩
          replace hw := hw v3_26 ev3_26
          refine go_iinc (v := v3_26) (lv2 := [(3, .int v3_26), (0, .ref b), (1, .ref (G.2.2.1 0)), (2, .ref (G.2.2.1 75))]) C 3 rfl (by rw [ev3_26]; rfl) (by rw [hnl]; decide) rfl dL_law_1658 ?_
          refine go_goto C 18 rfl dL_law_1661 ?_
          refine go_sub [1, 2, 3, 0] rfl ?_
          exact ih _ _ hw
        · replace hw := hw.2 hc
          refine go_iconst (v := 0) C rfl dL_law_425 ?_
          exact hw.elim
      replace hw := hw.2 hc4
      by_cases hc5 : x_1 = 5
      · replace hw := hw.1 hc5
        refine go_tableIn C 427 (by rw [hc5]; decide) (by rw [hc5]; decide) (by rw [hc5]; rfl) rfl dL_law_33 ?_
        refine go_aload_n C 1 rfl rfl dL_law_427 ?_
        refine go_aload_n C 0 rfl rfl dL_law_428 ?_
        refine go_iload_n C 3 rfl rfl dL_law_429 ?_
        refine go_iconst (v := 1) C rfl dL_law_430 ?_
        refine go_iadd C dL_law_431 ?_
        refine go_sld C hS hw.1 dL_law_432 ?_
        replace hw := hw.2
        refine go_aload_n C 0 rfl rfl dL_law_433 ?_
        refine go_iload_n C 3 rfl rfl dL_law_434 ?_
        refine go_iconst (v := 2) C rfl dL_law_435 ?_
        refine go_iadd C dL_law_436 ?_
        refine go_sld C hS hw.1 dL_law_437 ?_
        replace hw := hw.2
        refine go_aload_n C 0 rfl rfl dL_law_438 ?_
        refine go_iload_n C 3 rfl rfl dL_law_439 ?_
        refine go_iconst (v := 3) C rfl dL_law_440 ?_
        refine go_iadd C dL_law_441 ?_
        refine go_sld C hS hw.1 dL_law_442 ?_
        replace hw := hw.2
        refine go_aload_n C 0 rfl rfl dL_law_443 ?_
        refine go_iload_n C 3 rfl rfl dL_law_444 ?_
        refine go_iconst (v := 4) C rfl dL_law_445 ?_
        refine go_iadd C dL_law_446 ?_
        refine go_sld C hS hw.1 dL_law_447 ?_
        replace hw := hw.2
        refine go_callV (as := [.int (xs (v3 + 1).toNatClampNeg), .int (xs (v3 + 2).toNatClampNeg), .int (xs (v3 + 3).toNatClampNeg), .int (xs (v3 + 4).toNatClampNeg)]) C hR (shX11 G) (ltX11 hN1) cwL_39 (Nat.le_trans (by decide) hd) (by decide) rfl rfl (Nat.le_of_ble_eq_true rfl) dL_law_448 (spX11_cradles (Nat.le_refl _) hN1 hw) (fun v_ τ_ hw => ?_)
        obtain ⟨r_27, rfl, hw⟩ := hw
        obtain ⟨σ_28, rfl⟩ : ∃ z, z = τ_ := ⟨_, rfl⟩
        refine go_aload_n C 2 rfl rfl dL_law_451 ?_
        refine go_aload_n C 0 rfl rfl dL_law_452 ?_
        refine go_iload_n C 3 rfl rfl dL_law_453 ?_
        refine go_iconst (v := 1) C rfl dL_law_454 ?_
        refine go_iadd C dL_law_455 ?_
        refine go_sld C hS hw.1 dL_law_456 ?_
        replace hw := hw.2
        refine go_aload_n C 0 rfl rfl dL_law_457 ?_
        refine go_iload_n C 3 rfl rfl dL_law_458 ?_
        refine go_iconst (v := 2) C rfl dL_law_459 ?_
        refine go_iadd C dL_law_460 ?_
        refine go_sld C hS hw.1 dL_law_461 ?_
        replace hw := hw.2
        refine go_aload_n C 0 rfl rfl dL_law_462 ?_
        refine go_iload_n C 3 rfl rfl dL_law_463 ?_
        refine go_iconst (v := 3) C rfl dL_law_464 ?_
        refine go_iadd C dL_law_465 ?_
        refine go_sld C hS hw.1 dL_law_466 ?_
        replace hw := hw.2
        refine go_aload_n C 0 rfl rfl dL_law_467 ?_
        refine go_iload_n C 3 rfl rfl dL_law_468 ?_
        refine go_iconst (v := 4) C rfl dL_law_469 ?_
        refine go_iadd C dL_law_470 ?_
        refine go_sld C hS hw.1 dL_law_471 ?_
        replace hw := hw.2
        refine go_callV (as := [.int (xs (v3 + 1).toNatClampNeg), .int (xs (v3 + 2).toNatClampNeg), .int (xs (v3 + 3).toNatClampNeg), .int (xs (v3 + 4).toNatClampNeg)]) C hR (shX12 G) (ltX12 hN) cwL_43 (Nat.le_trans (by decide) hd) (by decide) rfl rfl (Nat.le_of_ble_eq_true rfl) dL_law_472 (spX12_cradles (Nat.le_refl _) hN hw) (fun v_ τ_ hw => ?_)
        obtain ⟨r_29, rfl, hw⟩ := hw
        obtain ⟨σ_30, rfl⟩ : ∃ z, z = τ_ := ⟨_, rfl⟩
        refine go_icmp_eq C 1658 rfl dL_law_475 (fun hc => ?_) (fun hc => ?_)
        · replace hw := hw.1 hc
          obtain ⟨v3_31, ev3_31⟩ : ∃ z : Int32, z = v3 + 7 := ⟨_, rfl⟩
          replace hw := hw v3_31 ev3_31
          refine go_iinc (v := v3_31) (lv2 := [(3, .int v3_31), (0, .ref b), (1, .ref (G.2.2.1 0)), (2, .ref (G.2.2.1 75))]) C 3 rfl (by rw [ev3_31]; rfl) (by rw [hnl]; decide) rfl dL_law_1658 ?_
          refine go_goto C 18 rfl dL_law_1661 ?_
          refine go_sub [1, 2, 3, 0] rfl ?_
          exact ih _ _ hw
        · replace hw := hw.2 hc
          refine go_iconst (v := 0) C rfl dL_law_478 ?_
          exact hw.elim
      replace hw := hw.2 hc5
      by_cases hc6 : x_1 = 6
      · replace hw := hw.1 hc6
        refine go_tableIn C 480 (by rw [hc6]; decide) (by rw [hc6]; decide) (by rw [hc6]; rfl) rfl dL_law_33 ?_
        refine go_aload_n C 1 rfl rfl dL_law_480 ?_
        refine go_aload_n C 0 rfl rfl dL_law_481 ?_
        refine go_iload_n C 3 rfl rfl dL_law_482 ?_
        refine go_iconst (v := 1) C rfl dL_law_483 ?_
        refine go_iadd C dL_law_484 ?_
        refine go_sld C hS hw.1 dL_law_485 ?_
        replace hw := hw.2
        refine go_aload_n C 0 rfl rfl dL_law_486 ?_
        refine go_iload_n C 3 rfl rfl dL_law_487 ?_
        refine go_iconst (v := 2) C rfl dL_law_488 ?_
        refine go_iadd C dL_law_489 ?_
        refine go_sld C hS hw.1 dL_law_490 ?_
        replace hw := hw.2
        refine go_callV (as := [.int (xs (v3 + 1).toNatClampNeg), .int (xs (v3 + 2).toNatClampNeg)]) C hR (shX11 G) (ltX11 hN1) cwL_44 (Nat.le_trans (by decide) hd) (by decide) rfl rfl (Nat.le_of_ble_eq_true rfl) dL_law_491 (spX11_list (Nat.le_refl _) hN1 hw) (fun v_ τ_ hw => ?_)
        obtain ⟨r_32, rfl, hw⟩ := hw
        obtain ⟨σ_33, rfl⟩ : ∃ z, z = τ_ := ⟨_, rfl⟩
        refine go_aload_n C 2 rfl rfl dL_law_494 ?_
        refine go_aload_n C 0 rfl rfl dL_law_495 ?_
        refine go_iload_n C 3 rfl rfl dL_law_496 ?_
        refine go_iconst (v := 1) C rfl dL_law_497 ?_
        refine go_iadd C dL_law_498 ?_
        refine go_sld C hS hw.1 dL_law_499 ?_
        replace hw := hw.2
        refine go_aload_n C 0 rfl rfl dL_law_500 ?_
        refine go_iload_n C 3 rfl rfl dL_law_501 ?_
        refine go_iconst (v := 2) C rfl dL_law_502 ?_
        refine go_iadd C dL_law_503 ?_
        refine go_sld C hS hw.1 dL_law_504 ?_
        replace hw := hw.2
        refine go_callV (as := [.int (xs (v3 + 1).toNatClampNeg), .int (xs (v3 + 2).toNatClampNeg)]) C hR (shX12 G) (ltX12 hN) cwL_47 (Nat.le_trans (by decide) hd) (by decide) rfl rfl (Nat.le_of_ble_eq_true rfl) dL_law_505 (spX12_list (Nat.le_refl _) hN hw) (fun v_ τ_ hw => ?_)
        obtain ⟨r_34, rfl, hw⟩ := hw
        obtain ⟨σ_35, rfl⟩ : ∃ z, z = τ_ := ⟨_, rfl⟩
        refine go_icmp_eq C 1658 rfl dL_law_508 (fun hc => ?_) (fun hc => ?_)
        · replace hw := hw.1 hc
          obtain ⟨v3_36, ev3_36⟩ : ∃ z : Int32, z = v3 + 7 := ⟨_, rfl⟩
          replace hw := hw v3_36 ev3_36
          refine go_iinc (v := v3_36) (lv2 := [(3, .int v3_36), (0, .ref b), (1, .ref (G.2.2.1 0)), (2, .ref (G.2.2.1 75))]) C 3 rfl (by rw [ev3_36]; rfl) (by rw [hnl]; decide) rfl dL_law_1658 ?_
          refine go_goto C 18 rfl dL_law_1661 ?_
          refine go_sub [1, 2, 3, 0] rfl ?_
          exact ih _ _ hw
        · replace hw := hw.2 hc
          refine go_iconst (v := 0) C rfl dL_law_511 ?_
          exact hw.elim
      replace hw := hw.2 hc6
      by_cases hc7 : x_1 = 7
      · replace hw := hw.1 hc7
        refine go_tableIn C 513 (by rw [hc7]; decide) (by rw [hc7]; decide) (by rw [hc7]; rfl) rfl dL_law_33 ?_
        refine go_aload_n C 1 rfl rfl dL_law_513 ?_
        refine go_aload_n C 0 rfl rfl dL_law_514 ?_
        refine go_iload_n C 3 rfl rfl dL_law_515 ?_
        refine go_iconst (v := 1) C rfl dL_law_516 ?_
        refine go_iadd C dL_law_517 ?_
        refine go_sld C hS hw.1 dL_law_518 ?_
        replace hw := hw.2
        refine go_aload_n C 0 rfl rfl dL_law_519 ?_
        refine go_iload_n C 3 rfl rfl dL_law_520 ?_
        refine go_iconst (v := 2) C rfl dL_law_521 ?_
        refine go_iadd C dL_law_522 ?_
        refine go_sld C hS hw.1 dL_law_523 ?_
        replace hw := hw.2
        refine go_aload_n C 0 rfl rfl dL_law_524 ?_
        refine go_iload_n C 3 rfl rfl dL_law_525 ?_
        refine go_iconst (v := 3) C rfl dL_law_526 ?_
        refine go_iadd C dL_law_527 ?_
        refine go_sld C hS hw.1 dL_law_528 ?_
        replace hw := hw.2
        refine go_callV (as := [.int (xs (v3 + 1).toNatClampNeg), .int (xs (v3 + 2).toNatClampNeg), .int (xs (v3 + 3).toNatClampNeg)]) C hR (shX11 G) (ltX11 hN1) cwL_48 (Nat.le_trans (by decide) hd) (by decide) rfl rfl (Nat.le_of_ble_eq_true rfl) dL_law_529 (spX11_film (Nat.le_refl _) hN1 hw) (fun v_ τ_ hw => ?_)
        obtain ⟨r_37, rfl, hw⟩ := hw
        obtain ⟨σ_38, rfl⟩ : ∃ z, z = τ_ := ⟨_, rfl⟩
        refine go_aload_n C 2 rfl rfl dL_law_532 ?_
        refine go_aload_n C 0 rfl rfl dL_law_533 ?_
        refine go_iload_n C 3 rfl rfl dL_law_534 ?_
        refine go_iconst (v := 1) C rfl dL_law_535 ?_
        refine go_iadd C dL_law_536 ?_
        refine go_sld C hS hw.1 dL_law_537 ?_
        replace hw := hw.2
        refine go_aload_n C 0 rfl rfl dL_law_538 ?_
        refine go_iload_n C 3 rfl rfl dL_law_539 ?_
        refine go_iconst (v := 2) C rfl dL_law_540 ?_
        refine go_iadd C dL_law_541 ?_
        refine go_sld C hS hw.1 dL_law_542 ?_
        replace hw := hw.2
        refine go_aload_n C 0 rfl rfl dL_law_543 ?_
        refine go_iload_n C 3 rfl rfl dL_law_544 ?_
        refine go_iconst (v := 3) C rfl dL_law_545 ?_
        refine go_iadd C dL_law_546 ?_
        refine go_sld C hS hw.1 dL_law_547 ?_
        replace hw := hw.2
        refine go_callV (as := [.int (xs (v3 + 1).toNatClampNeg), .int (xs (v3 + 2).toNatClampNeg), .int (xs (v3 + 3).toNatClampNeg)]) C hR (shX12 G) (ltX12 hN) cwL_52 (Nat.le_trans (by decide) hd) (by decide) rfl rfl (Nat.le_of_ble_eq_true rfl) dL_law_548 (spX12_film (Nat.le_refl _) hN hw) (fun v_ τ_ hw => ?_)
        obtain ⟨r_39, rfl, hw⟩ := hw
        obtain ⟨σ_40, rfl⟩ : ∃ z, z = τ_ := ⟨_, rfl⟩
        refine go_icmp_eq C 1658 rfl dL_law_551 (fun hc => ?_) (fun hc => ?_)
        · replace hw := hw.1 hc
          obtain ⟨v3_41, ev3_41⟩ : ∃ z : Int32, z = v3 + 7 := ⟨_, rfl⟩
          replace hw := hw v3_41 ev3_41
          refine go_iinc (v := v3_41) (lv2 := [(3, .int v3_41), (0, .ref b), (1, .ref (G.2.2.1 0)), (2, .ref (G.2.2.1 75))]) C 3 rfl (by rw [ev3_41]; rfl) (by rw [hnl]; decide) rfl dL_law_1658 ?_
          refine go_goto C 18 rfl dL_law_1661 ?_
          refine go_sub [1, 2, 3, 0] rfl ?_
          exact ih _ _ hw
        · replace hw := hw.2 hc
          refine go_iconst (v := 0) C rfl dL_law_554 ?_
          exact hw.elim
      replace hw := hw.2 hc7
      by_cases hc8 : x_1 = 8
      · replace hw := hw.1 hc8
        refine go_tableIn C 556 (by rw [hc8]; decide) (by rw [hc8]; decide) (by rw [hc8]; rfl) rfl dL_law_33 ?_
        refine go_aload_n C 1 rfl rfl dL_law_556 ?_
        refine go_aload_n C 0 rfl rfl dL_law_557 ?_
        refine go_iload_n C 3 rfl rfl dL_law_558 ?_
        refine go_iconst (v := 1) C rfl dL_law_559 ?_
        refine go_iadd C dL_law_560 ?_
        refine go_sld C hS hw.1 dL_law_561 ?_
        replace hw := hw.2
        refine go_aload_n C 0 rfl rfl dL_law_562 ?_
        refine go_iload_n C 3 rfl rfl dL_law_563 ?_
        refine go_iconst (v := 2) C rfl dL_law_564 ?_
        refine go_iadd C dL_law_565 ?_
        refine go_sld C hS hw.1 dL_law_566 ?_
        replace hw := hw.2
        refine go_aload_n C 0 rfl rfl dL_law_567 ?_
        refine go_iload_n C 3 rfl rfl dL_law_568 ?_
        refine go_iconst (v := 3) C rfl dL_law_569 ?_
        refine go_iadd C dL_law_570 ?_
        refine go_sld C hS hw.1 dL_law_571 ?_
        replace hw := hw.2
        refine go_aload_n C 0 rfl rfl dL_law_572 ?_
        refine go_iload_n C 3 rfl rfl dL_law_573 ?_
        refine go_iconst (v := 4) C rfl dL_law_574 ?_
        refine go_iadd C dL_law_575 ?_
        refine go_sld C hS hw.1 dL_law_576 ?_
        replace hw := hw.2
        refine go_aload_n C 0 rfl rfl dL_law_577 ?_
        refine go_iload_n C 3 rfl rfl dL_law_578 ?_
        refine go_iconst (v := 5) C rfl dL_law_579 ?_
        refine go_iadd C dL_law_580 ?_
        refine go_sld C hS hw.1 dL_law_581 ?_
        replace hw := hw.2
        refine go_callV (as := [.int (xs (v3 + 1).toNatClampNeg), .int (xs (v3 + 2).toNatClampNeg), .int (xs (v3 + 3).toNatClampNeg), .int (xs (v3 + 4).toNatClampNeg), .int (xs (v3 + 5).toNatClampNeg)]) C hR (shX11 G) (ltX11 hN1) cwL_53 (Nat.le_trans (by decide) hd) (by decide) rfl rfl (Nat.le_of_ble_eq_true rfl) dL_law_582 (spX11_feed (Nat.le_refl _) hN1 hw) (fun v_ τ_ hw => ?_)
        obtain ⟨r_42, rfl, hw⟩ := hw
        obtain ⟨σ_43, rfl⟩ : ∃ z, z = τ_ := ⟨_, rfl⟩
        refine go_aload_n C 2 rfl rfl dL_law_585 ?_
        refine go_aload_n C 0 rfl rfl dL_law_586 ?_
        refine go_iload_n C 3 rfl rfl dL_law_587 ?_
        refine go_iconst (v := 1) C rfl dL_law_588 ?_
        refine go_iadd C dL_law_589 ?_
        refine go_sld C hS hw.1 dL_law_590 ?_
        replace hw := hw.2
        refine go_aload_n C 0 rfl rfl dL_law_591 ?_
        refine go_iload_n C 3 rfl rfl dL_law_592 ?_
        refine go_iconst (v := 2) C rfl dL_law_593 ?_
        refine go_iadd C dL_law_594 ?_
        refine go_sld C hS hw.1 dL_law_595 ?_
        replace hw := hw.2
        refine go_aload_n C 0 rfl rfl dL_law_596 ?_
        refine go_iload_n C 3 rfl rfl dL_law_597 ?_
        refine go_iconst (v := 3) C rfl dL_law_598 ?_
        refine go_iadd C dL_law_599 ?_
        refine go_sld C hS hw.1 dL_law_600 ?_
        replace hw := hw.2
        refine go_aload_n C 0 rfl rfl dL_law_601 ?_
        refine go_iload_n C 3 rfl rfl dL_law_602 ?_
        refine go_iconst (v := 4) C rfl dL_law_603 ?_
        refine go_iadd C dL_law_604 ?_
        refine go_sld C hS hw.1 dL_law_605 ?_
        replace hw := hw.2
        refine go_aload_n C 0 rfl rfl dL_law_606 ?_
        refine go_iload_n C 3 rfl rfl dL_law_607 ?_
        refine go_iconst (v := 5) C rfl dL_law_608 ?_
        refine go_iadd C dL_law_609 ?_
        refine go_sld C hS hw.1 dL_law_610 ?_
        replace hw := hw.2
        refine go_callV (as := [.int (xs (v3 + 1).toNatClampNeg), .int (xs (v3 + 2).toNatClampNeg), .int (xs (v3 + 3).toNatClampNeg), .int (xs (v3 + 4).toNatClampNeg), .int (xs (v3 + 5).toNatClampNeg)]) C hR (shX12 G) (ltX12 hN) cwL_57 (Nat.le_trans (by decide) hd) (by decide) rfl rfl (Nat.le_of_ble_eq_true rfl) dL_law_611 (spX12_feed (Nat.le_refl _) hN hw) (fun v_ τ_ hw => ?_)
        obtain ⟨r_44, rfl, hw⟩ := hw
        obtain ⟨σ_45, rfl⟩ : ∃ z, z = τ_ := ⟨_, rfl⟩
        refine go_icmp_eq C 1658 rfl dL_law_614 (fun hc => ?_) (fun hc => ?_)
        · replace hw := hw.1 hc
          obtain ⟨v3_46, ev3_46⟩ : ∃ z : Int32, z = v3 + 7 := ⟨_, rfl⟩
          replace hw := hw v3_46 ev3_46
          refine go_iinc (v := v3_46) (lv2 := [(3, .int v3_46), (0, .ref b), (1, .ref (G.2.2.1 0)), (2, .ref (G.2.2.1 75))]) C 3 rfl (by rw [ev3_46]; rfl) (by rw [hnl]; decide) rfl dL_law_1658 ?_
          refine go_goto C 18 rfl dL_law_1661 ?_
          refine go_sub [1, 2, 3, 0] rfl ?_
          exact ih _ _ hw
        · replace hw := hw.2 hc
          refine go_iconst (v := 0) C rfl dL_law_617 ?_
          exact hw.elim
      replace hw := hw.2 hc8
      by_cases hc9 : x_1 = 9
      · replace hw := hw.1 hc9
        refine go_tableIn C 619 (by rw [hc9]; decide) (by rw [hc9]; decide) (by rw [hc9]; rfl) rfl dL_law_33 ?_
        refine go_aload_n C 1 rfl rfl dL_law_619 ?_
        refine go_aload_n C 0 rfl rfl dL_law_620 ?_
        refine go_iload_n C 3 rfl rfl dL_law_621 ?_
        refine go_iconst (v := 1) C rfl dL_law_622 ?_
        refine go_iadd C dL_law_623 ?_
        refine go_sld C hS hw.1 dL_law_624 ?_
        replace hw := hw.2
        refine go_callV (as := [.int (xs (v3 + 1).toNatClampNeg)]) C hR (shX11 G) (ltX11 hN1) cwL_58 (Nat.le_trans (by decide) hd) (by decide) rfl rfl (Nat.le_of_ble_eq_true rfl) dL_law_625 (spX11_end (Nat.le_refl _) hN1 hw) (fun v_ τ_ hw => ?_)
        obtain ⟨r_47, rfl, hw⟩ := hw
        obtain ⟨σ_48, rfl⟩ : ∃ z, z = τ_ := ⟨_, rfl⟩
        refine go_aload_n C 2 rfl rfl dL_law_628 ?_
        refine go_aload_n C 0 rfl rfl dL_law_629 ?_
        refine go_iload_n C 3 rfl rfl dL_law_630 ?_
        refine go_iconst (v := 1) C rfl dL_law_631 ?_
        refine go_iadd C dL_law_632 ?_
        refine go_sld C hS hw.1 dL_law_633 ?_
        replace hw := hw.2
        refine go_callV (as := [.int (xs (v3 + 1).toNatClampNeg)]) C hR (shX12 G) (ltX12 hN) cwL_62 (Nat.le_trans (by decide) hd) (by decide) rfl rfl (Nat.le_of_ble_eq_true rfl) dL_law_634 (spX12_end (Nat.le_refl _) hN hw) (fun v_ τ_ hw => ?_)
        obtain ⟨r_49, rfl, hw⟩ := hw
        obtain ⟨σ_50, rfl⟩ : ∃ z, z = τ_ := ⟨_, rfl⟩
        refine go_icmp_eq C 1658 rfl dL_law_637 (fun hc => ?_) (fun hc => ?_)
        · replace hw := hw.1 hc
          obtain ⟨v3_51, ev3_51⟩ : ∃ z : Int32, z = v3 + 7 := ⟨_, rfl⟩
          replace hw := hw v3_51 ev3_51
          refine go_iinc (v := v3_51) (lv2 := [(3, .int v3_51), (0, .ref b), (1, .ref (G.2.2.1 0)), (2, .ref (G.2.2.1 75))]) C 3 rfl (by rw [ev3_51]; rfl) (by rw [hnl]; decide) rfl dL_law_1658 ?_
          refine go_goto C 18 rfl dL_law_1661 ?_
          refine go_sub [1, 2, 3, 0] rfl ?_
          exact ih _ _ hw
        · replace hw := hw.2 hc
          refine go_iconst (v := 0) C rfl dL_law_640 ?_
          exact hw.elim
      replace hw := hw.2 hc9
      by_cases hc10 : x_1 = 10
      · replace hw := hw.1 hc10
        refine go_tableIn C 642 (by rw [hc10]; decide) (by rw [hc10]; decide) (by rw [hc10]; rfl) rfl dL_law_33 ?_
        refine go_aload_n C 1 rfl rfl dL_law_642 ?_
        refine go_callV (as := []) C hR (shX11 G) (ltX11 hN1) cwL_63 (Nat.le_trans (by decide) hd) (by decide) rfl rfl (Nat.le_of_ble_eq_true rfl) dL_law_643 (spX11_taste (Nat.le_refl _) hN1 hw) (fun v_ τ_ hw => ?_)
        obtain ⟨r_52, rfl, hw⟩ := hw
        obtain ⟨σ_53, rfl⟩ : ∃ z, z = τ_ := ⟨_, rfl⟩
        refine go_aload_n C 2 rfl rfl dL_law_646 ?_
        refine go_callV (as := []) C hR (shX12 G) (ltX12 hN) cwL_67 (Nat.le_trans (by decide) hd) (by decide) rfl rfl (Nat.le_of_ble_eq_true rfl) dL_law_647 (spX12_taste (Nat.le_refl _) hN hw) (fun v_ τ_ hw => ?_)
        obtain ⟨r_54, rfl, hw⟩ := hw
        obtain ⟨σ_55, rfl⟩ : ∃ z, z = τ_ := ⟨_, rfl⟩
        refine go_icmp_eq C 1658 rfl dL_law_650 (fun hc => ?_) (fun hc => ?_)
        · replace hw := hw.1 hc
          obtain ⟨v3_56, ev3_56⟩ : ∃ z : Int32, z = v3 + 7 := ⟨_, rfl⟩
          replace hw := hw v3_56 ev3_56
          refine go_iinc (v := v3_56) (lv2 := [(3, .int v3_56), (0, .ref b), (1, .ref (G.2.2.1 0)), (2, .ref (G.2.2.1 75))]) C 3 rfl (by rw [ev3_56]; rfl) (by rw [hnl]; decide) rfl dL_law_1658 ?_
          refine go_goto C 18 rfl dL_law_1661 ?_
          refine go_sub [1, 2, 3, 0] rfl ?_
          exact ih _ _ hw
        · replace hw := hw.2 hc
          refine go_iconst (v := 0) C rfl dL_law_653 ?_
          exact hw.elim
      replace hw := hw.2 hc10
      by_cases hc11 : x_1 = 11
      · replace hw := hw.1 hc11
        refine go_tableIn C 655 (by rw [hc11]; decide) (by rw [hc11]; decide) (by rw [hc11]; rfl) rfl dL_law_33 ?_
        refine go_aload_n C 1 rfl rfl dL_law_655 ?_
        refine go_aload_n C 0 rfl rfl dL_law_656 ?_
        refine go_iload_n C 3 rfl rfl dL_law_657 ?_
        refine go_iconst (v := 1) C rfl dL_law_658 ?_
        refine go_iadd C dL_law_659 ?_
        refine go_sld C hS hw.1 dL_law_660 ?_
        replace hw := hw.2
        refine go_callV (as := [.int (xs (v3 + 1).toNatClampNeg)]) C hR (shX11 G) (ltX11 hN1) cwL_68 (Nat.le_trans (by decide) hd) (by decide) rfl rfl (Nat.le_of_ble_eq_true rfl) dL_law_661 (spX11_fault (Nat.le_refl _) hN1 hw) (fun v_ τ_ hw => ?_)
        obtain ⟨r_57, rfl, hw⟩ := hw
        obtain ⟨σ_58, rfl⟩ : ∃ z, z = τ_ := ⟨_, rfl⟩
        refine go_aload_n C 2 rfl rfl dL_law_664 ?_
        refine go_aload_n C 0 rfl rfl dL_law_665 ?_
        refine go_iload_n C 3 rfl rfl dL_law_666 ?_
        refine go_iconst (v := 1) C rfl dL_law_667 ?_
        refine go_iadd C dL_law_668 ?_
        refine go_sld C hS hw.1 dL_law_669 ?_
        replace hw := hw.2
        refine go_callV (as := [.int (xs (v3 + 1).toNatClampNeg)]) C hR (shX12 G) (ltX12 hN) cwL_71 (Nat.le_trans (by decide) hd) (by decide) rfl rfl (Nat.le_of_ble_eq_true rfl) dL_law_670 (spX12_fault (Nat.le_refl _) hN hw) (fun v_ τ_ hw => ?_)
        obtain ⟨r_59, rfl, hw⟩ := hw
        obtain ⟨σ_60, rfl⟩ : ∃ z, z = τ_ := ⟨_, rfl⟩
        refine go_icmp_eq C 1658 rfl dL_law_673 (fun hc => ?_) (fun hc => ?_)
        · replace hw := hw.1 hc
          obtain ⟨v3_61, ev3_61⟩ : ∃ z : Int32, z = v3 + 7 := ⟨_, rfl⟩
          replace hw := hw v3_61 ev3_61
          refine go_iinc (v := v3_61) (lv2 := [(3, .int v3_61), (0, .ref b), (1, .ref (G.2.2.1 0)), (2, .ref (G.2.2.1 75))]) C 3 rfl (by rw [ev3_61]; rfl) (by rw [hnl]; decide) rfl dL_law_1658 ?_
          refine go_goto C 18 rfl dL_law_1661 ?_
          refine go_sub [1, 2, 3, 0] rfl ?_
          exact ih _ _ hw
        · replace hw := hw.2 hc
          refine go_iconst (v := 0) C rfl dL_law_676 ?_
          exact hw.elim
      replace hw := hw.2 hc11
      by_cases hc12 : x_1 = 12
      · replace hw := hw.1 hc12
        refine go_tableIn C 678 (by rw [hc12]; decide) (by rw [hc12]; decide) (by rw [hc12]; rfl) rfl dL_law_33 ?_
        refine go_aload_n C 1 rfl rfl dL_law_678 ?_
        refine go_aload_n C 0 rfl rfl dL_law_679 ?_
        refine go_iload_n C 3 rfl rfl dL_law_680 ?_
        refine go_iconst (v := 1) C rfl dL_law_681 ?_
        refine go_iadd C dL_law_682 ?_
        refine go_sld C hS hw.1 dL_law_683 ?_
        replace hw := hw.2
        refine go_aload_n C 0 rfl rfl dL_law_684 ?_
        refine go_iload_n C 3 rfl rfl dL_law_685 ?_
        refine go_iconst (v := 2) C rfl dL_law_686 ?_
        refine go_iadd C dL_law_687 ?_
        refine go_sld C hS hw.1 dL_law_688 ?_
        replace hw := hw.2
        refine go_callV (as := [.int (xs (v3 + 1).toNatClampNeg), .int (xs (v3 + 2).toNatClampNeg)]) C hR (shX11 G) (ltX11 hN1) cwL_72 (Nat.le_trans (by decide) hd) (by decide) rfl rfl (Nat.le_of_ble_eq_true rfl) dL_law_689 (spX11_by (Nat.le_refl _) hN1 hw) (fun v_ τ_ hw => ?_)
        obtain ⟨r_62, rfl, hw⟩ := hw
        obtain ⟨σ_63, rfl⟩ : ∃ z, z = τ_ := ⟨_, rfl⟩
        refine go_aload_n C 2 rfl rfl dL_law_692 ?_
        refine go_aload_n C 0 rfl rfl dL_law_693 ?_
        refine go_iload_n C 3 rfl rfl dL_law_694 ?_
        refine go_iconst (v := 1) C rfl dL_law_695 ?_
        refine go_iadd C dL_law_696 ?_
        refine go_sld C hS hw.1 dL_law_697 ?_
        replace hw := hw.2
        refine go_aload_n C 0 rfl rfl dL_law_698 ?_
        refine go_iload_n C 3 rfl rfl dL_law_699 ?_
        refine go_iconst (v := 2) C rfl dL_law_700 ?_
        refine go_iadd C dL_law_701 ?_
        refine go_sld C hS hw.1 dL_law_702 ?_
        replace hw := hw.2
        refine go_callV (as := [.int (xs (v3 + 1).toNatClampNeg), .int (xs (v3 + 2).toNatClampNeg)]) C hR (shX12 G) (ltX12 hN) cwL_76 (Nat.le_trans (by decide) hd) (by decide) rfl rfl (Nat.le_of_ble_eq_true rfl) dL_law_703 (spX12_by (Nat.le_refl _) hN hw) (fun v_ τ_ hw => ?_)
        obtain ⟨r_64, rfl, hw⟩ := hw
        obtain ⟨σ_65, rfl⟩ : ∃ z, z = τ_ := ⟨_, rfl⟩
        refine go_icmp_eq C 1658 rfl dL_law_706 (fun hc => ?_) (fun hc => ?_)
        · replace hw := hw.1 hc
          obtain ⟨v3_66, ev3_66⟩ : ∃ z : Int32, z = v3 + 7 := ⟨_, rfl⟩
          replace hw := hw v3_66 ev3_66
          refine go_iinc (v := v3_66) (lv2 := [(3, .int v3_66), (0, .ref b), (1, .ref (G.2.2.1 0)), (2, .ref (G.2.2.1 75))]) C 3 rfl (by rw [ev3_66]; rfl) (by rw [hnl]; decide) rfl dL_law_1658 ?_
          refine go_goto C 18 rfl dL_law_1661 ?_
          refine go_sub [1, 2, 3, 0] rfl ?_
          exact ih _ _ hw
        · replace hw := hw.2 hc
          refine go_iconst (v := 0) C rfl dL_law_709 ?_
          exact hw.elim
      replace hw := hw.2 hc12
      by_cases hc13 : x_1 = 13
      · replace hw := hw.1 hc13
        refine go_tableIn C 711 (by rw [hc13]; decide) (by rw [hc13]; decide) (by rw [hc13]; rfl) rfl dL_law_33 ?_
        refine go_aload_n C 1 rfl rfl dL_law_711 ?_
        refine go_aload_n C 0 rfl rfl dL_law_712 ?_
        refine go_iload_n C 3 rfl rfl dL_law_713 ?_
        refine go_iconst (v := 1) C rfl dL_law_714 ?_
        refine go_iadd C dL_law_715 ?_
        refine go_sld C hS hw.1 dL_law_716 ?_
        replace hw := hw.2
        refine go_callV (as := [.int (xs (v3 + 1).toNatClampNeg)]) C hR (shX11 G) (ltX11 hN1) cwL_77 (Nat.le_trans (by decide) hd) (by decide) rfl rfl (Nat.le_of_ble_eq_true rfl) dL_law_717 (spX11_years (Nat.le_refl _) hN1 hw) (fun v_ τ_ hw => ?_)
        obtain ⟨r_67, rfl, hw⟩ := hw
        obtain ⟨σ_68, rfl⟩ : ∃ z, z = τ_ := ⟨_, rfl⟩
        refine go_aload_n C 2 rfl rfl dL_law_720 ?_
        refine go_aload_n C 0 rfl rfl dL_law_721 ?_
        refine go_iload_n C 3 rfl rfl dL_law_722 ?_
        refine go_iconst (v := 1) C rfl dL_law_723 ?_
        refine go_iadd C dL_law_724 ?_
        refine go_sld C hS hw.1 dL_law_725 ?_
        replace hw := hw.2
        refine go_callV (as := [.int (xs (v3 + 1).toNatClampNeg)]) C hR (shX12 G) (ltX12 hN) cwL_80 (Nat.le_trans (by decide) hd) (by decide) rfl rfl (Nat.le_of_ble_eq_true rfl) dL_law_726 (spX12_years (Nat.le_refl _) hN hw) (fun v_ τ_ hw => ?_)
        obtain ⟨r_69, rfl, hw⟩ := hw
        obtain ⟨σ_70, rfl⟩ : ∃ z, z = τ_ := ⟨_, rfl⟩
        refine go_icmp_eq C 1658 rfl dL_law_729 (fun hc => ?_) (fun hc => ?_)
        · replace hw := hw.1 hc
          obtain ⟨v3_71, ev3_71⟩ : ∃ z : Int32, z = v3 + 7 := ⟨_, rfl⟩
          replace hw := hw v3_71 ev3_71
          refine go_iinc (v := v3_71) (lv2 := [(3, .int v3_71), (0, .ref b), (1, .ref (G.2.2.1 0)), (2, .ref (G.2.2.1 75))]) C 3 rfl (by rw [ev3_71]; rfl) (by rw [hnl]; decide) rfl dL_law_1658 ?_
          refine go_goto C 18 rfl dL_law_1661 ?_
          refine go_sub [1, 2, 3, 0] rfl ?_
          exact ih _ _ hw
        · replace hw := hw.2 hc
          refine go_iconst (v := 0) C rfl dL_law_732 ?_
          exact hw.elim
      replace hw := hw.2 hc13
      by_cases hc14 : x_1 = 14
      · replace hw := hw.1 hc14
        refine go_tableIn C 734 (by rw [hc14]; decide) (by rw [hc14]; decide) (by rw [hc14]; rfl) rfl dL_law_33 ?_
        refine go_aload_n C 1 rfl rfl dL_law_734 ?_
        refine go_aload_n C 0 rfl rfl dL_law_735 ?_
        refine go_iload_n C 3 rfl rfl dL_law_736 ?_
        refine go_iconst (v := 1) C rfl dL_law_737 ?_
        refine go_iadd C dL_law_738 ?_
        refine go_sld C hS hw.1 dL_law_739 ?_
        replace hw := hw.2
        refine go_aload_n C 0 rfl rfl dL_law_740 ?_
        refine go_iload_n C 3 rfl rfl dL_law_741 ?_
        refine go_iconst (v := 2) C rfl dL_law_742 ?_
        refine go_iadd C dL_law_743 ?_
        refine go_sld C hS hw.1 dL_law_744 ?_
        replace hw := hw.2
        refine go_aload_n C 0 rfl rfl dL_law_745 ?_
        refine go_iload_n C 3 rfl rfl dL_law_746 ?_
        refine go_iconst (v := 3) C rfl dL_law_747 ?_
        refine go_iadd C dL_law_748 ?_
        refine go_sld C hS hw.1 dL_law_749 ?_
        replace hw := hw.2
        refine go_aload_n C 0 rfl rfl dL_law_750 ?_
        refine go_iload_n C 3 rfl rfl dL_law_751 ?_
        refine go_iconst (v := 4) C rfl dL_law_752 ?_
        refine go_iadd C dL_law_753 ?_
        refine go_sld C hS hw.1 dL_law_754 ?_
        replace hw := hw.2
        refine go_aload_n C 0 rfl rfl dL_law_755 ?_
        refine go_iload_n C 3 rfl rfl dL_law_756 ?_
        refine go_iconst (v := 5) C rfl dL_law_757 ?_
        refine go_iadd C dL_law_758 ?_
        refine go_sld C hS hw.1 dL_law_759 ?_
        replace hw := hw.2
        refine go_callV (as := [.int (xs (v3 + 1).toNatClampNeg), .int (xs (v3 + 2).toNatClampNeg), .int (xs (v3 + 3).toNatClampNeg), .int (xs (v3 + 4).toNatClampNeg), .int (xs (v3 + 5).toNatClampNeg)]) C hR (shX11 G) (ltX11 hN1) cwL_81 (Nat.le_trans (by decide) hd) (by decide) rfl rfl (Nat.le_of_ble_eq_true rfl) dL_law_760 (spX11_given (Nat.le_refl _) hN1 hw) (fun v_ τ_ hw => ?_)
        obtain ⟨r_72, rfl, hw⟩ := hw
        obtain ⟨σ_73, rfl⟩ : ∃ z, z = τ_ := ⟨_, rfl⟩
        refine go_aload_n C 2 rfl rfl dL_law_763 ?_
        refine go_aload_n C 0 rfl rfl dL_law_764 ?_
        refine go_iload_n C 3 rfl rfl dL_law_765 ?_
        refine go_iconst (v := 1) C rfl dL_law_766 ?_
        refine go_iadd C dL_law_767 ?_
        refine go_sld C hS hw.1 dL_law_768 ?_
        replace hw := hw.2
        refine go_aload_n C 0 rfl rfl dL_law_769 ?_
        refine go_iload_n C 3 rfl rfl dL_law_770 ?_
        refine go_iconst (v := 2) C rfl dL_law_771 ?_
        refine go_iadd C dL_law_772 ?_
        refine go_sld C hS hw.1 dL_law_773 ?_
        replace hw := hw.2
        refine go_aload_n C 0 rfl rfl dL_law_774 ?_
        refine go_iload_n C 3 rfl rfl dL_law_775 ?_
        refine go_iconst (v := 3) C rfl dL_law_776 ?_
        refine go_iadd C dL_law_777 ?_
        refine go_sld C hS hw.1 dL_law_778 ?_
        replace hw := hw.2
        refine go_aload_n C 0 rfl rfl dL_law_779 ?_
        refine go_iload_n C 3 rfl rfl dL_law_780 ?_
        refine go_iconst (v := 4) C rfl dL_law_781 ?_
        refine go_iadd C dL_law_782 ?_
        refine go_sld C hS hw.1 dL_law_783 ?_
        replace hw := hw.2
        refine go_aload_n C 0 rfl rfl dL_law_784 ?_
        refine go_iload_n C 3 rfl rfl dL_law_785 ?_
        refine go_iconst (v := 5) C rfl dL_law_786 ?_
        refine go_iadd C dL_law_787 ?_
        refine go_sld C hS hw.1 dL_law_788 ?_
        replace hw := hw.2
        refine go_callV (as := [.int (xs (v3 + 1).toNatClampNeg), .int (xs (v3 + 2).toNatClampNeg), .int (xs (v3 + 3).toNatClampNeg), .int (xs (v3 + 4).toNatClampNeg), .int (xs (v3 + 5).toNatClampNeg)]) C hR (shX12 G) (ltX12 hN) cwL_84 (Nat.le_trans (by decide) hd) (by decide) rfl rfl (Nat.le_of_ble_eq_true rfl) dL_law_789 (spX12_given (Nat.le_refl _) hN hw) (fun v_ τ_ hw => ?_)
        obtain ⟨r_74, rfl, hw⟩ := hw
        obtain ⟨σ_75, rfl⟩ : ∃ z, z = τ_ := ⟨_, rfl⟩
        refine go_icmp_eq C 1658 rfl dL_law_792 (fun hc => ?_) (fun hc => ?_)
        · replace hw := hw.1 hc
          obtain ⟨v3_76, ev3_76⟩ : ∃ z : Int32, z = v3 + 7 := ⟨_, rfl⟩
          replace hw := hw v3_76 ev3_76
          refine go_iinc (v := v3_76) (lv2 := [(3, .int v3_76), (0, .ref b), (1, .ref (G.2.2.1 0)), (2, .ref (G.2.2.1 75))]) C 3 rfl (by rw [ev3_76]; rfl) (by rw [hnl]; decide) rfl dL_law_1658 ?_
          refine go_goto C 18 rfl dL_law_1661 ?_
          refine go_sub [1, 2, 3, 0] rfl ?_
          exact ih _ _ hw
        · replace hw := hw.2 hc
          refine go_iconst (v := 0) C rfl dL_law_795 ?_
          exact hw.elim
      replace hw := hw.2 hc14
      by_cases hc15 : x_1 = 15
      · replace hw := hw.1 hc15
        refine go_tableIn C 797 (by rw [hc15]; decide) (by rw [hc15]; decide) (by rw [hc15]; rfl) rfl dL_law_33 ?_
        refine go_aload_n C 1 rfl rfl dL_law_797 ?_
        refine go_aload_n C 0 rfl rfl dL_law_798 ?_
        refine go_iload_n C 3 rfl rfl dL_law_799 ?_
        refine go_iconst (v := 1) C rfl dL_law_800 ?_
        refine go_iadd C dL_law_801 ?_
        refine go_sld C hS hw.1 dL_law_802 ?_
        replace hw := hw.2
        refine go_callV (as := [.int (xs (v3 + 1).toNatClampNeg)]) C hR (shX11 G) (ltX11 hN1) cwL_85 (Nat.le_trans (by decide) hd) (by decide) rfl rfl (Nat.le_of_ble_eq_true rfl) dL_law_803 (spX11_unnamed (Nat.le_refl _) hN1 hw) (fun v_ τ_ hw => ?_)
        obtain ⟨r_77, rfl, hw⟩ := hw
        obtain ⟨σ_78, rfl⟩ : ∃ z, z = τ_ := ⟨_, rfl⟩
        refine go_aload_n C 2 rfl rfl dL_law_806 ?_
        refine go_aload_n C 0 rfl rfl dL_law_807 ?_
        refine go_iload_n C 3 rfl rfl dL_law_808 ?_
        refine go_iconst (v := 1) C rfl dL_law_809 ?_
        refine go_iadd C dL_law_810 ?_
        refine go_sld C hS hw.1 dL_law_811 ?_
        replace hw := hw.2
        refine go_callV (as := [.int (xs (v3 + 1).toNatClampNeg)]) C hR (shX12 G) (ltX12 hN) cwL_88 (Nat.le_trans (by decide) hd) (by decide) rfl rfl (Nat.le_of_ble_eq_true rfl) dL_law_812 (spX12_unnamed (Nat.le_refl _) hN hw) (fun v_ τ_ hw => ?_)
        obtain ⟨r_79, rfl, hw⟩ := hw
        obtain ⟨σ_80, rfl⟩ : ∃ z, z = τ_ := ⟨_, rfl⟩
        refine go_icmp_eq C 1658 rfl dL_law_815 (fun hc => ?_) (fun hc => ?_)
        · replace hw := hw.1 hc
          obtain ⟨v3_81, ev3_81⟩ : ∃ z : Int32, z = v3 + 7 := ⟨_, rfl⟩
          replace hw := hw v3_81 ev3_81
          refine go_iinc (v := v3_81) (lv2 := [(3, .int v3_81), (0, .ref b), (1, .ref (G.2.2.1 0)), (2, .ref (G.2.2.1 75))]) C 3 rfl (by rw [ev3_81]; rfl) (by rw [hnl]; decide) rfl dL_law_1658 ?_
          refine go_goto C 18 rfl dL_law_1661 ?_
          refine go_sub [1, 2, 3, 0] rfl ?_
          exact ih _ _ hw
        · replace hw := hw.2 hc
          refine go_iconst (v := 0) C rfl dL_law_818 ?_
          exact hw.elim
      replace hw := hw.2 hc15
      by_cases hc16 : x_1 = 16
      · replace hw := hw.1 hc16
        refine go_tableIn C 820 (by rw [hc16]; decide) (by rw [hc16]; decide) (by rw [hc16]; rfl) rfl dL_law_33 ?_
        refine go_aload_n C 1 rfl rfl dL_law_820 ?_
        refine go_aload_n C 0 rfl rfl dL_law_821 ?_
        refine go_iload_n C 3 rfl rfl dL_law_822 ?_
        refine go_iconst (v := 1) C rfl dL_law_823 ?_
        refine go_iadd C dL_law_824 ?_
        refine go_sld C hS hw.1 dL_law_825 ?_
        replace hw := hw.2
        refine go_aload_n C 0 rfl rfl dL_law_826 ?_
        refine go_iload_n C 3 rfl rfl dL_law_827 ?_
        refine go_iconst (v := 2) C rfl dL_law_828 ?_
        refine go_iadd C dL_law_829 ?_
        refine go_sld C hS hw.1 dL_law_830 ?_
        replace hw := hw.2
        refine go_aload_n C 0 rfl rfl dL_law_831 ?_
        refine go_iload_n C 3 rfl rfl dL_law_832 ?_
        refine go_iconst (v := 3) C rfl dL_law_833 ?_
        refine go_iadd C dL_law_834 ?_
        refine go_sld C hS hw.1 dL_law_835 ?_
        replace hw := hw.2
        refine go_aload_n C 0 rfl rfl dL_law_836 ?_
        refine go_iload_n C 3 rfl rfl dL_law_837 ?_
        refine go_iconst (v := 4) C rfl dL_law_838 ?_
        refine go_iadd C dL_law_839 ?_
        refine go_sld C hS hw.1 dL_law_840 ?_
        replace hw := hw.2
        refine go_callV (as := [.int (xs (v3 + 1).toNatClampNeg), .int (xs (v3 + 2).toNatClampNeg), .int (xs (v3 + 3).toNatClampNeg), .int (xs (v3 + 4).toNatClampNeg)]) C hR (shX11 G) (ltX11 hN1) cwL_89 (Nat.le_trans (by decide) hd) (by decide) rfl rfl (Nat.le_of_ble_eq_true rfl) dL_law_841 (spX11_now (Nat.le_refl _) hN1 hw) (fun v_ τ_ hw => ?_)
        obtain ⟨r_82, rfl, hw⟩ := hw
        obtain ⟨σ_83, rfl⟩ : ∃ z, z = τ_ := ⟨_, rfl⟩
        refine go_aload_n C 2 rfl rfl dL_law_844 ?_
        refine go_aload_n C 0 rfl rfl dL_law_845 ?_
        refine go_iload_n C 3 rfl rfl dL_law_846 ?_
        refine go_iconst (v := 1) C rfl dL_law_847 ?_
        refine go_iadd C dL_law_848 ?_
        refine go_sld C hS hw.1 dL_law_849 ?_
        replace hw := hw.2
        refine go_aload_n C 0 rfl rfl dL_law_850 ?_
        refine go_iload_n C 3 rfl rfl dL_law_851 ?_
        refine go_iconst (v := 2) C rfl dL_law_852 ?_
        refine go_iadd C dL_law_853 ?_
        refine go_sld C hS hw.1 dL_law_854 ?_
        replace hw := hw.2
        refine go_aload_n C 0 rfl rfl dL_law_855 ?_
        refine go_iload_n C 3 rfl rfl dL_law_856 ?_
        refine go_iconst (v := 3) C rfl dL_law_857 ?_
        refine go_iadd C dL_law_858 ?_
        refine go_sld C hS hw.1 dL_law_859 ?_
        replace hw := hw.2
        refine go_aload_n C 0 rfl rfl dL_law_860 ?_
        refine go_iload_n C 3 rfl rfl dL_law_861 ?_
        refine go_iconst (v := 4) C rfl dL_law_862 ?_
        refine go_iadd C dL_law_863 ?_
        refine go_sld C hS hw.1 dL_law_864 ?_
        replace hw := hw.2
        refine go_callV (as := [.int (xs (v3 + 1).toNatClampNeg), .int (xs (v3 + 2).toNatClampNeg), .int (xs (v3 + 3).toNatClampNeg), .int (xs (v3 + 4).toNatClampNeg)]) C hR (shX12 G) (ltX12 hN) cwL_93 (Nat.le_trans (by decide) hd) (by decide) rfl rfl (Nat.le_of_ble_eq_true rfl) dL_law_865 (spX12_now (Nat.le_refl _) hN hw) (fun v_ τ_ hw => ?_)
        obtain ⟨r_84, rfl, hw⟩ := hw
        obtain ⟨σ_85, rfl⟩ : ∃ z, z = τ_ := ⟨_, rfl⟩
        refine go_icmp_eq C 1658 rfl dL_law_868 (fun hc => ?_) (fun hc => ?_)
        · replace hw := hw.1 hc
          obtain ⟨v3_86, ev3_86⟩ : ∃ z : Int32, z = v3 + 7 := ⟨_, rfl⟩
          replace hw := hw v3_86 ev3_86
          refine go_iinc (v := v3_86) (lv2 := [(3, .int v3_86), (0, .ref b), (1, .ref (G.2.2.1 0)), (2, .ref (G.2.2.1 75))]) C 3 rfl (by rw [ev3_86]; rfl) (by rw [hnl]; decide) rfl dL_law_1658 ?_
          refine go_goto C 18 rfl dL_law_1661 ?_
          refine go_sub [1, 2, 3, 0] rfl ?_
          exact ih _ _ hw
        · replace hw := hw.2 hc
          refine go_iconst (v := 0) C rfl dL_law_871 ?_
          exact hw.elim
      replace hw := hw.2 hc16
      by_cases hc17 : x_1 = 17
      · replace hw := hw.1 hc17
        refine go_tableIn C 873 (by rw [hc17]; decide) (by rw [hc17]; decide) (by rw [hc17]; rfl) rfl dL_law_33 ?_
        refine go_aload_n C 1 rfl rfl dL_law_873 ?_
        refine go_aload_n C 0 rfl rfl dL_law_874 ?_
        refine go_iload_n C 3 rfl rfl dL_law_875 ?_
        refine go_iconst (v := 1) C rfl dL_law_876 ?_
        refine go_iadd C dL_law_877 ?_
        refine go_sld C hS hw.1 dL_law_878 ?_
        replace hw := hw.2
        refine go_aload_n C 0 rfl rfl dL_law_879 ?_
        refine go_iload_n C 3 rfl rfl dL_law_880 ?_
        refine go_iconst (v := 2) C rfl dL_law_881 ?_
        refine go_iadd C dL_law_882 ?_
        refine go_sld C hS hw.1 dL_law_883 ?_
        replace hw := hw.2
        refine go_callV (as := [.int (xs (v3 + 1).toNatClampNeg), .int (xs (v3 + 2).toNatClampNeg)]) C hR (shX11 G) (ltX11 hN1) cwL_94 (Nat.le_trans (by decide) hd) (by decide) rfl rfl (Nat.le_of_ble_eq_true rfl) dL_law_884 (spX11_shape (Nat.le_refl _) hN1 hw) (fun v_ τ_ hw => ?_)
        obtain ⟨r_87, rfl, hw⟩ := hw
        obtain ⟨σ_88, rfl⟩ : ∃ z, z = τ_ := ⟨_, rfl⟩
        refine go_aload_n C 2 rfl rfl dL_law_887 ?_
        refine go_aload_n C 0 rfl rfl dL_law_888 ?_
        refine go_iload_n C 3 rfl rfl dL_law_889 ?_
        refine go_iconst (v := 1) C rfl dL_law_890 ?_
        refine go_iadd C dL_law_891 ?_
        refine go_sld C hS hw.1 dL_law_892 ?_
        replace hw := hw.2
        refine go_aload_n C 0 rfl rfl dL_law_893 ?_
        refine go_iload_n C 3 rfl rfl dL_law_894 ?_
        refine go_iconst (v := 2) C rfl dL_law_895 ?_
        refine go_iadd C dL_law_896 ?_
        refine go_sld C hS hw.1 dL_law_897 ?_
        replace hw := hw.2
        refine go_callV (as := [.int (xs (v3 + 1).toNatClampNeg), .int (xs (v3 + 2).toNatClampNeg)]) C hR (shX12 G) (ltX12 hN) cwL_97 (Nat.le_trans (by decide) hd) (by decide) rfl rfl (Nat.le_of_ble_eq_true rfl) dL_law_898 (spX12_shape (Nat.le_refl _) hN hw) (fun v_ τ_ hw => ?_)
        obtain ⟨r_89, rfl, hw⟩ := hw
        obtain ⟨σ_90, rfl⟩ : ∃ z, z = τ_ := ⟨_, rfl⟩
        refine go_icmp_eq C 1658 rfl dL_law_901 (fun hc => ?_) (fun hc => ?_)
        · replace hw := hw.1 hc
          obtain ⟨v3_91, ev3_91⟩ : ∃ z : Int32, z = v3 + 7 := ⟨_, rfl⟩
          replace hw := hw v3_91 ev3_91
          refine go_iinc (v := v3_91) (lv2 := [(3, .int v3_91), (0, .ref b), (1, .ref (G.2.2.1 0)), (2, .ref (G.2.2.1 75))]) C 3 rfl (by rw [ev3_91]; rfl) (by rw [hnl]; decide) rfl dL_law_1658 ?_
          refine go_goto C 18 rfl dL_law_1661 ?_
          refine go_sub [1, 2, 3, 0] rfl ?_
          exact ih _ _ hw
        · replace hw := hw.2 hc
          refine go_iconst (v := 0) C rfl dL_law_904 ?_
          exact hw.elim
      replace hw := hw.2 hc17
      by_cases hc18 : x_1 = 18
      · replace hw := hw.1 hc18
        refine go_tableIn C 906 (by rw [hc18]; decide) (by rw [hc18]; decide) (by rw [hc18]; rfl) rfl dL_law_33 ?_
        refine go_aload_n C 1 rfl rfl dL_law_906 ?_
        refine go_aload_n C 0 rfl rfl dL_law_907 ?_
        refine go_iload_n C 3 rfl rfl dL_law_908 ?_
        refine go_iconst (v := 1) C rfl dL_law_909 ?_
        refine go_iadd C dL_law_910 ?_
        refine go_sld C hS hw.1 dL_law_911 ?_
        replace hw := hw.2
        refine go_callV (as := [.int (xs (v3 + 1).toNatClampNeg)]) C hR (shX11 G) (ltX11 hN1) cwL_98 (Nat.le_trans (by decide) hd) (by decide) rfl rfl (Nat.le_of_ble_eq_true rfl) dL_law_912 (spX11_shapes (Nat.le_refl _) hN1 hw) (fun v_ τ_ hw => ?_)
        obtain ⟨r_92, rfl, hw⟩ := hw
        obtain ⟨σ_93, rfl⟩ : ∃ z, z = τ_ := ⟨_, rfl⟩
        refine go_aload_n C 2 rfl rfl dL_law_915 ?_
        refine go_aload_n C 0 rfl rfl dL_law_916 ?_
        refine go_iload_n C 3 rfl rfl dL_law_917 ?_
        refine go_iconst (v := 1) C rfl dL_law_918 ?_
        refine go_iadd C dL_law_919 ?_
        refine go_sld C hS hw.1 dL_law_920 ?_
        replace hw := hw.2
        refine go_callV (as := [.int (xs (v3 + 1).toNatClampNeg)]) C hR (shX12 G) (ltX12 hN) cwL_101 (Nat.le_trans (by decide) hd) (by decide) rfl rfl (Nat.le_of_ble_eq_true rfl) dL_law_921 (spX12_shapes (Nat.le_refl _) hN hw) (fun v_ τ_ hw => ?_)
        obtain ⟨r_94, rfl, hw⟩ := hw
        obtain ⟨σ_95, rfl⟩ : ∃ z, z = τ_ := ⟨_, rfl⟩
        refine go_icmp_eq C 1658 rfl dL_law_924 (fun hc => ?_) (fun hc => ?_)
        · replace hw := hw.1 hc
          obtain ⟨v3_96, ev3_96⟩ : ∃ z : Int32, z = v3 + 7 := ⟨_, rfl⟩
          replace hw := hw v3_96 ev3_96
          refine go_iinc (v := v3_96) (lv2 := [(3, .int v3_96), (0, .ref b), (1, .ref (G.2.2.1 0)), (2, .ref (G.2.2.1 75))]) C 3 rfl (by rw [ev3_96]; rfl) (by rw [hnl]; decide) rfl dL_law_1658 ?_
          refine go_goto C 18 rfl dL_law_1661 ?_
          refine go_sub [1, 2, 3, 0] rfl ?_
          exact ih _ _ hw
        · replace hw := hw.2 hc
          refine go_iconst (v := 0) C rfl dL_law_927 ?_
          exact hw.elim
      replace hw := hw.2 hc18
      by_cases hc19 : x_1 = 19
      · replace hw := hw.1 hc19
        refine go_tableIn C 929 (by rw [hc19]; decide) (by rw [hc19]; decide) (by rw [hc19]; rfl) rfl dL_law_33 ?_
        refine go_aload_n C 1 rfl rfl dL_law_929 ?_
        refine go_aload_n C 0 rfl rfl dL_law_930 ?_
        refine go_iload_n C 3 rfl rfl dL_law_931 ?_
        refine go_iconst (v := 1) C rfl dL_law_932 ?_
        refine go_iadd C dL_law_933 ?_
        refine go_sld C hS hw.1 dL_law_934 ?_
        replace hw := hw.2
        refine go_callV (as := [.int (xs (v3 + 1).toNatClampNeg)]) C hR (shX11 G) (ltX11 hN1) cwL_102 (Nat.le_trans (by decide) hd) (by decide) rfl rfl (Nat.le_of_ble_eq_true rfl) dL_law_935 (spX11_lag (Nat.le_refl _) hN1 hw) (fun v_ τ_ hw => ?_)
        obtain ⟨r_97, rfl, hw⟩ := hw
        obtain ⟨σ_98, rfl⟩ : ∃ z, z = τ_ := ⟨_, rfl⟩
        refine go_aload_n C 2 rfl rfl dL_law_938 ?_
        refine go_aload_n C 0 rfl rfl dL_law_939 ?_
        refine go_iload_n C 3 rfl rfl dL_law_940 ?_
        refine go_iconst (v := 1) C rfl dL_law_941 ?_
        refine go_iadd C dL_law_942 ?_
        refine go_sld C hS hw.1 dL_law_943 ?_
        replace hw := hw.2
        refine go_callV (as := [.int (xs (v3 + 1).toNatClampNeg)]) C hR (shX12 G) (ltX12 hN) cwL_105 (Nat.le_trans (by decide) hd) (by decide) rfl rfl (Nat.le_of_ble_eq_true rfl) dL_law_944 (spX12_lag (Nat.le_refl _) hN hw) (fun v_ τ_ hw => ?_)
        obtain ⟨r_99, rfl, hw⟩ := hw
        obtain ⟨σ_100, rfl⟩ : ∃ z, z = τ_ := ⟨_, rfl⟩
        refine go_icmp_eq C 1658 rfl dL_law_947 (fun hc => ?_) (fun hc => ?_)
        · replace hw := hw.1 hc
          obtain ⟨v3_101, ev3_101⟩ : ∃ z : Int32, z = v3 + 7 := ⟨_, rfl⟩
          replace hw := hw v3_101 ev3_101
          refine go_iinc (v := v3_101) (lv2 := [(3, .int v3_101), (0, .ref b), (1, .ref (G.2.2.1 0)), (2, .ref (G.2.2.1 75))]) C 3 rfl (by rw [ev3_101]; rfl) (by rw [hnl]; decide) rfl dL_law_1658 ?_
          refine go_goto C 18 rfl dL_law_1661 ?_
          refine go_sub [1, 2, 3, 0] rfl ?_
          exact ih _ _ hw
        · replace hw := hw.2 hc
          refine go_iconst (v := 0) C rfl dL_law_950 ?_
          exact hw.elim
      replace hw := hw.2 hc19
      by_cases hc20 : x_1 = 20
      · replace hw := hw.1 hc20
        refine go_tableIn C 952 (by rw [hc20]; decide) (by rw [hc20]; decide) (by rw [hc20]; rfl) rfl dL_law_33 ?_
        refine go_aload_n C 1 rfl rfl dL_law_952 ?_
        refine go_aload_n C 0 rfl rfl dL_law_953 ?_
        refine go_iload_n C 3 rfl rfl dL_law_954 ?_
        refine go_iconst (v := 1) C rfl dL_law_955 ?_
        refine go_iadd C dL_law_956 ?_
        refine go_sld C hS hw.1 dL_law_957 ?_
        replace hw := hw.2
        refine go_aload_n C 0 rfl rfl dL_law_958 ?_
        refine go_iload_n C 3 rfl rfl dL_law_959 ?_
        refine go_iconst (v := 2) C rfl dL_law_960 ?_
        refine go_iadd C dL_law_961 ?_
        refine go_sld C hS hw.1 dL_law_962 ?_
        replace hw := hw.2
        refine go_callV (as := [.int (xs (v3 + 1).toNatClampNeg), .int (xs (v3 + 2).toNatClampNeg)]) C hR (shX11 G) (ltX11 hN1) cwL_106 (Nat.le_trans (by decide) hd) (by decide) rfl rfl (Nat.le_of_ble_eq_true rfl) dL_law_963 (spX11_together (Nat.le_refl _) hN1 hw) (fun v_ τ_ hw => ?_)
        obtain ⟨r_102, rfl, hw⟩ := hw
        obtain ⟨σ_103, rfl⟩ : ∃ z, z = τ_ := ⟨_, rfl⟩
        refine go_aload_n C 2 rfl rfl dL_law_966 ?_
        refine go_aload_n C 0 rfl rfl dL_law_967 ?_
        refine go_iload_n C 3 rfl rfl dL_law_968 ?_
        refine go_iconst (v := 1) C rfl dL_law_969 ?_
        refine go_iadd C dL_law_970 ?_
        refine go_sld C hS hw.1 dL_law_971 ?_
        replace hw := hw.2
        refine go_aload_n C 0 rfl rfl dL_law_972 ?_
        refine go_iload_n C 3 rfl rfl dL_law_973 ?_
        refine go_iconst (v := 2) C rfl dL_law_974 ?_
        refine go_iadd C dL_law_975 ?_
        refine go_sld C hS hw.1 dL_law_976 ?_
        replace hw := hw.2
        refine go_callV (as := [.int (xs (v3 + 1).toNatClampNeg), .int (xs (v3 + 2).toNatClampNeg)]) C hR (shX12 G) (ltX12 hN) cwL_109 (Nat.le_trans (by decide) hd) (by decide) rfl rfl (Nat.le_of_ble_eq_true rfl) dL_law_977 (spX12_together (Nat.le_refl _) hN hw) (fun v_ τ_ hw => ?_)
        obtain ⟨r_104, rfl, hw⟩ := hw
        obtain ⟨σ_105, rfl⟩ : ∃ z, z = τ_ := ⟨_, rfl⟩
        refine go_icmp_eq C 1658 rfl dL_law_980 (fun hc => ?_) (fun hc => ?_)
        · replace hw := hw.1 hc
          obtain ⟨v3_106, ev3_106⟩ : ∃ z : Int32, z = v3 + 7 := ⟨_, rfl⟩
          replace hw := hw v3_106 ev3_106
          refine go_iinc (v := v3_106) (lv2 := [(3, .int v3_106), (0, .ref b), (1, .ref (G.2.2.1 0)), (2, .ref (G.2.2.1 75))]) C 3 rfl (by rw [ev3_106]; rfl) (by rw [hnl]; decide) rfl dL_law_1658 ?_
          refine go_goto C 18 rfl dL_law_1661 ?_
          refine go_sub [1, 2, 3, 0] rfl ?_
          exact ih _ _ hw
        · replace hw := hw.2 hc
          refine go_iconst (v := 0) C rfl dL_law_983 ?_
          exact hw.elim
      replace hw := hw.2 hc20
      by_cases hc21 : x_1 = 21
      · replace hw := hw.1 hc21
        refine go_tableIn C 985 (by rw [hc21]; decide) (by rw [hc21]; decide) (by rw [hc21]; rfl) rfl dL_law_33 ?_
        refine go_aload_n C 1 rfl rfl dL_law_985 ?_
        refine go_aload_n C 0 rfl rfl dL_law_986 ?_
        refine go_iload_n C 3 rfl rfl dL_law_987 ?_
        refine go_iconst (v := 1) C rfl dL_law_988 ?_
        refine go_iadd C dL_law_989 ?_
        refine go_sld C hS hw.1 dL_law_990 ?_
        replace hw := hw.2
        refine go_aload_n C 0 rfl rfl dL_law_991 ?_
        refine go_iload_n C 3 rfl rfl dL_law_992 ?_
        refine go_iconst (v := 2) C rfl dL_law_993 ?_
        refine go_iadd C dL_law_994 ?_
        refine go_sld C hS hw.1 dL_law_995 ?_
        replace hw := hw.2
        refine go_aload_n C 0 rfl rfl dL_law_996 ?_
        refine go_iload_n C 3 rfl rfl dL_law_997 ?_
        refine go_iconst (v := 3) C rfl dL_law_998 ?_
        refine go_iadd C dL_law_999 ?_
        refine go_sld C hS hw.1 dL_law_1000 ?_
        replace hw := hw.2
        refine go_callV (as := [.int (xs (v3 + 1).toNatClampNeg), .int (xs (v3 + 2).toNatClampNeg), .int (xs (v3 + 3).toNatClampNeg)]) C hR (shX11 G) (ltX11 hN1) cwL_110 (Nat.le_trans (by decide) hd) (by decide) rfl rfl (Nat.le_of_ble_eq_true rfl) dL_law_1001 (spX11_took (Nat.le_refl _) hN1 hw) (fun v_ τ_ hw => ?_)
        obtain ⟨r_107, rfl, hw⟩ := hw
        obtain ⟨σ_108, rfl⟩ : ∃ z, z = τ_ := ⟨_, rfl⟩
        refine go_aload_n C 2 rfl rfl dL_law_1004 ?_
        refine go_aload_n C 0 rfl rfl dL_law_1005 ?_
        refine go_iload_n C 3 rfl rfl dL_law_1006 ?_
        refine go_iconst (v := 1) C rfl dL_law_1007 ?_
        refine go_iadd C dL_law_1008 ?_
        refine go_sld C hS hw.1 dL_law_1009 ?_
        replace hw := hw.2
        refine go_aload_n C 0 rfl rfl dL_law_1010 ?_
        refine go_iload_n C 3 rfl rfl dL_law_1011 ?_
        refine go_iconst (v := 2) C rfl dL_law_1012 ?_
        refine go_iadd C dL_law_1013 ?_
        refine go_sld C hS hw.1 dL_law_1014 ?_
        replace hw := hw.2
        refine go_aload_n C 0 rfl rfl dL_law_1015 ?_
        refine go_iload_n C 3 rfl rfl dL_law_1016 ?_
        refine go_iconst (v := 3) C rfl dL_law_1017 ?_
        refine go_iadd C dL_law_1018 ?_
        refine go_sld C hS hw.1 dL_law_1019 ?_
        replace hw := hw.2
        refine go_callV (as := [.int (xs (v3 + 1).toNatClampNeg), .int (xs (v3 + 2).toNatClampNeg), .int (xs (v3 + 3).toNatClampNeg)]) C hR (shX12 G) (ltX12 hN) cwL_113 (Nat.le_trans (by decide) hd) (by decide) rfl rfl (Nat.le_of_ble_eq_true rfl) dL_law_1020 (spX12_took (Nat.le_refl _) hN hw) (fun v_ τ_ hw => ?_)
        obtain ⟨r_109, rfl, hw⟩ := hw
        obtain ⟨σ_110, rfl⟩ : ∃ z, z = τ_ := ⟨_, rfl⟩
        refine go_icmp_eq C 1658 rfl dL_law_1023 (fun hc => ?_) (fun hc => ?_)
        · replace hw := hw.1 hc
          obtain ⟨v3_111, ev3_111⟩ : ∃ z : Int32, z = v3 + 7 := ⟨_, rfl⟩
          replace hw := hw v3_111 ev3_111
          refine go_iinc (v := v3_111) (lv2 := [(3, .int v3_111), (0, .ref b), (1, .ref (G.2.2.1 0)), (2, .ref (G.2.2.1 75))]) C 3 rfl (by rw [ev3_111]; rfl) (by rw [hnl]; decide) rfl dL_law_1658 ?_
          refine go_goto C 18 rfl dL_law_1661 ?_
          refine go_sub [1, 2, 3, 0] rfl ?_
          exact ih _ _ hw
        · replace hw := hw.2 hc
          refine go_iconst (v := 0) C rfl dL_law_1026 ?_
          exact hw.elim
      replace hw := hw.2 hc21
      by_cases hc22 : x_1 = 22
      · replace hw := hw.1 hc22
        refine go_tableIn C 1028 (by rw [hc22]; decide) (by rw [hc22]; decide) (by rw [hc22]; rfl) rfl dL_law_33 ?_
        refine go_aload_n C 1 rfl rfl dL_law_1028 ?_
        refine go_aload_n C 0 rfl rfl dL_law_1029 ?_
        refine go_iload_n C 3 rfl rfl dL_law_1030 ?_
        refine go_iconst (v := 1) C rfl dL_law_1031 ?_
        refine go_iadd C dL_law_1032 ?_
        refine go_sld C hS hw.1 dL_law_1033 ?_
        replace hw := hw.2
        refine go_aload_n C 0 rfl rfl dL_law_1034 ?_
        refine go_iload_n C 3 rfl rfl dL_law_1035 ?_
        refine go_iconst (v := 2) C rfl dL_law_1036 ?_
        refine go_iadd C dL_law_1037 ?_
        refine go_sld C hS hw.1 dL_law_1038 ?_
        replace hw := hw.2
        refine go_callV (as := [.int (xs (v3 + 1).toNatClampNeg), .int (xs (v3 + 2).toNatClampNeg)]) C hR (shX11 G) (ltX11 hN1) cwL_114 (Nat.le_trans (by decide) hd) (by decide) rfl rfl (Nat.le_of_ble_eq_true rfl) dL_law_1039 (spX11_sound (Nat.le_refl _) hN1 hw) (fun v_ τ_ hw => ?_)
        obtain ⟨r_112, rfl, hw⟩ := hw
        obtain ⟨σ_113, rfl⟩ : ∃ z, z = τ_ := ⟨_, rfl⟩
        refine go_aload_n C 2 rfl rfl dL_law_1042 ?_
        refine go_aload_n C 0 rfl rfl dL_law_1043 ?_
        refine go_iload_n C 3 rfl rfl dL_law_1044 ?_
        refine go_iconst (v := 1) C rfl dL_law_1045 ?_
        refine go_iadd C dL_law_1046 ?_
        refine go_sld C hS hw.1 dL_law_1047 ?_
        replace hw := hw.2
        refine go_aload_n C 0 rfl rfl dL_law_1048 ?_
        refine go_iload_n C 3 rfl rfl dL_law_1049 ?_
        refine go_iconst (v := 2) C rfl dL_law_1050 ?_
        refine go_iadd C dL_law_1051 ?_
        refine go_sld C hS hw.1 dL_law_1052 ?_
        replace hw := hw.2
        refine go_callV (as := [.int (xs (v3 + 1).toNatClampNeg), .int (xs (v3 + 2).toNatClampNeg)]) C hR (shX12 G) (ltX12 hN) cwL_117 (Nat.le_trans (by decide) hd) (by decide) rfl rfl (Nat.le_of_ble_eq_true rfl) dL_law_1053 (spX12_sound (Nat.le_refl _) hN hw) (fun v_ τ_ hw => ?_)
        obtain ⟨r_114, rfl, hw⟩ := hw
        obtain ⟨σ_115, rfl⟩ : ∃ z, z = τ_ := ⟨_, rfl⟩
        refine go_icmp_eq C 1658 rfl dL_law_1056 (fun hc => ?_) (fun hc => ?_)
        · replace hw := hw.1 hc
          obtain ⟨v3_116, ev3_116⟩ : ∃ z : Int32, z = v3 + 7 := ⟨_, rfl⟩
          replace hw := hw v3_116 ev3_116
          refine go_iinc (v := v3_116) (lv2 := [(3, .int v3_116), (0, .ref b), (1, .ref (G.2.2.1 0)), (2, .ref (G.2.2.1 75))]) C 3 rfl (by rw [ev3_116]; rfl) (by rw [hnl]; decide) rfl dL_law_1658 ?_
          refine go_goto C 18 rfl dL_law_1661 ?_
          refine go_sub [1, 2, 3, 0] rfl ?_
          exact ih _ _ hw
        · replace hw := hw.2 hc
          refine go_iconst (v := 0) C rfl dL_law_1059 ?_
          exact hw.elim
      replace hw := hw.2 hc22
      by_cases hc23 : x_1 = 23
      · replace hw := hw.1 hc23
        refine go_tableIn C 1061 (by rw [hc23]; decide) (by rw [hc23]; decide) (by rw [hc23]; rfl) rfl dL_law_33 ?_
        refine go_aload_n C 1 rfl rfl dL_law_1061 ?_
        refine go_aload_n C 0 rfl rfl dL_law_1062 ?_
        refine go_iload_n C 3 rfl rfl dL_law_1063 ?_
        refine go_iconst (v := 1) C rfl dL_law_1064 ?_
        refine go_iadd C dL_law_1065 ?_
        refine go_sld C hS hw.1 dL_law_1066 ?_
        replace hw := hw.2
        refine go_aload_n C 0 rfl rfl dL_law_1067 ?_
        refine go_iload_n C 3 rfl rfl dL_law_1068 ?_
        refine go_iconst (v := 2) C rfl dL_law_1069 ?_
        refine go_iadd C dL_law_1070 ?_
        refine go_sld C hS hw.1 dL_law_1071 ?_
        replace hw := hw.2
        refine go_callV (as := [.int (xs (v3 + 1).toNatClampNeg), .int (xs (v3 + 2).toNatClampNeg)]) C hR (shX11 G) (ltX11 hN1) cwL_118 (Nat.le_trans (by decide) hd) (by decide) rfl rfl (Nat.le_of_ble_eq_true rfl) dL_law_1072 (spX11_crossed (Nat.le_refl _) hN1 hw) (fun v_ τ_ hw => ?_)
        obtain ⟨r_117, rfl, hw⟩ := hw
        obtain ⟨σ_118, rfl⟩ : ∃ z, z = τ_ := ⟨_, rfl⟩
        refine go_aload_n C 2 rfl rfl dL_law_1075 ?_
        refine go_aload_n C 0 rfl rfl dL_law_1076 ?_
        refine go_iload_n C 3 rfl rfl dL_law_1077 ?_
        refine go_iconst (v := 1) C rfl dL_law_1078 ?_
        refine go_iadd C dL_law_1079 ?_
        refine go_sld C hS hw.1 dL_law_1080 ?_
        replace hw := hw.2
        refine go_aload_n C 0 rfl rfl dL_law_1081 ?_
        refine go_iload_n C 3 rfl rfl dL_law_1082 ?_
        refine go_iconst (v := 2) C rfl dL_law_1083 ?_
        refine go_iadd C dL_law_1084 ?_
        refine go_sld C hS hw.1 dL_law_1085 ?_
        replace hw := hw.2
        refine go_callV (as := [.int (xs (v3 + 1).toNatClampNeg), .int (xs (v3 + 2).toNatClampNeg)]) C hR (shX12 G) (ltX12 hN) cwL_121 (Nat.le_trans (by decide) hd) (by decide) rfl rfl (Nat.le_of_ble_eq_true rfl) dL_law_1086 (spX12_crossed (Nat.le_refl _) hN hw) (fun v_ τ_ hw => ?_)
        obtain ⟨r_119, rfl, hw⟩ := hw
        obtain ⟨σ_120, rfl⟩ : ∃ z, z = τ_ := ⟨_, rfl⟩
        refine go_icmp_eq C 1658 rfl dL_law_1089 (fun hc => ?_) (fun hc => ?_)
        · replace hw := hw.1 hc
          obtain ⟨v3_121, ev3_121⟩ : ∃ z : Int32, z = v3 + 7 := ⟨_, rfl⟩
          replace hw := hw v3_121 ev3_121
          refine go_iinc (v := v3_121) (lv2 := [(3, .int v3_121), (0, .ref b), (1, .ref (G.2.2.1 0)), (2, .ref (G.2.2.1 75))]) C 3 rfl (by rw [ev3_121]; rfl) (by rw [hnl]; decide) rfl dL_law_1658 ?_
          refine go_goto C 18 rfl dL_law_1661 ?_
          refine go_sub [1, 2, 3, 0] rfl ?_
          exact ih _ _ hw
        · replace hw := hw.2 hc
          refine go_iconst (v := 0) C rfl dL_law_1092 ?_
          exact hw.elim
      replace hw := hw.2 hc23
      by_cases hc24 : x_1 = 24
      · replace hw := hw.1 hc24
        refine go_tableIn C 1094 (by rw [hc24]; decide) (by rw [hc24]; decide) (by rw [hc24]; rfl) rfl dL_law_33 ?_
        refine go_aload_n C 1 rfl rfl dL_law_1094 ?_
        refine go_aload_n C 0 rfl rfl dL_law_1095 ?_
        refine go_iload_n C 3 rfl rfl dL_law_1096 ?_
        refine go_iconst (v := 1) C rfl dL_law_1097 ?_
        refine go_iadd C dL_law_1098 ?_
        refine go_sld C hS hw.1 dL_law_1099 ?_
        replace hw := hw.2
        refine go_aload_n C 0 rfl rfl dL_law_1100 ?_
        refine go_iload_n C 3 rfl rfl dL_law_1101 ?_
        refine go_iconst (v := 2) C rfl dL_law_1102 ?_
        refine go_iadd C dL_law_1103 ?_
        refine go_sld C hS hw.1 dL_law_1104 ?_
        replace hw := hw.2
        refine go_aload_n C 0 rfl rfl dL_law_1105 ?_
        refine go_iload_n C 3 rfl rfl dL_law_1106 ?_
        refine go_iconst (v := 3) C rfl dL_law_1107 ?_
        refine go_iadd C dL_law_1108 ?_
        refine go_sld C hS hw.1 dL_law_1109 ?_
        replace hw := hw.2
        refine go_callV (as := [.int (xs (v3 + 1).toNatClampNeg), .int (xs (v3 + 2).toNatClampNeg), .int (xs (v3 + 3).toNatClampNeg)]) C hR (shX11 G) (ltX11 hN1) cwL_122 (Nat.le_trans (by decide) hd) (by decide) rfl rfl (Nat.le_of_ble_eq_true rfl) dL_law_1110 (spX11_returned (Nat.le_refl _) hN1 hw) (fun v_ τ_ hw => ?_)
        obtain ⟨r_122, rfl, hw⟩ := hw
        obtain ⟨σ_123, rfl⟩ : ∃ z, z = τ_ := ⟨_, rfl⟩
        refine go_aload_n C 2 rfl rfl dL_law_1113 ?_
        refine go_aload_n C 0 rfl rfl dL_law_1114 ?_
        refine go_iload_n C 3 rfl rfl dL_law_1115 ?_
        refine go_iconst (v := 1) C rfl dL_law_1116 ?_
        refine go_iadd C dL_law_1117 ?_
        refine go_sld C hS hw.1 dL_law_1118 ?_
        replace hw := hw.2
        refine go_aload_n C 0 rfl rfl dL_law_1119 ?_
        refine go_iload_n C 3 rfl rfl dL_law_1120 ?_
        refine go_iconst (v := 2) C rfl dL_law_1121 ?_
        refine go_iadd C dL_law_1122 ?_
        refine go_sld C hS hw.1 dL_law_1123 ?_
        replace hw := hw.2
        refine go_aload_n C 0 rfl rfl dL_law_1124 ?_
        refine go_iload_n C 3 rfl rfl dL_law_1125 ?_
        refine go_iconst (v := 3) C rfl dL_law_1126 ?_
        refine go_iadd C dL_law_1127 ?_
        refine go_sld C hS hw.1 dL_law_1128 ?_
        replace hw := hw.2
        refine go_callV (as := [.int (xs (v3 + 1).toNatClampNeg), .int (xs (v3 + 2).toNatClampNeg), .int (xs (v3 + 3).toNatClampNeg)]) C hR (shX12 G) (ltX12 hN) cwL_125 (Nat.le_trans (by decide) hd) (by decide) rfl rfl (Nat.le_of_ble_eq_true rfl) dL_law_1129 (spX12_returned (Nat.le_refl _) hN hw) (fun v_ τ_ hw => ?_)
        obtain ⟨r_124, rfl, hw⟩ := hw
        obtain ⟨σ_125, rfl⟩ : ∃ z, z = τ_ := ⟨_, rfl⟩
        refine go_icmp_eq C 1658 rfl dL_law_1132 (fun hc => ?_) (fun hc => ?_)
        · replace hw := hw.1 hc
          obtain ⟨v3_126, ev3_126⟩ : ∃ z : Int32, z = v3 + 7 := ⟨_, rfl⟩
          replace hw := hw v3_126 ev3_126
          refine go_iinc (v := v3_126) (lv2 := [(3, .int v3_126), (0, .ref b), (1, .ref (G.2.2.1 0)), (2, .ref (G.2.2.1 75))]) C 3 rfl (by rw [ev3_126]; rfl) (by rw [hnl]; decide) rfl dL_law_1658 ?_
          refine go_goto C 18 rfl dL_law_1661 ?_
          refine go_sub [1, 2, 3, 0] rfl ?_
          exact ih _ _ hw
        · replace hw := hw.2 hc
          refine go_iconst (v := 0) C rfl dL_law_1135 ?_
          exact hw.elim
      replace hw := hw.2 hc24
      by_cases hc25 : x_1 = 25
      · replace hw := hw.1 hc25
        refine go_tableIn C 1137 (by rw [hc25]; decide) (by rw [hc25]; decide) (by rw [hc25]; rfl) rfl dL_law_33 ?_
        refine go_aload_n C 1 rfl rfl dL_law_1137 ?_
        refine go_aload_n C 0 rfl rfl dL_law_1138 ?_
        refine go_iload_n C 3 rfl rfl dL_law_1139 ?_
        refine go_iconst (v := 1) C rfl dL_law_1140 ?_
        refine go_iadd C dL_law_1141 ?_
        refine go_sld C hS hw.1 dL_law_1142 ?_
        replace hw := hw.2
        refine go_aload_n C 0 rfl rfl dL_law_1143 ?_
        refine go_iload_n C 3 rfl rfl dL_law_1144 ?_
        refine go_iconst (v := 2) C rfl dL_law_1145 ?_
        refine go_iadd C dL_law_1146 ?_
        refine go_sld C hS hw.1 dL_law_1147 ?_
        replace hw := hw.2
        refine go_aload_n C 0 rfl rfl dL_law_1148 ?_
        refine go_iload_n C 3 rfl rfl dL_law_1149 ?_
        refine go_iconst (v := 3) C rfl dL_law_1150 ?_
        refine go_iadd C dL_law_1151 ?_
        refine go_sld C hS hw.1 dL_law_1152 ?_
        replace hw := hw.2
        refine go_aload_n C 0 rfl rfl dL_law_1153 ?_
        refine go_iload_n C 3 rfl rfl dL_law_1154 ?_
        refine go_iconst (v := 4) C rfl dL_law_1155 ?_
        refine go_iadd C dL_law_1156 ?_
        refine go_sld C hS hw.1 dL_law_1157 ?_
        replace hw := hw.2
        refine go_if_eq C 1165 rfl dL_law_1158 (fun hc => ?_) (fun hc => ?_)
        · replace hw := hw.1 hc
          refine go_iconst (v := 0) C rfl dL_law_1165 ?_
          exact (gbL_law_1166 C Lw hR hnl hd hN hS ih) _ _ _ _ _ _ hw
        · replace hw := hw.2 hc
          refine go_iconst (v := 1) C rfl dL_law_1161 ?_
          refine go_goto C 1166 rfl dL_law_1162 ?_
          exact (gbL_law_1166 C Lw hR hnl hd hN hS ih) _ _ _ _ _ _ hw
      replace hw := hw.2 hc25
      by_cases hc26 : x_1 = 26
      · replace hw := hw.1 hc26
        refine go_tableIn C 1206 (by rw [hc26]; decide) (by rw [hc26]; decide) (by rw [hc26]; rfl) rfl dL_law_33 ?_
        refine go_aload_n C 1 rfl rfl dL_law_1206 ?_
        refine go_aload_n C 0 rfl rfl dL_law_1207 ?_
        refine go_iload_n C 3 rfl rfl dL_law_1208 ?_
        refine go_iconst (v := 1) C rfl dL_law_1209 ?_
        refine go_iadd C dL_law_1210 ?_
        refine go_sld C hS hw.1 dL_law_1211 ?_
        replace hw := hw.2
        refine go_aload_n C 0 rfl rfl dL_law_1212 ?_
        refine go_iload_n C 3 rfl rfl dL_law_1213 ?_
        refine go_iconst (v := 2) C rfl dL_law_1214 ?_
        refine go_iadd C dL_law_1215 ?_
        refine go_sld C hS hw.1 dL_law_1216 ?_
        replace hw := hw.2
        refine go_aload_n C 0 rfl rfl dL_law_1217 ?_
        refine go_iload_n C 3 rfl rfl dL_law_1218 ?_
        refine go_iconst (v := 3) C rfl dL_law_1219 ?_
        refine go_iadd C dL_law_1220 ?_
        refine go_sld C hS hw.1 dL_law_1221 ?_
        replace hw := hw.2
        refine go_aload_n C 0 rfl rfl dL_law_1222 ?_
        refine go_iload_n C 3 rfl rfl dL_law_1223 ?_
        refine go_iconst (v := 4) C rfl dL_law_1224 ?_
        refine go_iadd C dL_law_1225 ?_
        refine go_sld C hS hw.1 dL_law_1226 ?_
        replace hw := hw.2
        refine go_callV (as := [.int (xs (v3 + 1).toNatClampNeg), .int (xs (v3 + 2).toNatClampNeg), .int (xs (v3 + 3).toNatClampNeg), .int (xs (v3 + 4).toNatClampNeg)]) C hR (shX11 G) (ltX11 hN1) cwL_131 (Nat.le_trans (by decide) hd) (by decide) rfl rfl (Nat.le_of_ble_eq_true rfl) dL_law_1227 (spX11_best (Nat.le_refl _) hN1 hw) (fun v_ τ_ hw => ?_)
        obtain ⟨r_127, rfl, hw⟩ := hw
        obtain ⟨σ_128, rfl⟩ : ∃ z, z = τ_ := ⟨_, rfl⟩
        refine go_aload_n C 2 rfl rfl dL_law_1230 ?_
        refine go_aload_n C 0 rfl rfl dL_law_1231 ?_
        refine go_iload_n C 3 rfl rfl dL_law_1232 ?_
        refine go_iconst (v := 1) C rfl dL_law_1233 ?_
        refine go_iadd C dL_law_1234 ?_
        refine go_sld C hS hw.1 dL_law_1235 ?_
        replace hw := hw.2
        refine go_aload_n C 0 rfl rfl dL_law_1236 ?_
        refine go_iload_n C 3 rfl rfl dL_law_1237 ?_
        refine go_iconst (v := 2) C rfl dL_law_1238 ?_
        refine go_iadd C dL_law_1239 ?_
        refine go_sld C hS hw.1 dL_law_1240 ?_
        replace hw := hw.2
        refine go_aload_n C 0 rfl rfl dL_law_1241 ?_
        refine go_iload_n C 3 rfl rfl dL_law_1242 ?_
        refine go_iconst (v := 3) C rfl dL_law_1243 ?_
        refine go_iadd C dL_law_1244 ?_
        refine go_sld C hS hw.1 dL_law_1245 ?_
        replace hw := hw.2
        refine go_aload_n C 0 rfl rfl dL_law_1246 ?_
        refine go_iload_n C 3 rfl rfl dL_law_1247 ?_
        refine go_iconst (v := 4) C rfl dL_law_1248 ?_
        refine go_iadd C dL_law_1249 ?_
        refine go_sld C hS hw.1 dL_law_1250 ?_
        replace hw := hw.2
        refine go_callV (as := [.int (xs (v3 + 1).toNatClampNeg), .int (xs (v3 + 2).toNatClampNeg), .int (xs (v3 + 3).toNatClampNeg), .int (xs (v3 + 4).toNatClampNeg)]) C hR (shX12 G) (ltX12 hN) cwL_134 (Nat.le_trans (by decide) hd) (by decide) rfl rfl (Nat.le_of_ble_eq_true rfl) dL_law_1251 (spX12_best (Nat.le_refl _) hN hw) (fun v_ τ_ hw => ?_)
        obtain ⟨r_129, rfl, hw⟩ := hw
        obtain ⟨σ_130, rfl⟩ : ∃ z, z = τ_ := ⟨_, rfl⟩
        refine go_icmp_eq C 1658 rfl dL_law_1254 (fun hc => ?_) (fun hc => ?_)
        · replace hw := hw.1 hc
          obtain ⟨v3_131, ev3_131⟩ : ∃ z : Int32, z = v3 + 7 := ⟨_, rfl⟩
          replace hw := hw v3_131 ev3_131
          refine go_iinc (v := v3_131) (lv2 := [(3, .int v3_131), (0, .ref b), (1, .ref (G.2.2.1 0)), (2, .ref (G.2.2.1 75))]) C 3 rfl (by rw [ev3_131]; rfl) (by rw [hnl]; decide) rfl dL_law_1658 ?_
          refine go_goto C 18 rfl dL_law_1661 ?_
          refine go_sub [1, 2, 3, 0] rfl ?_
          exact ih _ _ hw
        · replace hw := hw.2 hc
          refine go_iconst (v := 0) C rfl dL_law_1257 ?_
          exact hw.elim
      replace hw := hw.2 hc26
      by_cases hc27 : x_1 = 27
      · replace hw := hw.1 hc27
        refine go_tableIn C 1259 (by rw [hc27]; decide) (by rw [hc27]; decide) (by rw [hc27]; rfl) rfl dL_law_33 ?_
        refine go_aload_n C 1 rfl rfl dL_law_1259 ?_
        refine go_aload_n C 0 rfl rfl dL_law_1260 ?_
        refine go_iload_n C 3 rfl rfl dL_law_1261 ?_
        refine go_iconst (v := 1) C rfl dL_law_1262 ?_
        refine go_iadd C dL_law_1263 ?_
        refine go_sld C hS hw.1 dL_law_1264 ?_
        replace hw := hw.2
        refine go_aload_n C 0 rfl rfl dL_law_1265 ?_
        refine go_iload_n C 3 rfl rfl dL_law_1266 ?_
        refine go_iconst (v := 2) C rfl dL_law_1267 ?_
        refine go_iadd C dL_law_1268 ?_
        refine go_sld C hS hw.1 dL_law_1269 ?_
        replace hw := hw.2
        refine go_aload_n C 0 rfl rfl dL_law_1270 ?_
        refine go_iload_n C 3 rfl rfl dL_law_1271 ?_
        refine go_iconst (v := 3) C rfl dL_law_1272 ?_
        refine go_iadd C dL_law_1273 ?_
        refine go_sld C hS hw.1 dL_law_1274 ?_
        replace hw := hw.2
        refine go_callV (as := [.int (xs (v3 + 1).toNatClampNeg), .int (xs (v3 + 2).toNatClampNeg), .int (xs (v3 + 3).toNatClampNeg)]) C hR (shX11 G) (ltX11 hN1) cwL_135 (Nat.le_trans (by decide) hd) (by decide) rfl rfl (Nat.le_of_ble_eq_true rfl) dL_law_1275 (spX11_age (Nat.le_refl _) hN1 hw) (fun v_ τ_ hw => ?_)
        obtain ⟨r_132, rfl, hw⟩ := hw
        obtain ⟨σ_133, rfl⟩ : ∃ z, z = τ_ := ⟨_, rfl⟩
        refine go_aload_n C 2 rfl rfl dL_law_1278 ?_
        refine go_aload_n C 0 rfl rfl dL_law_1279 ?_
        refine go_iload_n C 3 rfl rfl dL_law_1280 ?_
        refine go_iconst (v := 1) C rfl dL_law_1281 ?_
        refine go_iadd C dL_law_1282 ?_
        refine go_sld C hS hw.1 dL_law_1283 ?_
        replace hw := hw.2
        refine go_aload_n C 0 rfl rfl dL_law_1284 ?_
        refine go_iload_n C 3 rfl rfl dL_law_1285 ?_
        refine go_iconst (v := 2) C rfl dL_law_1286 ?_
        refine go_iadd C dL_law_1287 ?_
        refine go_sld C hS hw.1 dL_law_1288 ?_
        replace hw := hw.2
        refine go_aload_n C 0 rfl rfl dL_law_1289 ?_
        refine go_iload_n C 3 rfl rfl dL_law_1290 ?_
        refine go_iconst (v := 3) C rfl dL_law_1291 ?_
        refine go_iadd C dL_law_1292 ?_
        refine go_sld C hS hw.1 dL_law_1293 ?_
        replace hw := hw.2
        refine go_callV (as := [.int (xs (v3 + 1).toNatClampNeg), .int (xs (v3 + 2).toNatClampNeg), .int (xs (v3 + 3).toNatClampNeg)]) C hR (shX12 G) (ltX12 hN) cwL_138 (Nat.le_trans (by decide) hd) (by decide) rfl rfl (Nat.le_of_ble_eq_true rfl) dL_law_1294 (spX12_age (Nat.le_refl _) hN hw) (fun v_ τ_ hw => ?_)
        obtain ⟨r_134, rfl, hw⟩ := hw
        obtain ⟨σ_135, rfl⟩ : ∃ z, z = τ_ := ⟨_, rfl⟩
        refine go_icmp_eq C 1658 rfl dL_law_1297 (fun hc => ?_) (fun hc => ?_)
        · replace hw := hw.1 hc
          obtain ⟨v3_136, ev3_136⟩ : ∃ z : Int32, z = v3 + 7 := ⟨_, rfl⟩
          replace hw := hw v3_136 ev3_136
          refine go_iinc (v := v3_136) (lv2 := [(3, .int v3_136), (0, .ref b), (1, .ref (G.2.2.1 0)), (2, .ref (G.2.2.1 75))]) C 3 rfl (by rw [ev3_136]; rfl) (by rw [hnl]; decide) rfl dL_law_1658 ?_
          refine go_goto C 18 rfl dL_law_1661 ?_
          refine go_sub [1, 2, 3, 0] rfl ?_
          exact ih _ _ hw
        · replace hw := hw.2 hc
          refine go_iconst (v := 0) C rfl dL_law_1300 ?_
          exact hw.elim
      replace hw := hw.2 hc27
      by_cases hc28 : x_1 = 28
      · replace hw := hw.1 hc28
        refine go_tableIn C 1302 (by rw [hc28]; decide) (by rw [hc28]; decide) (by rw [hc28]; rfl) rfl dL_law_33 ?_
        refine go_aload_n C 1 rfl rfl dL_law_1302 ?_
        refine go_aload_n C 0 rfl rfl dL_law_1303 ?_
        refine go_iload_n C 3 rfl rfl dL_law_1304 ?_
        refine go_iconst (v := 1) C rfl dL_law_1305 ?_
        refine go_iadd C dL_law_1306 ?_
        refine go_sld C hS hw.1 dL_law_1307 ?_
        replace hw := hw.2
        refine go_callV (as := [.int (xs (v3 + 1).toNatClampNeg)]) C hR (shX11 G) (ltX11 hN1) cwL_139 (Nat.le_trans (by decide) hd) (by decide) rfl rfl (Nat.le_of_ble_eq_true rfl) dL_law_1308 (spX11_guess (Nat.le_refl _) hN1 hw) (fun v_ τ_ hw => ?_)
        obtain ⟨r_137, rfl, hw⟩ := hw
        obtain ⟨σ_138, rfl⟩ : ∃ z, z = τ_ := ⟨_, rfl⟩
        refine go_aload_n C 2 rfl rfl dL_law_1311 ?_
        refine go_aload_n C 0 rfl rfl dL_law_1312 ?_
        refine go_iload_n C 3 rfl rfl dL_law_1313 ?_
        refine go_iconst (v := 1) C rfl dL_law_1314 ?_
        refine go_iadd C dL_law_1315 ?_
        refine go_sld C hS hw.1 dL_law_1316 ?_
        replace hw := hw.2
        refine go_callV (as := [.int (xs (v3 + 1).toNatClampNeg)]) C hR (shX12 G) (ltX12 hN) cwL_142 (Nat.le_trans (by decide) hd) (by decide) rfl rfl (Nat.le_of_ble_eq_true rfl) dL_law_1317 (spX12_guess (Nat.le_refl _) hN hw) (fun v_ τ_ hw => ?_)
        obtain ⟨r_139, rfl, hw⟩ := hw
        obtain ⟨σ_140, rfl⟩ : ∃ z, z = τ_ := ⟨_, rfl⟩
        refine go_icmp_eq C 1658 rfl dL_law_1320 (fun hc => ?_) (fun hc => ?_)
        · replace hw := hw.1 hc
          obtain ⟨v3_141, ev3_141⟩ : ∃ z : Int32, z = v3 + 7 := ⟨_, rfl⟩
          replace hw := hw v3_141 ev3_141
          refine go_iinc (v := v3_141) (lv2 := [(3, .int v3_141), (0, .ref b), (1, .ref (G.2.2.1 0)), (2, .ref (G.2.2.1 75))]) C 3 rfl (by rw [ev3_141]; rfl) (by rw [hnl]; decide) rfl dL_law_1658 ?_
          refine go_goto C 18 rfl dL_law_1661 ?_
          refine go_sub [1, 2, 3, 0] rfl ?_
          exact ih _ _ hw
        · replace hw := hw.2 hc
          refine go_iconst (v := 0) C rfl dL_law_1323 ?_
          exact hw.elim
      replace hw := hw.2 hc28
      by_cases hc29 : x_1 = 29
      · replace hw := hw.1 hc29
        refine go_tableIn C 1325 (by rw [hc29]; decide) (by rw [hc29]; decide) (by rw [hc29]; rfl) rfl dL_law_33 ?_
        refine go_aload_n C 1 rfl rfl dL_law_1325 ?_
        refine go_aload_n C 0 rfl rfl dL_law_1326 ?_
        refine go_iload_n C 3 rfl rfl dL_law_1327 ?_
        refine go_iconst (v := 1) C rfl dL_law_1328 ?_
        refine go_iadd C dL_law_1329 ?_
        refine go_sld C hS hw.1 dL_law_1330 ?_
        replace hw := hw.2
        refine go_aload_n C 0 rfl rfl dL_law_1331 ?_
        refine go_iload_n C 3 rfl rfl dL_law_1332 ?_
        refine go_iconst (v := 2) C rfl dL_law_1333 ?_
        refine go_iadd C dL_law_1334 ?_
        refine go_sld C hS hw.1 dL_law_1335 ?_
        replace hw := hw.2
        refine go_aload_n C 0 rfl rfl dL_law_1336 ?_
        refine go_iload_n C 3 rfl rfl dL_law_1337 ?_
        refine go_iconst (v := 3) C rfl dL_law_1338 ?_
        refine go_iadd C dL_law_1339 ?_
        refine go_sld C hS hw.1 dL_law_1340 ?_
        replace hw := hw.2
        refine go_callV (as := [.int (xs (v3 + 1).toNatClampNeg), .int (xs (v3 + 2).toNatClampNeg), .int (xs (v3 + 3).toNatClampNeg)]) C hR (shX11 G) (ltX11 hN1) cwL_143 (Nat.le_trans (by decide) hd) (by decide) rfl rfl (Nat.le_of_ble_eq_true rfl) dL_law_1341 (spX11_chance (Nat.le_refl _) hN1 hw) (fun v_ τ_ hw => ?_)
        obtain ⟨r_142, rfl, hw⟩ := hw
        obtain ⟨σ_143, rfl⟩ : ∃ z, z = τ_ := ⟨_, rfl⟩
        refine go_aload_n C 2 rfl rfl dL_law_1344 ?_
        refine go_aload_n C 0 rfl rfl dL_law_1345 ?_
        refine go_iload_n C 3 rfl rfl dL_law_1346 ?_
        refine go_iconst (v := 1) C rfl dL_law_1347 ?_
        refine go_iadd C dL_law_1348 ?_
        refine go_sld C hS hw.1 dL_law_1349 ?_
        replace hw := hw.2
        refine go_aload_n C 0 rfl rfl dL_law_1350 ?_
        refine go_iload_n C 3 rfl rfl dL_law_1351 ?_
        refine go_iconst (v := 2) C rfl dL_law_1352 ?_
        refine go_iadd C dL_law_1353 ?_
        refine go_sld C hS hw.1 dL_law_1354 ?_
        replace hw := hw.2
        refine go_aload_n C 0 rfl rfl dL_law_1355 ?_
        refine go_iload_n C 3 rfl rfl dL_law_1356 ?_
        refine go_iconst (v := 3) C rfl dL_law_1357 ?_
        refine go_iadd C dL_law_1358 ?_
        refine go_sld C hS hw.1 dL_law_1359 ?_
        replace hw := hw.2
        refine go_callV (as := [.int (xs (v3 + 1).toNatClampNeg), .int (xs (v3 + 2).toNatClampNeg), .int (xs (v3 + 3).toNatClampNeg)]) C hR (shX12 G) (ltX12 hN) cwL_146 (Nat.le_trans (by decide) hd) (by decide) rfl rfl (Nat.le_of_ble_eq_true rfl) dL_law_1360 (spX12_chance (Nat.le_refl _) hN hw) (fun v_ τ_ hw => ?_)
        obtain ⟨r_144, rfl, hw⟩ := hw
        obtain ⟨σ_145, rfl⟩ : ∃ z, z = τ_ := ⟨_, rfl⟩
        refine go_icmp_eq C 1658 rfl dL_law_1363 (fun hc => ?_) (fun hc => ?_)
        · replace hw := hw.1 hc
          obtain ⟨v3_146, ev3_146⟩ : ∃ z : Int32, z = v3 + 7 := ⟨_, rfl⟩
          replace hw := hw v3_146 ev3_146
          refine go_iinc (v := v3_146) (lv2 := [(3, .int v3_146), (0, .ref b), (1, .ref (G.2.2.1 0)), (2, .ref (G.2.2.1 75))]) C 3 rfl (by rw [ev3_146]; rfl) (by rw [hnl]; decide) rfl dL_law_1658 ?_
          refine go_goto C 18 rfl dL_law_1661 ?_
          refine go_sub [1, 2, 3, 0] rfl ?_
          exact ih _ _ hw
        · replace hw := hw.2 hc
          refine go_iconst (v := 0) C rfl dL_law_1366 ?_
          exact hw.elim
      replace hw := hw.2 hc29
      by_cases hc30 : x_1 = 30
      · replace hw := hw.1 hc30
        refine go_tableIn C 1368 (by rw [hc30]; decide) (by rw [hc30]; decide) (by rw [hc30]; rfl) rfl dL_law_33 ?_
        refine go_aload_n C 1 rfl rfl dL_law_1368 ?_
        refine go_aload_n C 0 rfl rfl dL_law_1369 ?_
        refine go_iload_n C 3 rfl rfl dL_law_1370 ?_
        refine go_iconst (v := 1) C rfl dL_law_1371 ?_
        refine go_iadd C dL_law_1372 ?_
        refine go_sld C hS hw.1 dL_law_1373 ?_
        replace hw := hw.2
        refine go_aload_n C 0 rfl rfl dL_law_1374 ?_
        refine go_iload_n C 3 rfl rfl dL_law_1375 ?_
        refine go_iconst (v := 2) C rfl dL_law_1376 ?_
        refine go_iadd C dL_law_1377 ?_
        refine go_sld C hS hw.1 dL_law_1378 ?_
        replace hw := hw.2
        refine go_callV (as := [.int (xs (v3 + 1).toNatClampNeg), .int (xs (v3 + 2).toNatClampNeg)]) C hR (shX11 G) (ltX11 hN1) cwL_147 (Nat.le_trans (by decide) hd) (by decide) rfl rfl (Nat.le_of_ble_eq_true rfl) dL_law_1379 (spX11_turnover (Nat.le_refl _) hN1 hw) (fun v_ τ_ hw => ?_)
        obtain ⟨r_147, rfl, hw⟩ := hw
        obtain ⟨σ_148, rfl⟩ : ∃ z, z = τ_ := ⟨_, rfl⟩
        refine go_aload_n C 2 rfl rfl dL_law_1382 ?_
        refine go_aload_n C 0 rfl rfl dL_law_1383 ?_
        refine go_iload_n C 3 rfl rfl dL_law_1384 ?_
        refine go_iconst (v := 1) C rfl dL_law_1385 ?_
        refine go_iadd C dL_law_1386 ?_
        refine go_sld C hS hw.1 dL_law_1387 ?_
        replace hw := hw.2
        refine go_aload_n C 0 rfl rfl dL_law_1388 ?_
        refine go_iload_n C 3 rfl rfl dL_law_1389 ?_
        refine go_iconst (v := 2) C rfl dL_law_1390 ?_
        refine go_iadd C dL_law_1391 ?_
        refine go_sld C hS hw.1 dL_law_1392 ?_
        replace hw := hw.2
        refine go_callV (as := [.int (xs (v3 + 1).toNatClampNeg), .int (xs (v3 + 2).toNatClampNeg)]) C hR (shX12 G) (ltX12 hN) cwL_150 (Nat.le_trans (by decide) hd) (by decide) rfl rfl (Nat.le_of_ble_eq_true rfl) dL_law_1393 (spX12_turnover (Nat.le_refl _) hN hw) (fun v_ τ_ hw => ?_)
        obtain ⟨r_149, rfl, hw⟩ := hw
        obtain ⟨σ_150, rfl⟩ : ∃ z, z = τ_ := ⟨_, rfl⟩
        refine go_icmp_eq C 1658 rfl dL_law_1396 (fun hc => ?_) (fun hc => ?_)
        · replace hw := hw.1 hc
          obtain ⟨v3_151, ev3_151⟩ : ∃ z : Int32, z = v3 + 7 := ⟨_, rfl⟩
          replace hw := hw v3_151 ev3_151
          refine go_iinc (v := v3_151) (lv2 := [(3, .int v3_151), (0, .ref b), (1, .ref (G.2.2.1 0)), (2, .ref (G.2.2.1 75))]) C 3 rfl (by rw [ev3_151]; rfl) (by rw [hnl]; decide) rfl dL_law_1658 ?_
          refine go_goto C 18 rfl dL_law_1661 ?_
          refine go_sub [1, 2, 3, 0] rfl ?_
          exact ih _ _ hw
        · replace hw := hw.2 hc
          refine go_iconst (v := 0) C rfl dL_law_1399 ?_
          exact hw.elim
      replace hw := hw.2 hc30
      by_cases hc31 : x_1 = 31
      · replace hw := hw.1 hc31
        refine go_tableIn C 1401 (by rw [hc31]; decide) (by rw [hc31]; decide) (by rw [hc31]; rfl) rfl dL_law_33 ?_
        refine go_aload_n C 1 rfl rfl dL_law_1401 ?_
        refine go_aload_n C 0 rfl rfl dL_law_1402 ?_
        refine go_iload_n C 3 rfl rfl dL_law_1403 ?_
        refine go_iconst (v := 1) C rfl dL_law_1404 ?_
        refine go_iadd C dL_law_1405 ?_
        refine go_sld C hS hw.1 dL_law_1406 ?_
        replace hw := hw.2
        refine go_aload_n C 0 rfl rfl dL_law_1407 ?_
        refine go_iload_n C 3 rfl rfl dL_law_1408 ?_
        refine go_iconst (v := 2) C rfl dL_law_1409 ?_
        refine go_iadd C dL_law_1410 ?_
        refine go_sld C hS hw.1 dL_law_1411 ?_
        replace hw := hw.2
        refine go_aload_n C 0 rfl rfl dL_law_1412 ?_
        refine go_iload_n C 3 rfl rfl dL_law_1413 ?_
        refine go_iconst (v := 3) C rfl dL_law_1414 ?_
        refine go_iadd C dL_law_1415 ?_
        refine go_sld C hS hw.1 dL_law_1416 ?_
        replace hw := hw.2
        refine go_aload_n C 0 rfl rfl dL_law_1417 ?_
        refine go_iload_n C 3 rfl rfl dL_law_1418 ?_
        refine go_iconst (v := 4) C rfl dL_law_1419 ?_
        refine go_iadd C dL_law_1420 ?_
        refine go_sld C hS hw.1 dL_law_1421 ?_
        replace hw := hw.2
        refine go_aload_n C 0 rfl rfl dL_law_1422 ?_
        refine go_iload_n C 3 rfl rfl dL_law_1423 ?_
        refine go_iconst (v := 5) C rfl dL_law_1424 ?_
        refine go_iadd C dL_law_1425 ?_
        refine go_sld C hS hw.1 dL_law_1426 ?_
        replace hw := hw.2
        refine go_callV (as := [.int (xs (v3 + 1).toNatClampNeg), .int (xs (v3 + 2).toNatClampNeg), .int (xs (v3 + 3).toNatClampNeg), .int (xs (v3 + 4).toNatClampNeg), .int (xs (v3 + 5).toNatClampNeg)]) C hR (shX11 G) (ltX11 hN1) cwL_151 (Nat.le_trans (by decide) hd) (by decide) rfl rfl (Nat.le_of_ble_eq_true rfl) dL_law_1427 (spX11_print (Nat.le_refl _) hN1 hw) (fun v_ τ_ hw => ?_)
        obtain ⟨r_152, rfl, hw⟩ := hw
        obtain ⟨σ_153, rfl⟩ : ∃ z, z = τ_ := ⟨_, rfl⟩
        refine go_aload_n C 2 rfl rfl dL_law_1430 ?_
        refine go_aload_n C 0 rfl rfl dL_law_1431 ?_
        refine go_iload_n C 3 rfl rfl dL_law_1432 ?_
        refine go_iconst (v := 1) C rfl dL_law_1433 ?_
        refine go_iadd C dL_law_1434 ?_
        refine go_sld C hS hw.1 dL_law_1435 ?_
        replace hw := hw.2
        refine go_aload_n C 0 rfl rfl dL_law_1436 ?_
        refine go_iload_n C 3 rfl rfl dL_law_1437 ?_
        refine go_iconst (v := 2) C rfl dL_law_1438 ?_
        refine go_iadd C dL_law_1439 ?_
        refine go_sld C hS hw.1 dL_law_1440 ?_
        replace hw := hw.2
        refine go_aload_n C 0 rfl rfl dL_law_1441 ?_
        refine go_iload_n C 3 rfl rfl dL_law_1442 ?_
        refine go_iconst (v := 3) C rfl dL_law_1443 ?_
        refine go_iadd C dL_law_1444 ?_
        refine go_sld C hS hw.1 dL_law_1445 ?_
        replace hw := hw.2
        refine go_aload_n C 0 rfl rfl dL_law_1446 ?_
        refine go_iload_n C 3 rfl rfl dL_law_1447 ?_
        refine go_iconst (v := 4) C rfl dL_law_1448 ?_
        refine go_iadd C dL_law_1449 ?_
        refine go_sld C hS hw.1 dL_law_1450 ?_
        replace hw := hw.2
        refine go_aload_n C 0 rfl rfl dL_law_1451 ?_
        refine go_iload_n C 3 rfl rfl dL_law_1452 ?_
        refine go_iconst (v := 5) C rfl dL_law_1453 ?_
        refine go_iadd C dL_law_1454 ?_
        refine go_sld C hS hw.1 dL_law_1455 ?_
        replace hw := hw.2
        refine go_callV (as := [.int (xs (v3 + 1).toNatClampNeg), .int (xs (v3 + 2).toNatClampNeg), .int (xs (v3 + 3).toNatClampNeg), .int (xs (v3 + 4).toNatClampNeg), .int (xs (v3 + 5).toNatClampNeg)]) C hR (shX12 G) (ltX12 hN) cwL_154 (Nat.le_trans (by decide) hd) (by decide) rfl rfl (Nat.le_of_ble_eq_true rfl) dL_law_1456 (spX12_print (Nat.le_refl _) hN hw) (fun v_ τ_ hw => ?_)
        obtain ⟨r_154, rfl, hw⟩ := hw
        obtain ⟨σ_155, rfl⟩ : ∃ z, z = τ_ := ⟨_, rfl⟩
        refine go_icmp_eq C 1658 rfl dL_law_1459 (fun hc => ?_) (fun hc => ?_)
        · replace hw := hw.1 hc
          obtain ⟨v3_156, ev3_156⟩ : ∃ z : Int32, z = v3 + 7 := ⟨_, rfl⟩
          replace hw := hw v3_156 ev3_156
          refine go_iinc (v := v3_156) (lv2 := [(3, .int v3_156), (0, .ref b), (1, .ref (G.2.2.1 0)), (2, .ref (G.2.2.1 75))]) C 3 rfl (by rw [ev3_156]; rfl) (by rw [hnl]; decide) rfl dL_law_1658 ?_
          refine go_goto C 18 rfl dL_law_1661 ?_
          refine go_sub [1, 2, 3, 0] rfl ?_
          exact ih _ _ hw
        · replace hw := hw.2 hc
          refine go_iconst (v := 0) C rfl dL_law_1462 ?_
          exact hw.elim
      replace hw := hw.2 hc31
      by_cases hc32 : x_1 = 32
      · replace hw := hw.1 hc32
        refine go_tableIn C 1464 (by rw [hc32]; decide) (by rw [hc32]; decide) (by rw [hc32]; rfl) rfl dL_law_33 ?_
        refine go_aload_n C 1 rfl rfl dL_law_1464 ?_
        refine go_aload_n C 0 rfl rfl dL_law_1465 ?_
        refine go_iload_n C 3 rfl rfl dL_law_1466 ?_
        refine go_iconst (v := 1) C rfl dL_law_1467 ?_
        refine go_iadd C dL_law_1468 ?_
        refine go_sld C hS hw.1 dL_law_1469 ?_
        replace hw := hw.2
        refine go_aload_n C 0 rfl rfl dL_law_1470 ?_
        refine go_iload_n C 3 rfl rfl dL_law_1471 ?_
        refine go_iconst (v := 2) C rfl dL_law_1472 ?_
        refine go_iadd C dL_law_1473 ?_
        refine go_sld C hS hw.1 dL_law_1474 ?_
        replace hw := hw.2
        refine go_callV (as := [.int (xs (v3 + 1).toNatClampNeg), .int (xs (v3 + 2).toNatClampNeg)]) C hR (shX11 G) (ltX11 hN1) cwL_155 (Nat.le_trans (by decide) hd) (by decide) rfl rfl (Nat.le_of_ble_eq_true rfl) dL_law_1475 (spX11_let (Nat.le_refl _) hN1 hw) (fun v_ τ_ hw => ?_)
        obtain ⟨r_157, rfl, hw⟩ := hw
        obtain ⟨σ_158, rfl⟩ : ∃ z, z = τ_ := ⟨_, rfl⟩
        refine go_aload_n C 2 rfl rfl dL_law_1478 ?_
        refine go_aload_n C 0 rfl rfl dL_law_1479 ?_
        refine go_iload_n C 3 rfl rfl dL_law_1480 ?_
        refine go_iconst (v := 1) C rfl dL_law_1481 ?_
        refine go_iadd C dL_law_1482 ?_
        refine go_sld C hS hw.1 dL_law_1483 ?_
        replace hw := hw.2
        refine go_aload_n C 0 rfl rfl dL_law_1484 ?_
        refine go_iload_n C 3 rfl rfl dL_law_1485 ?_
        refine go_iconst (v := 2) C rfl dL_law_1486 ?_
        refine go_iadd C dL_law_1487 ?_
        refine go_sld C hS hw.1 dL_law_1488 ?_
        replace hw := hw.2
        refine go_callV (as := [.int (xs (v3 + 1).toNatClampNeg), .int (xs (v3 + 2).toNatClampNeg)]) C hR (shX12 G) (ltX12 hN) cwL_158 (Nat.le_trans (by decide) hd) (by decide) rfl rfl (Nat.le_of_ble_eq_true rfl) dL_law_1489 (spX12_let (Nat.le_refl _) hN hw) (fun v_ τ_ hw => ?_)
        obtain ⟨r_159, rfl, hw⟩ := hw
        obtain ⟨σ_160, rfl⟩ : ∃ z, z = τ_ := ⟨_, rfl⟩
        refine go_icmp_eq C 1658 rfl dL_law_1492 (fun hc => ?_) (fun hc => ?_)
        · replace hw := hw.1 hc
          obtain ⟨v3_161, ev3_161⟩ : ∃ z : Int32, z = v3 + 7 := ⟨_, rfl⟩
          replace hw := hw v3_161 ev3_161
          refine go_iinc (v := v3_161) (lv2 := [(3, .int v3_161), (0, .ref b), (1, .ref (G.2.2.1 0)), (2, .ref (G.2.2.1 75))]) C 3 rfl (by rw [ev3_161]; rfl) (by rw [hnl]; decide) rfl dL_law_1658 ?_
          refine go_goto C 18 rfl dL_law_1661 ?_
          refine go_sub [1, 2, 3, 0] rfl ?_
          exact ih _ _ hw
        · replace hw := hw.2 hc
          refine go_iconst (v := 0) C rfl dL_law_1495 ?_
          exact hw.elim
      replace hw := hw.2 hc32
      by_cases hc33 : x_1 = 33
      · replace hw := hw.1 hc33
        refine go_tableIn C 1497 (by rw [hc33]; decide) (by rw [hc33]; decide) (by rw [hc33]; rfl) rfl dL_law_33 ?_
        refine go_aload_n C 1 rfl rfl dL_law_1497 ?_
        refine go_aload_n C 0 rfl rfl dL_law_1498 ?_
        refine go_iload_n C 3 rfl rfl dL_law_1499 ?_
        refine go_iconst (v := 1) C rfl dL_law_1500 ?_
        refine go_iadd C dL_law_1501 ?_
        refine go_sld C hS hw.1 dL_law_1502 ?_
        replace hw := hw.2
        refine go_aload_n C 0 rfl rfl dL_law_1503 ?_
        refine go_iload_n C 3 rfl rfl dL_law_1504 ?_
        refine go_iconst (v := 2) C rfl dL_law_1505 ?_
        refine go_iadd C dL_law_1506 ?_
        refine go_sld C hS hw.1 dL_law_1507 ?_
        replace hw := hw.2
        refine go_aload_n C 0 rfl rfl dL_law_1508 ?_
        refine go_iload_n C 3 rfl rfl dL_law_1509 ?_
        refine go_iconst (v := 3) C rfl dL_law_1510 ?_
        refine go_iadd C dL_law_1511 ?_
        refine go_sld C hS hw.1 dL_law_1512 ?_
        replace hw := hw.2
        refine go_aload_n C 0 rfl rfl dL_law_1513 ?_
        refine go_iload_n C 3 rfl rfl dL_law_1514 ?_
        refine go_iconst (v := 4) C rfl dL_law_1515 ?_
        refine go_iadd C dL_law_1516 ?_
        refine go_sld C hS hw.1 dL_law_1517 ?_
        replace hw := hw.2
        refine go_aload_n C 0 rfl rfl dL_law_1518 ?_
        refine go_iload_n C 3 rfl rfl dL_law_1519 ?_
        refine go_iconst (v := 5) C rfl dL_law_1520 ?_
        refine go_iadd C dL_law_1521 ?_
        refine go_sld C hS hw.1 dL_law_1522 ?_
        replace hw := hw.2
        refine go_if_eq C 1530 rfl dL_law_1523 (fun hc => ?_) (fun hc => ?_)
        · replace hw := hw.1 hc
          refine go_iconst (v := 0) C rfl dL_law_1530 ?_
          exact (gbL_law_1531 C Lw hR hnl hd hN hS ih) _ _ _ _ _ _ _ hw
        · replace hw := hw.2 hc
          refine go_iconst (v := 1) C rfl dL_law_1526 ?_
          refine go_goto C 1531 rfl dL_law_1527 ?_
          exact (gbL_law_1531 C Lw hR hnl hd hN hS ih) _ _ _ _ _ _ _ hw
      replace hw := hw.2 hc33
      by_cases hc34 : x_1 = 34
      · replace hw := hw.1 hc34
        refine go_tableIn C 1576 (by rw [hc34]; decide) (by rw [hc34]; decide) (by rw [hc34]; rfl) rfl dL_law_33 ?_
        refine go_aload_n C 1 rfl rfl dL_law_1576 ?_
        refine go_aload_n C 0 rfl rfl dL_law_1577 ?_
        refine go_iload_n C 3 rfl rfl dL_law_1578 ?_
        refine go_iconst (v := 1) C rfl dL_law_1579 ?_
        refine go_iadd C dL_law_1580 ?_
        refine go_sld C hS hw.1 dL_law_1581 ?_
        replace hw := hw.2
        refine go_aload_n C 0 rfl rfl dL_law_1582 ?_
        refine go_iload_n C 3 rfl rfl dL_law_1583 ?_
        refine go_iconst (v := 2) C rfl dL_law_1584 ?_
        refine go_iadd C dL_law_1585 ?_
        refine go_sld C hS hw.1 dL_law_1586 ?_
        replace hw := hw.2
        refine go_callV (as := [.int (xs (v3 + 1).toNatClampNeg), .int (xs (v3 + 2).toNatClampNeg)]) C hR (shX11 G) (ltX11 hN1) cwL_164 (Nat.le_trans (by decide) hd) (by decide) rfl rfl (Nat.le_of_ble_eq_true rfl) dL_law_1587 (spX11_parts (Nat.le_refl _) hN1 hw) (fun v_ τ_ hw => ?_)
        obtain ⟨r_162, rfl, hw⟩ := hw
        obtain ⟨σ_163, rfl⟩ : ∃ z, z = τ_ := ⟨_, rfl⟩
        refine go_aload_n C 2 rfl rfl dL_law_1590 ?_
        refine go_aload_n C 0 rfl rfl dL_law_1591 ?_
        refine go_iload_n C 3 rfl rfl dL_law_1592 ?_
        refine go_iconst (v := 1) C rfl dL_law_1593 ?_
        refine go_iadd C dL_law_1594 ?_
        refine go_sld C hS hw.1 dL_law_1595 ?_
        replace hw := hw.2
        refine go_aload_n C 0 rfl rfl dL_law_1596 ?_
        refine go_iload_n C 3 rfl rfl dL_law_1597 ?_
        refine go_iconst (v := 2) C rfl dL_law_1598 ?_
        refine go_iadd C dL_law_1599 ?_
        refine go_sld C hS hw.1 dL_law_1600 ?_
        replace hw := hw.2
        refine go_callV (as := [.int (xs (v3 + 1).toNatClampNeg), .int (xs (v3 + 2).toNatClampNeg)]) C hR (shX12 G) (ltX12 hN) cwL_167 (Nat.le_trans (by decide) hd) (by decide) rfl rfl (Nat.le_of_ble_eq_true rfl) dL_law_1601 (spX12_parts (Nat.le_refl _) hN hw) (fun v_ τ_ hw => ?_)
        obtain ⟨r_164, rfl, hw⟩ := hw
        obtain ⟨σ_165, rfl⟩ : ∃ z, z = τ_ := ⟨_, rfl⟩
        refine go_icmp_eq C 1658 rfl dL_law_1604 (fun hc => ?_) (fun hc => ?_)
        · replace hw := hw.1 hc
          obtain ⟨v3_166, ev3_166⟩ : ∃ z : Int32, z = v3 + 7 := ⟨_, rfl⟩
          replace hw := hw v3_166 ev3_166
          refine go_iinc (v := v3_166) (lv2 := [(3, .int v3_166), (0, .ref b), (1, .ref (G.2.2.1 0)), (2, .ref (G.2.2.1 75))]) C 3 rfl (by rw [ev3_166]; rfl) (by rw [hnl]; decide) rfl dL_law_1658 ?_
          refine go_goto C 18 rfl dL_law_1661 ?_
          refine go_sub [1, 2, 3, 0] rfl ?_
          exact ih _ _ hw
        · replace hw := hw.2 hc
          refine go_iconst (v := 0) C rfl dL_law_1607 ?_
          exact hw.elim
      replace hw := hw.2 hc34
      by_cases hc35 : x_1 = 35
      · replace hw := hw.1 hc35
        refine go_tableIn C 1609 (by rw [hc35]; decide) (by rw [hc35]; decide) (by rw [hc35]; rfl) rfl dL_law_33 ?_
        refine go_aload_n C 1 rfl rfl dL_law_1609 ?_
        refine go_callV (as := []) C hR (shX11 G) (ltX11 hN1) cwL_168 (Nat.le_trans (by decide) hd) (by decide) rfl rfl (Nat.le_of_ble_eq_true rfl) dL_law_1610 (spX11_image (Nat.le_refl _) hN1 hw) (fun v_ τ_ hw => ?_)
        obtain ⟨r_167, rfl, hw⟩ := hw
        obtain ⟨σ_168, rfl⟩ : ∃ z, z = τ_ := ⟨_, rfl⟩
        refine go_aload_n C 2 rfl rfl dL_law_1613 ?_
        refine go_callV (as := []) C hR (shX12 G) (ltX12 hN) cwL_171 (Nat.le_trans (by decide) hd) (by decide) rfl rfl (Nat.le_of_ble_eq_true rfl) dL_law_1614 (spX12_image (Nat.le_refl _) hN hw) (fun v_ τ_ hw => ?_)
        obtain ⟨r_169, rfl, hw⟩ := hw
        obtain ⟨σ_170, rfl⟩ : ∃ z, z = τ_ := ⟨_, rfl⟩
        refine go_icmp_eq C 1658 rfl dL_law_1617 (fun hc => ?_) (fun hc => ?_)
        · replace hw := hw.1 hc
          obtain ⟨v3_171, ev3_171⟩ : ∃ z : Int32, z = v3 + 7 := ⟨_, rfl⟩
          replace hw := hw v3_171 ev3_171
          refine go_iinc (v := v3_171) (lv2 := [(3, .int v3_171), (0, .ref b), (1, .ref (G.2.2.1 0)), (2, .ref (G.2.2.1 75))]) C 3 rfl (by rw [ev3_171]; rfl) (by rw [hnl]; decide) rfl dL_law_1658 ?_
          refine go_goto C 18 rfl dL_law_1661 ?_
          refine go_sub [1, 2, 3, 0] rfl ?_
          exact ih _ _ hw
        · replace hw := hw.2 hc
          refine go_iconst (v := 0) C rfl dL_law_1620 ?_
          exact hw.elim
      replace hw := hw.2 hc35
      by_cases hc36 : x_1 = 36
      · replace hw := hw.1 hc36
        refine go_tableIn C 1622 (by rw [hc36]; decide) (by rw [hc36]; decide) (by rw [hc36]; rfl) rfl dL_law_33 ?_
        refine go_aload_n C 1 rfl rfl dL_law_1622 ?_
        refine go_callV (as := []) C hR (shX11 G) (ltX11 hN1) cwL_172 (Nat.le_trans (by decide) hd) (by decide) rfl rfl (Nat.le_of_ble_eq_true rfl) dL_law_1623 (spX11_back (Nat.le_refl _) hN1 hw) (fun v_ τ_ hw => ?_)
        obtain ⟨r_172, rfl, hw⟩ := hw
        obtain ⟨σ_173, rfl⟩ : ∃ z, z = τ_ := ⟨_, rfl⟩
        refine go_aload_n C 2 rfl rfl dL_law_1626 ?_
        refine go_callV (as := []) C hR (shX12 G) (ltX12 hN) cwL_175 (Nat.le_trans (by decide) hd) (by decide) rfl rfl (Nat.le_of_ble_eq_true rfl) dL_law_1627 (spX12_back (Nat.le_refl _) hN hw) (fun v_ τ_ hw => ?_)
        obtain ⟨r_174, rfl, hw⟩ := hw
        obtain ⟨σ_175, rfl⟩ : ∃ z, z = τ_ := ⟨_, rfl⟩
        refine go_icmp_eq C 1658 rfl dL_law_1630 (fun hc => ?_) (fun hc => ?_)
        · replace hw := hw.1 hc
          obtain ⟨v3_176, ev3_176⟩ : ∃ z : Int32, z = v3 + 7 := ⟨_, rfl⟩
          replace hw := hw v3_176 ev3_176
          refine go_iinc (v := v3_176) (lv2 := [(3, .int v3_176), (0, .ref b), (1, .ref (G.2.2.1 0)), (2, .ref (G.2.2.1 75))]) C 3 rfl (by rw [ev3_176]; rfl) (by rw [hnl]; decide) rfl dL_law_1658 ?_
          refine go_goto C 18 rfl dL_law_1661 ?_
          refine go_sub [1, 2, 3, 0] rfl ?_
          exact ih _ _ hw
        · replace hw := hw.2 hc
          refine go_iconst (v := 0) C rfl dL_law_1633 ?_
          exact hw.elim
      replace hw := hw.2 hc36
      by_cases hc37 : x_1 = 37
      · replace hw := hw.1 hc37
        refine go_tableIn C 1635 (by rw [hc37]; decide) (by rw [hc37]; decide) (by rw [hc37]; rfl) rfl dL_law_33 ?_
        refine go_aload_n C 1 rfl rfl dL_law_1635 ?_
        refine go_aload_n C 0 rfl rfl dL_law_1636 ?_
        refine go_iload_n C 3 rfl rfl dL_law_1637 ?_
        refine go_iconst (v := 1) C rfl dL_law_1638 ?_
        refine go_iadd C dL_law_1639 ?_
        refine go_sld C hS hw.1 dL_law_1640 ?_
        replace hw := hw.2
        refine go_callV (as := [.int (xs (v3 + 1).toNatClampNeg)]) C hR (shX11 G) (ltX11 hN1) cwL_176 (Nat.le_trans (by decide) hd) (by decide) rfl rfl (Nat.le_of_ble_eq_true rfl) dL_law_1641 (spX11_about (Nat.le_refl _) hN1 hw) (fun v_ τ_ hw => ?_)
        obtain ⟨r_177, rfl, hw⟩ := hw
        obtain ⟨σ_178, rfl⟩ : ∃ z, z = τ_ := ⟨_, rfl⟩
        refine go_aload_n C 2 rfl rfl dL_law_1644 ?_
        refine go_aload_n C 0 rfl rfl dL_law_1645 ?_
        refine go_iload_n C 3 rfl rfl dL_law_1646 ?_
        refine go_iconst (v := 1) C rfl dL_law_1647 ?_
        refine go_iadd C dL_law_1648 ?_
        refine go_sld C hS hw.1 dL_law_1649 ?_
        replace hw := hw.2
        refine go_callV (as := [.int (xs (v3 + 1).toNatClampNeg)]) C hR (shX12 G) (ltX12 hN) cwL_179 (Nat.le_trans (by decide) hd) (by decide) rfl rfl (Nat.le_of_ble_eq_true rfl) dL_law_1650 (spX12_about (Nat.le_refl _) hN hw) (fun v_ τ_ hw => ?_)
        obtain ⟨r_179, rfl, hw⟩ := hw
        obtain ⟨σ_180, rfl⟩ : ∃ z, z = τ_ := ⟨_, rfl⟩
        refine go_icmp_eq C 1658 rfl dL_law_1653 (fun hc => ?_) (fun hc => ?_)
        · replace hw := hw.1 hc
          obtain ⟨v3_181, ev3_181⟩ : ∃ z : Int32, z = v3 + 7 := ⟨_, rfl⟩
          replace hw := hw v3_181 ev3_181
          refine go_iinc (v := v3_181) (lv2 := [(3, .int v3_181), (0, .ref b), (1, .ref (G.2.2.1 0)), (2, .ref (G.2.2.1 75))]) C 3 rfl (by rw [ev3_181]; rfl) (by rw [hnl]; decide) rfl dL_law_1658 ?_
          refine go_goto C 18 rfl dL_law_1661 ?_
          refine go_sub [1, 2, 3, 0] rfl ?_
          exact ih _ _ hw
        · replace hw := hw.2 hc
          refine go_iconst (v := 0) C rfl dL_law_1656 ?_
          exact hw.elim
      replace hw := hw.2 hc37
      refine go_tableOut C 1658 (by have g0 := lv_neT hc0 (show (0 : Int32).toInt = 0 from rfl); have g1 := lv_neT hc1 (show (1 : Int32).toInt = 1 from rfl); have g2 := lv_neT hc2 (show (2 : Int32).toInt = 2 from rfl); have g3 := lv_neT hc3 (show (3 : Int32).toInt = 3 from rfl); have g4 := lv_neT hc4 (show (4 : Int32).toInt = 4 from rfl); have g5 := lv_neT hc5 (show (5 : Int32).toInt = 5 from rfl); have g6 := lv_neT hc6 (show (6 : Int32).toInt = 6 from rfl); have g7 := lv_neT hc7 (show (7 : Int32).toInt = 7 from rfl); have g8 := lv_neT hc8 (show (8 : Int32).toInt = 8 from rfl); have g9 := lv_neT hc9 (show (9 : Int32).toInt = 9 from rfl); have g10 := lv_neT hc10 (show (10 : Int32).toInt = 10 from rfl); have g11 := lv_neT hc11 (show (11 : Int32).toInt = 11 from rfl); have g12 := lv_neT hc12 (show (12 : Int32).toInt = 12 from rfl); have g13 := lv_neT hc13 (show (13 : Int32).toInt = 13 from rfl); have g14 := lv_neT hc14 (show (14 : Int32).toInt = 14 from rfl); have g15 := lv_neT hc15 (show (15 : Int32).toInt = 15 from rfl); have g16 := lv_neT hc16 (show (16 : Int32).toInt = 16 from rfl); have g17 := lv_neT hc17 (show (17 : Int32).toInt = 17 from rfl); have g18 := lv_neT hc18 (show (18 : Int32).toInt = 18 from rfl); have g19 := lv_neT hc19 (show (19 : Int32).toInt = 19 from rfl); have g20 := lv_neT hc20 (show (20 : Int32).toInt = 20 from rfl); have g21 := lv_neT hc21 (show (21 : Int32).toInt = 21 from rfl); have g22 := lv_neT hc22 (show (22 : Int32).toInt = 22 from rfl); have g23 := lv_neT hc23 (show (23 : Int32).toInt = 23 from rfl); have g24 := lv_neT hc24 (show (24 : Int32).toInt = 24 from rfl); have g25 := lv_neT hc25 (show (25 : Int32).toInt = 25 from rfl); have g26 := lv_neT hc26 (show (26 : Int32).toInt = 26 from rfl); have g27 := lv_neT hc27 (show (27 : Int32).toInt = 27 from rfl); have g28 := lv_neT hc28 (show (28 : Int32).toInt = 28 from rfl); have g29 := lv_neT hc29 (show (29 : Int32).toInt = 29 from rfl); have g30 := lv_neT hc30 (show (30 : Int32).toInt = 30 from rfl); have g31 := lv_neT hc31 (show (31 : Int32).toInt = 31 from rfl); have g32 := lv_neT hc32 (show (32 : Int32).toInt = 32 from rfl); have g33 := lv_neT hc33 (show (33 : Int32).toInt = 33 from rfl); have g34 := lv_neT hc34 (show (34 : Int32).toInt = 34 from rfl); have g35 := lv_neT hc35 (show (35 : Int32).toInt = 35 from rfl); have g36 := lv_neT hc36 (show (36 : Int32).toInt = 36 from rfl); have g37 := lv_neT hc37 (show (37 : Int32).toInt = 37 from rfl); omega) rfl dL_law_33 ?_
      obtain ⟨v3_182, ev3_182⟩ : ∃ z : Int32, z = v3 + 7 := ⟨_, rfl⟩
      replace hw := hw v3_182 ev3_182
      refine go_iinc (v := v3_182) (lv2 := [(3, .int v3_182), (0, .ref b), (1, .ref (G.2.2.1 0)), (2, .ref (G.2.2.1 75))]) C 3 rfl (by rw [ev3_182]; rfl) (by rw [hnl]; decide) rfl dL_law_1658 ?_
      refine go_goto C 18 rfl dL_law_1661 ?_
      refine go_sub [1, 2, 3, 0] rfl ?_
      exact ih _ _ hw
