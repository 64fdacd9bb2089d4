def wpX12_best  (a1 : Int32) (a2 : Int32) (a3 : Int32) (a4 : Int32) (σ : St) (post : Int32 → St → Prop) : Prop :=
  wpX12_isCradle a1 a2 a3 σ (fun r_1 σ_2 =>
  ((r_1 = 0 →
    post (-1) σ_2) ∧
  (¬ r_1 = 0 →
    wpX12_in a4 0 1 σ_2 (fun r_3 σ_4 =>
    ((r_3 = 0 →
      post (-1) σ_4) ∧
    (¬ r_3 = 0 →
      vp_in 0 9680 ∧ (
      (((gI σ_4 76 (0 : Int32).toNatClampNeg) = 0 →
        post (-1) σ_4) ∧
      (¬ (gI σ_4 76 (0 : Int32).toNatClampNeg) = 0 →
        vp_in 0 9680 ∧ (
        (((gI σ_4 76 (0 : Int32).toNatClampNeg) = 61 →
          post (-1) σ_4) ∧
        (¬ (gI σ_4 76 (0 : Int32).toNatClampNeg) = 61 →
          vp_in (7 + a2) 9680 ∧ (
          ((¬ (gI σ_4 76 (7 + a2).toNatClampNeg) = (-1) →
            wpX12_laysNow  σ_4 (fun σ_6 =>
            ∃ m_70, wbX12_best_70 post m_70 a1 a2 a3 a4 (-1) 0 0 0 σ_6)) ∧
          ((gI σ_4 76 (7 + a2).toNatClampNeg) = (-1) →
            post (-1) σ_4)))))))))))))))
-- CradleNamesModel.age(III)I
def wbX12_age_168  (K149 : Int32 → Int32 → Int32 → Int32 → Int32 → Int32 → Int32 → Int32 → St → Prop) (post : Int32 → St → Prop) : Nat → Int32 → Int32 → Int32 → Int32 → Int32 → Int32 → Int32 → Int32 → Int32 → Int32 → St → Prop
  | 0, _, _, _, _, _, _, _, _, _, _, _ => False
  | n + 1, v1, v2, v3, v4, v5, v6, v7, v8, v9, v10, σ =>
    (((v8 + v7) ≤ v10 →
      (((100 * v9) < (v2 * v6) →
        ∀ v8_1 : Int32, v8_1 = v8 + 1 →
        K149 v1 v2 v3 v4 v5 v6 v7 v8_1 σ) ∧
      (¬ (100 * v9) < (v2 * v6) →
        ((¬ v3 = 0 →
          post ((v8 + v7) - 1) σ) ∧
        (v3 = 0 →
          post v8 σ))))) ∧
    (¬ (v8 + v7) ≤ v10 →
      wpX12_all v10 v1 σ (fun r_2 σ_3 =>
      ∀ v9_4 : Int32, v9_4 = (v9 + r_2) →
      ∀ v10_5 : Int32, v10_5 = v10 + 1 →
      wbX12_age_168 K149 post n v1 v2 v3 v4 v5 v6 v7 v8 v9_4 v10_5 σ_3)))
def wbX12_age_149  (K133 : Int32 → Int32 → Int32 → Int32 → Int32 → Int32 → Int32 → St → Prop) (post : Int32 → St → Prop) : Nat → Int32 → Int32 → Int32 → Int32 → Int32 → Int32 → Int32 → Int32 → St → Prop
  | 0, _, _, _, _, _, _, _, _, _ => False
  | n + 1, v1, v2, v3, v4, v5, v6, v7, v8, σ =>
    ((v4 < ((v8 + v7) - 1) →
      ∀ v7_1 : Int32, v7_1 = v7 + 1 →
      K133 v1 v2 v3 v4 v5 v6 v7_1 σ) ∧
    (¬ v4 < ((v8 + v7) - 1) →
      ∃ m_168, wbX12_age_168 (wbX12_age_149 K133 post n) post m_168 v1 v2 v3 v4 v5 v6 v7 v8 0 v8 σ))
def wbX12_age_100   (post : Int32 → St → Prop) : Nat → Int32 → Int32 → Int32 → Int32 → St → Prop
  | 0, _, _, _, _, _ => False
  | n + 1, v1, v6, v7, v8, σ =>
    ((v6 ≤ (2 * v8) →
      post v7 σ) ∧
    (¬ v6 ≤ (2 * v8) →
      ∀ v7_1 : Int32, v7_1 = v7 + 1 →
      wpX12_all v7_1 v1 σ (fun r_2 σ_3 =>
      ∀ v8_4 : Int32, v8_4 = (v8 + r_2) →
      wbX12_age_100 post n v1 v6 v7_1 v8_4 σ_3)))
def wbX12_age_133   (post : Int32 → St → Prop) : Nat → Int32 → Int32 → Int32 → Int32 → Int32 → Int32 → Int32 → St → Prop
  | 0, _, _, _, _, _, _, _, _ => False
  | n + 1, v1, v2, v3, v4, v5, v6, v7, σ =>
    ((((v4 - v5) + 1) < v7 →
      post (-1000) σ) ∧
    (¬ ((v4 - v5) + 1) < v7 →
      ∃ m_149, wbX12_age_149 (wbX12_age_133 post n) post m_149 v1 v2 v3 v4 v5 v6 v7 v5 σ))
def wpX12_age  (a1 : Int32) (a2 : Int32) (a3 : Int32) (σ : St) (post : Int32 → St → Prop) : Prop :=
  wpX12_isName a1 σ (fun r_1 σ_2 =>
  ((r_1 = 0 →
    post (-1000) σ_2) ∧
  (¬ r_1 = 0 →
    wpX12_in a2 1 100 σ_2 (fun r_3 σ_4 =>
    ((r_3 = 0 →
      post (-1000) σ_4) ∧
    (¬ r_3 = 0 →
      wpX12_in a3 0 2 σ_4 (fun r_5 σ_6 =>
      ((¬ r_5 = 0 →
        wpX12_runsAll  σ_6 (fun σ_8 =>
        vp_in 0 9680 ∧ (
        ∀ v4_9 : Int32, v4_9 = ((gI σ_8 76 (0 : Int32).toNatClampNeg) - 1) →
        vp_in 6 9680 ∧ (
        wpX12_greater (-40) ((v4_9 - (gI σ_8 76 (6 : Int32).toNatClampNeg)) + 1) σ_8 (fun r_10 σ_11 =>
        wpX12_living a1 v4_9 σ_11 (fun r_12 σ_13 =>
        ((¬ r_12 = 0 →
          ((¬ a3 = 2 →
            ∃ m_133, wbX12_age_133 post m_133 a1 a2 a3 v4_9 r_10 r_12 1 σ_13) ∧
          (a3 = 2 →
            wpX12_all r_10 a1 σ_13 (fun r_14 σ_15 =>
            ∃ m_100, wbX12_age_100 post m_100 a1 r_12 r_10 r_14 σ_15)))) ∧
        (r_12 = 0 →
          post (-1000) σ_13)))))))) ∧
      (r_5 = 0 →
        post (-1000) σ_6)))))))))
-- CradleNamesModel.livingIn(II)J
def wbX12_livingIn_64  (K41 : Int32 → Int32 → Int64 → Int32 → Int32 → Int32 → St → Prop) (post : Int64 → St → Prop) (v1 : Int32) (v2 : Int32) (v5 : Int32) (v6 : Int32) (v7 : Int32) (s0 : Int64) (σ : St) : Prop :=
  vp_in (((48 * (v6 + 40)) + (16 * v1)) + v7) 4848 ∧ (
  ∀ v3_1 : Int64, v3_1 = (s0 + (gI σ 100 (((48 * (v6 + 40)) + (16 * v1)) + v7).toNatClampNeg).toInt64) →
  ∀ v7_2 : Int32, v7_2 = v7 + 1 →
  K41 v1 v2 v3_1 v5 v6 v7_2 σ)
def wbX12_livingIn_41  (K31 : Int32 → Int32 → Int64 → Int32 → Int32 → St → Prop) (post : Int64 → St → Prop) : Nat → Int32 → Int32 → Int64 → Int32 → Int32 → Int32 → St → Prop
  | 0, _, _, _, _, _, _, _ => False
  | n + 1, v1, v2, v3, v5, v6, v7, σ =>
    vp_in 1 9680 ∧ (
    (((gI σ 76 (1 : Int32).toNatClampNeg) ≤ v7 →
      ∀ v6_1 : Int32, v6_1 = v6 + 1 →
      K31 v1 v2 v3 v5 v6_1 σ) ∧
    (¬ (gI σ 76 (1 : Int32).toNatClampNeg) ≤ v7 →
      ((v2 = (-1) →
        wbX12_livingIn_64 (wbX12_livingIn_41 K31 post n) post v1 v2 v5 v6 v7 v3 σ) ∧
      (¬ v2 = (-1) →
        ((¬ v2 = v7 →
          ∀ v3_2 : Int64, v3_2 = (v3 + 0) →
          ∀ v7_3 : Int32, v7_3 = v7 + 1 →
          wbX12_livingIn_41 K31 post n v1 v2 v3_2 v5 v6 v7_3 σ) ∧
        (v2 = v7 →
          wbX12_livingIn_64 (wbX12_livingIn_41 K31 post n) post v1 v2 v5 v6 v7 v3 σ)))))))
def wbX12_livingIn_31   (post : Int64 → St → Prop) : Nat → Int32 → Int32 → Int64 → Int32 → Int32 → St → Prop
  | 0, _, _, _, _, _, _ => False
  | n + 1, v1, v2, v3, v5, v6, σ =>
    ((v5 < v6 →
      post v3 σ) ∧
    (¬ v5 < v6 →
      ∃ m_41, wbX12_livingIn_41 (wbX12_livingIn_31 post n) post m_41 v1 v2 v3 v5 v6 0 σ))
def wpX12_livingIn  (a1 : Int32) (a2 : Int32) (σ : St) (post : Int64 → St → Prop) : Prop :=
  vp_in 0 9680 ∧ (
  ∀ v5_1 : Int32, v5_1 = ((gI σ 76 (0 : Int32).toNatClampNeg) - 1) →
  vp_in 6 9680 ∧ (
  wpX12_greater (-40) ((v5_1 - (gI σ 76 (6 : Int32).toNatClampNeg)) + 1) σ (fun r_2 σ_3 =>
  ∃ m_31, wbX12_livingIn_31 post m_31 a1 a2 0 v5_1 r_2 σ_3)))
-- CradleNamesModel.guess(I)I
def wbX12_guess_18   (post : Int32 → St → Prop) : Nat → Int32 → Int32 → Int32 → St → Prop
  | 0, _, _, _, _ => False
  | n + 1, v1, v2, v3, σ =>
    ((3 ≤ v3 →
      post v2 σ) ∧
    (¬ 3 ≤ v3 →
      wpX12_livingIn v3 v1 σ (fun r_1 σ_2 =>
      ((r_1 ≤ 0 →
        ∀ v3_3 : Int32, v3_3 = v3 + 1 →
        wbX12_guess_18 post n v1 v2 v3_3 σ_2) ∧
      (¬ r_1 ≤ 0 →
        ((v2 = (-1) →
          ∀ v3_4 : Int32, v3_4 = v3 + 1 →
          wbX12_guess_18 post n v1 v3 v3_4 σ_2) ∧
        (¬ v2 = (-1) →
          wpX12_livingIn v2 (-1) σ_2 (fun r_5 σ_6 =>
          wpX12_livingIn v2 v1 σ_6 (fun r_7 σ_8 =>
          wpX12_livingIn v3 (-1) σ_8 (fun r_9 σ_10 =>
          (((r_1 * r_5) ≤ (r_7 * r_9) →
            ∀ v3_11 : Int32, v3_11 = v3 + 1 →
            wbX12_guess_18 post n v1 v2 v3_11 σ_10) ∧
          (¬ (r_1 * r_5) ≤ (r_7 * r_9) →
            ∀ v3_12 : Int32, v3_12 = v3 + 1 →
            wbX12_guess_18 post n v1 v3 v3_12 σ_10))))))))))))
def wpX12_guess  (a1 : Int32) (σ : St) (post : Int32 → St → Prop) : Prop :=
  wpX12_isName a1 σ (fun r_1 σ_2 =>
  ((¬ r_1 = 0 →
    wpX12_runsAll  σ_2 (fun σ_4 =>
    ∃ m_18, wbX12_guess_18 post m_18 a1 (-1) 0 σ_4)) ∧
  (r_1 = 0 →
    post (-1) σ_2)))
-- CradleNamesModel.adds(III)V
def wbX12_adds_68  (K14 : Int32 → Int32 → Int32 → Int64 → Int32 → St → Prop) (post : St → Prop) (v2 : Int32) (v3 : Int32) (v4 : Int32) (v7 : Int32) (s0 : Int64) (s1 : Int64) (σ : St) : Prop :=
  ∀ v8_1 : Int64, v8_1 = (s1 + s0) →
  vp_in ((30 * v4) + v7) 2400 ∧ (
  ∀ σ_2 : St, σ_2 = sL σ 114 ((30 * v4) + v7).toNatClampNeg (v8_1 - v8_1 / 1000000000 * 1000000000) →
  ∀ v5_3 : Int64, v5_3 = (v8_1 / 1000000000) →
  ∀ v7_4 : Int32, v7_4 = v7 + 1 →
  K14 v2 v3 v4 v5_3 v7_4 σ_2)
def wbX12_adds_14  (K3 : Int32 → Int32 → Int32 → St → Prop) (post : St → Prop) : Nat → Int32 → Int32 → Int32 → Int64 → Int32 → St → Prop
  | 0, _, _, _, _, _, _ => False
  | n + 1, v2, v3, v4, v5, v7, σ =>
    ((30 ≤ v7 →
      ∀ v4_1 : Int32, v4_1 = v4 + (-1) →
      K3 v2 v3 v4_1 σ) ∧
    (¬ 30 ≤ v7 →
      vp_in ((30 * v4) + v7) 2400 ∧ (
      ((v4 ≤ 0 →
        wbX12_adds_68 (wbX12_adds_14 K3 post n) post v2 v3 v4 v7 0 (((gL σ 114 ((30 * v4) + v7).toNatClampNeg) * v3.toInt64) + v5) σ) ∧
      (¬ v4 ≤ 0 →
        vp_in (((30 * v4) - 30) + v7) 2400 ∧ (
        wbX12_adds_68 (wbX12_adds_14 K3 post n) post v2 v3 v4 v7 ((gL σ 114 (((30 * v4) - 30) + v7).toNatClampNeg) * v2.toInt64) (((gL σ 114 ((30 * v4) + v7).toNatClampNeg) * v3.toInt64) + v5) σ))))))
def wbX12_adds_3   (post : St → Prop) : Nat → Int32 → Int32 → Int32 → St → Prop
  | 0, _, _, _, _ => False
  | n + 1, v2, v3, v4, σ =>
    ((v4 < 0 →
      post σ) ∧
    (¬ v4 < 0 →
      ∃ m_14, wbX12_adds_14 (wbX12_adds_3 post n) post m_14 v2 v3 v4 0 0 σ))
def wpX12_adds  (a1 : Int32) (a2 : Int32) (a3 : Int32) (σ : St) (post : St → Prop) : Prop :=
  ∃ m_3, wbX12_adds_3 post m_3 a2 a3 a1 σ
-- CradleNamesModel.sums(II)V
def wbX12_sums_34  (K23 : Int32 → Int32 → St → Prop) (post : St → Prop) : Nat → Int32 → Int32 → Int64 → Int32 → St → Prop
  | 0, _, _, _, _, _ => False
  | n + 1, v2, v3, v4, v6, σ =>
    ((30 ≤ v6 →
      ∀ v3_1 : Int32, v3_1 = v3 + 1 →
      K23 v2 v3_1 σ) ∧
    (¬ 30 ≤ v6 →
      vp_in v6 30 ∧ (
      vp_in ((30 * v3) + v6) 2400 ∧ (
      ∀ v7_2 : Int64, v7_2 = (((gL σ 115 v6.toNatClampNeg) + (gL σ 114 ((30 * v3) + v6).toNatClampNeg)) + v4) →
      vp_in v6 30 ∧ (
      ∀ σ_3 : St, σ_3 = sL σ 115 v6.toNatClampNeg (v7_2 - v7_2 / 1000000000 * 1000000000) →
      ∀ v4_4 : Int64, v4_4 = (v7_2 / 1000000000) →
      ∀ v6_5 : Int32, v6_5 = v6 + 1 →
      wbX12_sums_34 K23 post n v2 v3 v4_4 v6_5 σ_3)))))
def wbX12_sums_23   (post : St → Prop) : Nat → Int32 → Int32 → St → Prop
  | 0, _, _, _ => False
  | n + 1, v2, v3, σ =>
    ((v2 < v3 →
      post σ) ∧
    (¬ v2 < v3 →
      ∃ m_34, wbX12_sums_34 (wbX12_sums_23 post n) post m_34 v2 v3 0 0 σ))
def wbX12_sums_2   (post : St → Prop) : Nat → Int32 → Int32 → Int32 → St → Prop
  | 0, _, _, _, _ => False
  | n + 1, v1, v2, v3, σ =>
    ((30 ≤ v3 →
      ∃ m_23, wbX12_sums_23 post m_23 v2 v1 σ) ∧
    (¬ 30 ≤ v3 →
      vp_in v3 30 ∧ (
      ∀ σ_1 : St, σ_1 = sL σ 115 v3.toNatClampNeg 0 →
      ∀ v3_2 : Int32, v3_2 = v3 + 1 →
      wbX12_sums_2 post n v1 v2 v3_2 σ_1)))
def wpX12_sums  (a1 : Int32) (a2 : Int32) (σ : St) (post : St → Prop) : Prop :=
  ∃ m_2, wbX12_sums_2 post m_2 a1 a2 0 σ
-- CradleNamesModel.isRare(I)Z
def wbX12_isRare_56   (post : Int32 → St → Prop) : Nat → Int32 → St → Prop
  | 0, _, _ => False
  | n + 1, v4, σ =>
    ((v4 < 0 →
      post 1 σ) ∧
    (¬ v4 < 0 →
      vp_in v4 30 ∧ (
      vp_in v4 30 ∧ (
      (((gL σ 115 v4.toNatClampNeg) = (gL σ 116 v4.toNatClampNeg) →
        ∀ v4_1 : Int32, v4_1 = v4 + (-1) →
        wbX12_isRare_56 post n v4_1 σ) ∧
      (¬ (gL σ 115 v4.toNatClampNeg) = (gL σ 116 v4.toNatClampNeg) →
        vp_in v4 30 ∧ (
        vp_in v4 30 ∧ (
        (((gL σ 116 v4.toNatClampNeg) ≤ (gL σ 115 v4.toNatClampNeg) →
          post 0 σ) ∧
        (¬ (gL σ 116 v4.toNatClampNeg) ≤ (gL σ 115 v4.toNatClampNeg) →
          post 1 σ))))))))))
def wbX12_isRare_5   (post : Int32 → St → Prop) : Nat → Int32 → Int64 → Int32 → St → Prop
  | 0, _, _, _, _ => False
  | n + 1, v1, v2, v4, σ =>
    ((30 ≤ v4 →
      ∃ m_56, wbX12_isRare_56 post m_56 29 σ) ∧
    (¬ 30 ≤ v4 →
      vp_in v4 30 ∧ (
      ∀ v5_1 : Int64, v5_1 = (((gL σ 115 v4.toNatClampNeg) * v1.toInt64) + v2) →
      vp_in v4 30 ∧ (
      ∀ σ_2 : St, σ_2 = sL σ 115 v4.toNatClampNeg (v5_1 - v5_1 / 1000000000 * 1000000000) →
      ∀ v2_3 : Int64, v2_3 = (v5_1 / 1000000000) →
      ∀ v4_4 : Int32, v4_4 = v4 + 1 →
      wbX12_isRare_5 post n v1 v2_3 v4_4 σ_2))))
def wpX12_isRare  (a1 : Int32) (σ : St) (post : Int32 → St → Prop) : Prop :=
  ∃ m_5, wbX12_isRare_5 post m_5 a1 0 0 σ
-- CradleNamesModel.chanceOf(III)I
def wbX12_chanceOf_105   (post : Int32 → St → Prop) : Nat → Int32 → Int32 → Int32 → Int32 → St → Prop
  | 0, _, _, _, _, _ => False
  | n + 1, v3, v4, v7, v8, σ =>
    ((30 ≤ v8 →
      wpX12_sums v7 v4 σ (fun σ_2 =>
      wpX12_isRare v3 σ_2 (fun r_3 σ_4 =>
      ((r_3 = 0 →
        wpX12_sums 0 v7 σ_4 (fun σ_6 =>
        wpX12_isRare v3 σ_6 (fun r_7 σ_8 =>
        ((r_7 = 0 →
          post 0 σ_8) ∧
        (¬ r_7 = 0 →
          post 2 σ_8))))) ∧
      (¬ r_3 = 0 →
        post 1 σ_4))))) ∧
    (¬ 30 ≤ v8 →
      vp_in v8 30 ∧ (
      vp_in v8 30 ∧ (
      ∀ σ_9 : St, σ_9 = sL σ 116 v8.toNatClampNeg (gL σ 115 v8.toNatClampNeg) →
      ∀ v8_10 : Int32, v8_10 = v8 + 1 →
      wbX12_chanceOf_105 post n v3 v4 v7 v8_10 σ_9))))
def wbX12_chanceOf_69   (post : Int32 → St → Prop) : Nat → Int32 → Int32 → Int32 → Int32 → Int32 → Int32 → St → Prop
  | 0, _, _, _, _, _, _, _ => False
  | n + 1, v3, v4, v5, v6, v7, v8, σ =>
    ((v4 < v8 →
      wpX12_sums 0 v4 σ (fun σ_2 =>
      ∃ m_105, wbX12_chanceOf_105 post m_105 v3 v4 v7 0 σ_2)) ∧
    (¬ v4 < v8 →
      wpX12_adds v8 v6 (v5 - v6) σ (fun σ_4 =>
      ∀ v8_5 : Int32, v8_5 = v8 + 1 →
      wbX12_chanceOf_69 post n v3 v4 v5 v6 v7 v8_5 σ_4)))
def wbX12_chanceOf_37   (post : Int32 → St → Prop) : Nat → Int32 → Int32 → Int32 → Int32 → Int32 → Int32 → St → Prop
  | 0, _, _, _, _, _, _, _ => False
  | n + 1, v3, v4, v5, v6, v7, v8, σ =>
    ((2400 ≤ v8 →
      vp_in 0 2400 ∧ (
      ∀ σ_1 : St, σ_1 = sL σ 114 (0 : Int32).toNatClampNeg 1 →
      ∃ m_69, wbX12_chanceOf_69 post m_69 v3 v4 v5 v6 v7 1 σ_1)) ∧
    (¬ 2400 ≤ v8 →
      vp_in v8 2400 ∧ (
      ∀ σ_2 : St, σ_2 = sL σ 114 v8.toNatClampNeg 0 →
      ∀ v8_3 : Int32, v8_3 = v8 + 1 →
      wbX12_chanceOf_37 post n v3 v4 v5 v6 v7 v8_3 σ_2)))
def wpX12_chanceOf  (a1 : Int32) (a2 : Int32) (a3 : Int32) (σ : St) (post : Int32 → St → Prop) : Prop :=
  wpX12_allOf a2 σ (fun r_1 σ_2 =>
  wpX12_allOf (a2 - 1) σ_2 (fun r_3 σ_4 =>
  wpX12_all (a2 - 1) a1 σ_4 (fun r_5 σ_6 =>
  wpX12_all a2 a1 σ_6 (fun r_7 σ_8 =>
  ∃ m_37, wbX12_chanceOf_37 post m_37 a3 r_1 r_3 r_5 r_7 0 σ_8))))
-- CradleNamesModel.chance(III)I
def wbX12_chance_85   (post : Int32 → St → Prop) : Nat → Int32 → Int32 → Int32 → Int32 → St → Prop
  | 0, _, _, _, _, _ => False
  | n + 1, v2, v3, v4, v5, σ =>
    vp_in 1 9680 ∧ (
    (((gI σ 76 (1 : Int32).toNatClampNeg) ≤ v5 →
      post v4 σ) ∧
    (¬ (gI σ 76 (1 : Int32).toNatClampNeg) ≤ v5 →
      wpX12_chanceOf v5 v2 v3 σ (fun r_1 σ_2 =>
      ((r_1 ≤ 0 →
        ∀ v4_3 : Int32, v4_3 = (v4 + 0) →
        ∀ v5_4 : Int32, v5_4 = v5 + 1 →
        wbX12_chance_85 post n v2 v3 v4_3 v5_4 σ_2) ∧
      (¬ r_1 ≤ 0 →
        ∀ v4_5 : Int32, v4_5 = (v4 + 1) →
        ∀ v5_6 : Int32, v5_6 = v5 + 1 →
        wbX12_chance_85 post n v2 v3 v4_5 v5_6 σ_2))))))
def wbX12_chance_13   (post : Int32 → St → Prop) (v1 : Int32) (v2 : Int32) (v3 : Int32) (σ : St) : Prop :=
  vp_in 0 9680 ∧ (
  wpX12_in v2 1 ((gI σ 76 (0 : Int32).toNatClampNeg) - 1) σ (fun r_1 σ_2 =>
  ((r_1 = 0 →
    post (-1) σ_2) ∧
  (¬ r_1 = 0 →
    wpX12_in v3 2 1000000 σ_2 (fun r_3 σ_4 =>
    ((¬ r_3 = 0 →
      wpX12_runsAll  σ_4 (fun σ_6 =>
      wpX12_allOf v2 σ_6 (fun r_7 σ_8 =>
      ((r_7 = 0 →
        post (-1) σ_8) ∧
      (¬ r_7 = 0 →
        wpX12_allOf (v2 - 1) σ_8 (fun r_9 σ_10 =>
        ((¬ r_9 = 0 →
          ((v1 = (-1) →
            ∃ m_85, wbX12_chance_85 post m_85 v2 v3 0 0 σ_10) ∧
          (¬ v1 = (-1) →
            wpX12_chanceOf v1 v2 v3 σ_10 (fun r_11 σ_12 =>
            post r_11 σ_12)))) ∧
        (r_9 = 0 →
          post (-1) σ_10)))))))) ∧
    (r_3 = 0 →
      post (-1) σ_4)))))))
def wpX12_chance  (a1 : Int32) (a2 : Int32) (a3 : Int32) (σ : St) (post : Int32 → St → Prop) : Prop :=
  ((a1 = (-1) →
    wbX12_chance_13 post a1 a2 a3 σ) ∧
  (¬ a1 = (-1) →
    wpX12_isName a1 σ (fun r_1 σ_2 =>
    ((r_1 = 0 →
      post (-1) σ_2) ∧
    (¬ r_1 = 0 →
      wbX12_chance_13 post a1 a2 a3 σ_2)))))
-- CradleNamesModel.aheadOf(II)I
def wbX12_aheadOf_5   (post : Int32 → St → Prop) : Nat → Int32 → Int32 → Int32 → Int32 → St → Prop
  | 0, _, _, _, _, _ => False
  | n + 1, v1, v2, v3, v4, σ =>
    vp_in 1 9680 ∧ (
    (((gI σ 76 (1 : Int32).toNatClampNeg) ≤ v4 →
      post v3 σ) ∧
    (¬ (gI σ 76 (1 : Int32).toNatClampNeg) ≤ v4 →
      wpX12_all v1 v4 σ (fun r_1 σ_2 =>
      wpX12_all v1 v2 σ_2 (fun r_3 σ_4 =>
      ((r_3 < r_1 →
        ∀ v3_5 : Int32, v3_5 = (v3 + 1) →
        ∀ v4_6 : Int32, v4_6 = v4 + 1 →
        wbX12_aheadOf_5 post n v1 v2 v3_5 v4_6 σ_4) ∧
      (¬ r_3 < r_1 →
        wpX12_all v1 v4 σ_4 (fun r_7 σ_8 =>
        wpX12_all v1 v2 σ_8 (fun r_9 σ_10 =>
        ((¬ r_7 = r_9 →
          ∀ v3_11 : Int32, v3_11 = (v3 + 0) →
          ∀ v4_12 : Int32, v4_12 = v4 + 1 →
          wbX12_aheadOf_5 post n v1 v2 v3_11 v4_12 σ_10) ∧
        (r_7 = r_9 →
          ((v2 ≤ v4 →
            ∀ v3_13 : Int32, v3_13 = (v3 + 0) →
            ∀ v4_14 : Int32, v4_14 = v4 + 1 →
            wbX12_aheadOf_5 post n v1 v2 v3_13 v4_14 σ_10) ∧
          (¬ v2 ≤ v4 →
            ∀ v3_15 : Int32, v3_15 = (v3 + 1) →
            ∀ v4_16 : Int32, v4_16 = v4 + 1 →
            wbX12_aheadOf_5 post n v1 v2 v3_15 v4_16 σ_10)))))))))))))
def wpX12_aheadOf  (a1 : Int32) (a2 : Int32) (σ : St) (post : Int32 → St → Prop) : Prop :=
  ∃ m_5, wbX12_aheadOf_5 post m_5 a1 a2 0 0 σ
-- CradleNamesModel.turnover(II)I
def wbX12_turnover_98  (K29 : Int32 → Int32 → Int32 → Int32 → St → Prop) (post : Int32 → St → Prop) (v1 : Int32) (v2 : Int32) (v3 : Int32) (v4 : Int32) (v5 : Int32) (s0 : Int32) (σ : St) : Prop :=
  ((v5 = 0 →
    ∀ v3_1 : Int32, v3_1 = (v3 + 0) →
    ∀ v4_2 : Int32, v4_2 = v4 + 1 →
    K29 v1 v2 v3_1 v4_2 σ) ∧
  (¬ v5 = 0 →
    ((¬ s0 = 0 →
      ∀ v3_3 : Int32, v3_3 = (v3 + 0) →
      ∀ v4_4 : Int32, v4_4 = v4 + 1 →
      K29 v1 v2 v3_3 v4_4 σ) ∧
    (s0 = 0 →
      ∀ v3_5 : Int32, v3_5 = (v3 + 1) →
      ∀ v4_6 : Int32, v4_6 = v4 + 1 →
      K29 v1 v2 v3_5 v4_6 σ))))
def wbX12_turnover_66  (K29 : Int32 → Int32 → Int32 → Int32 → St → Prop) (post : Int32 → St → Prop) (v1 : Int32) (v2 : Int32) (v3 : Int32) (v4 : Int32) (s0 : Int32) (σ : St) : Prop :=
  wpX12_all (v1 - 1) v4 σ (fun r_1 σ_2 =>
  ((r_1 ≤ 0 →
    wbX12_turnover_98 K29 post v1 v2 v3 v4 s0 0 σ_2) ∧
  (¬ r_1 ≤ 0 →
    wpX12_aheadOf (v1 - 1) v4 σ_2 (fun r_3 σ_4 =>
    ((v2 ≤ r_3 →
      wbX12_turnover_98 K29 post v1 v2 v3 v4 s0 0 σ_4) ∧
    (¬ v2 ≤ r_3 →
      wbX12_turnover_98 K29 post v1 v2 v3 v4 s0 1 σ_4))))))
def wbX12_turnover_29   (post : Int32 → St → Prop) : Nat → Int32 → Int32 → Int32 → Int32 → St → Prop
  | 0, _, _, _, _, _ => False
  | n + 1, v1, v2, v3, v4, σ =>
    vp_in 1 9680 ∧ (
    (((gI σ 76 (1 : Int32).toNatClampNeg) ≤ v4 →
      post v3 σ) ∧
    (¬ (gI σ 76 (1 : Int32).toNatClampNeg) ≤ v4 →
      wpX12_all v1 v4 σ (fun r_1 σ_2 =>
      ((r_1 ≤ 0 →
        wbX12_turnover_66 (wbX12_turnover_29 post n) post v1 v2 v3 v4 0 σ_2) ∧
      (¬ r_1 ≤ 0 →
        wpX12_aheadOf v1 v4 σ_2 (fun r_3 σ_4 =>
        ((v2 ≤ r_3 →
          wbX12_turnover_66 (wbX12_turnover_29 post n) post v1 v2 v3 v4 0 σ_4) ∧
        (¬ v2 ≤ r_3 →
          wbX12_turnover_66 (wbX12_turnover_29 post n) post v1 v2 v3 v4 1 σ_4)))))))))
def wpX12_turnover  (a1 : Int32) (a2 : Int32) (σ : St) (post : Int32 → St → Prop) : Prop :=
  wpX12_isGone a1 σ (fun r_1 σ_2 =>
  ((r_1 = 0 →
    post (-1) σ_2) ∧
  (¬ r_1 = 0 →
    wpX12_in a2 1 16 σ_2 (fun r_3 σ_4 =>
    ((¬ r_3 = 0 →
      wpX12_runsAll  σ_4 (fun σ_6 =>
      ∃ m_29, wbX12_turnover_29 post m_29 a1 a2 0 0 σ_6)) ∧
    (r_3 = 0 →
      post (-1) σ_4))))))
-- CradleNamesModel.print(IIIII)I
def wpX12_print  (a1 : Int32) (a2 : Int32) (a3 : Int32) (a4 : Int32) (a5 : Int32) (σ : St) (post : Int32 → St → Prop) : Prop :=
  wpX12_in a1 0 60 σ (fun r_1 σ_2 =>
  ((r_1 = 0 →
    post (-1) σ_2) ∧
  (¬ r_1 = 0 →
    wpX12_in a2 0 2 σ_2 (fun r_3 σ_4 =>
    ((r_3 = 0 →
      post (-1) σ_4) ∧
    (¬ r_3 = 0 →
      wpX12_in a3 0 1 σ_4 (fun r_5 σ_6 =>
      ((r_5 = 0 →
        post (-1) σ_6) ∧
      (¬ r_5 = 0 →
        wpX12_isName a4 σ_6 (fun r_7 σ_8 =>
        ((r_7 = 0 →
          post (-1) σ_8) ∧
        (¬ r_7 = 0 →
          wpX12_in a5 0 99 σ_8 (fun r_9 σ_10 =>
          ((r_9 = 0 →
            post (-1) σ_10) ∧
          (¬ r_9 = 0 →
            vp_in 5 9680 ∧ (
            ((¬ (gI σ_10 76 (5 : Int32).toNatClampNeg) = 150 →
              vp_in 5 9680 ∧ (
              ∀ v6_11 : Int32, v6_11 = (100 + (6 * (gI σ_10 76 (5 : Int32).toNatClampNeg))) →
              vp_in v6_11 9680 ∧ (
              ∀ σ_12 : St, σ_12 = sI σ_10 76 v6_11.toNatClampNeg a1 →
              vp_in (v6_11 + 1) 9680 ∧ (
              ∀ σ_13 : St, σ_13 = sI σ_12 76 (v6_11 + 1).toNatClampNeg a2 →
              vp_in (v6_11 + 2) 9680 ∧ (
              ∀ σ_14 : St, σ_14 = sI σ_13 76 (v6_11 + 2).toNatClampNeg a3 →
              vp_in (v6_11 + 3) 9680 ∧ (
              ∀ σ_15 : St, σ_15 = sI σ_14 76 (v6_11 + 3).toNatClampNeg a4 →
              vp_in (v6_11 + 4) 9680 ∧ (
              ∀ σ_16 : St, σ_16 = sI σ_15 76 (v6_11 + 4).toNatClampNeg a5 →
              vp_in 0 9680 ∧ (
              vp_in (v6_11 + 5) 9680 ∧ (
              ∀ σ_17 : St, σ_17 = sI σ_16 76 (v6_11 + 5).toNatClampNeg (gI σ_16 76 (0 : Int32).toNatClampNeg) →
              vp_in 5 9680 ∧ (
              vp_in 5 9680 ∧ (
              ∀ σ_18 : St, σ_18 = sI σ_17 76 (5 : Int32).toNatClampNeg ((gI σ_17 76 (5 : Int32).toNatClampNeg) + 1) →
              vp_in 5 9680 ∧ (
              post (gI σ_18 76 (5 : Int32).toNatClampNeg) σ_18)))))))))))) ∧
            ((gI σ_10 76 (5 : Int32).toNatClampNeg) = 150 →
              post (-1) σ_10))))))))))))))))))
-- CradleNamesModel.isLet(II)Z
def wbX12_isLet_77   (post : Int32 → St → Prop) : Nat → Int32 → Int32 → Int32 → St → Prop
  | 0, _, _, _, _ => False
  | n + 1, v2, v4, v5, σ =>
    vp_in 5 9680 ∧ (
    (((gI σ 76 (5 : Int32).toNatClampNeg) ≤ v5 →
      (v4 = 0 ∨ v4 = 1) ∧ post v4 σ) ∧
    (¬ (gI σ 76 (5 : Int32).toNatClampNeg) ≤ v5 →
      ((v4 = 0 →
        (v4 = 0 ∨ v4 = 1) ∧ post v4 σ) ∧
      (¬ v4 = 0 →
        ∀ v6_1 : Int32, v6_1 = (100 + (6 * v5)) →
        vp_in (v6_1 + 5) 9680 ∧ (
        ((v2 < (gI σ 76 (v6_1 + 5).toNatClampNeg) →
          ∀ v5_2 : Int32, v5_2 = v5 + 1 →
          wbX12_isLet_77 post n v2 1 v5_2 σ) ∧
        (¬ v2 < (gI σ 76 (v6_1 + 5).toNatClampNeg) →
          vp_in v6_1 9680 ∧ (
          vp_in (v6_1 + 1) 9680 ∧ (
          vp_in (v6_1 + 2) 9680 ∧ (
          vp_in (v6_1 + 3) 9680 ∧ (
          wpX12_sumOf (gI σ 76 v6_1.toNatClampNeg) (gI σ 76 (v6_1 + 1).toNatClampNeg) (-1) (gI σ 76 (v6_1 + 2).toNatClampNeg) (gI σ 76 (v6_1 + 3).toNatClampNeg) σ (fun r_3 σ_4 =>
          vp_in (v6_1 + 4) 9680 ∧ (
          ((¬ r_3 = (gI σ_4 76 (v6_1 + 4).toNatClampNeg) →
            ∀ v5_5 : Int32, v5_5 = v5 + 1 →
            wbX12_isLet_77 post n v2 0 v5_5 σ_4) ∧
          (r_3 = (gI σ_4 76 (v6_1 + 4).toNatClampNeg) →
            ∀ v5_6 : Int32, v5_6 = v5 + 1 →
            wbX12_isLet_77 post n v2 1 v5_6 σ_4))))))))))))))))
def wbX12_isLet_5   (post : Int32 → St → Prop) : Nat → Int32 → Int32 → Int32 → Int32 → St → Prop
  | 0, _, _, _, _, _ => False
  | n + 1, v1, v2, v3, v4, σ =>
    vp_in 5 9680 ∧ (
    (((gI σ 76 (5 : Int32).toNatClampNeg) ≤ v4 →
      wpX12_runs (v3 + 1) (-1) 0 v1 σ (fun σ_2 =>
      ∃ m_77, wbX12_isLet_77 post m_77 v2 1 0 σ_2)) ∧
    (¬ (gI σ 76 (5 : Int32).toNatClampNeg) ≤ v4 →
      ∀ v5_3 : Int32, v5_3 = (100 + (6 * v4)) →
      vp_in (v5_3 + 5) 9680 ∧ (
      ((v2 < (gI σ 76 (v5_3 + 5).toNatClampNeg) →
        ∀ v4_4 : Int32, v4_4 = v4 + 1 →
        wbX12_isLet_5 post n v1 v2 v3 v4_4 σ) ∧
      (¬ v2 < (gI σ 76 (v5_3 + 5).toNatClampNeg) →
        vp_in v5_3 9680 ∧ (
        wpX12_greater v3 (gI σ 76 v5_3.toNatClampNeg) σ (fun r_5 σ_6 =>
        ∀ v4_7 : Int32, v4_7 = v4 + 1 →
        wbX12_isLet_5 post n v1 v2 r_5 v4_7 σ_6))))))))
def wpX12_isLet  (a1 : Int32) (a2 : Int32) (σ : St) (post : Int32 → St → Prop) : Prop :=
  ∃ m_5, wbX12_isLet_5 post m_5 a1 a2 (-1) 0 σ
-- CradleNamesModel.let(II)I
def wbX12_let_53  (K30 : Int32 → Int32 → Int32 → Int32 → St → Prop) (post : Int32 → St → Prop) (v1 : Int32) (v2 : Int32) (v4 : Int32) (s0 : Int32) (σ : St) : Prop :=
  wpX12_isLet v4 v2 σ (fun r_1 σ_2 =>
  ((r_1 = 0 →
    ∀ v3_3 : Int32, v3_3 = (s0 + 0) →
    ∀ v4_4 : Int32, v4_4 = v4 + 1 →
    K30 v1 v2 v3_3 v4_4 σ_2) ∧
  (¬ r_1 = 0 →
    ∀ v3_5 : Int32, v3_5 = (s0 + 1) →
    ∀ v4_6 : Int32, v4_6 = v4 + 1 →
    K30 v1 v2 v3_5 v4_6 σ_2)))
def wbX12_let_30   (post : Int32 → St → Prop) : Nat → Int32 → Int32 → Int32 → Int32 → St → Prop
  | 0, _, _, _, _, _ => False
  | n + 1, v1, v2, v3, v4, σ =>
    vp_in 4 9680 ∧ (
    (((gI σ 76 (4 : Int32).toNatClampNeg) ≤ v4 →
      post v3 σ) ∧
    (¬ (gI σ 76 (4 : Int32).toNatClampNeg) ≤ v4 →
      ((v1 = (-1) →
        wbX12_let_53 (wbX12_let_30 post n) post v1 v2 v4 v3 σ) ∧
      (¬ v1 = (-1) →
        ((¬ v1 = v4 →
          ∀ v3_1 : Int32, v3_1 = (v3 + 0) →
          ∀ v4_2 : Int32, v4_2 = v4 + 1 →
          wbX12_let_30 post n v1 v2 v3_1 v4_2 σ) ∧
        (v1 = v4 →
          wbX12_let_53 (wbX12_let_30 post n) post v1 v2 v4 v3 σ)))))))
def wbX12_let_13   (post : Int32 → St → Prop) (v1 : Int32) (v2 : Int32) (σ : St) : Prop :=
  wpX12_in v2 0 61 σ (fun r_1 σ_2 =>
  ((¬ r_1 = 0 →
    ∃ m_30, wbX12_let_30 post m_30 v1 v2 0 0 σ_2) ∧
  (r_1 = 0 →
    post (-1) σ_2)))
def wpX12_let  (a1 : Int32) (a2 : Int32) (σ : St) (post : Int32 → St → Prop) : Prop :=
  ((a1 = (-1) →
    wbX12_let_13 post a1 a2 σ) ∧
  (¬ a1 = (-1) →
    wpX12_isTaste a1 σ (fun r_1 σ_2 =>
    ((r_1 = 0 →
      post (-1) σ_2) ∧
    (¬ r_1 = 0 →
      wbX12_let_13 post a1 a2 σ_2)))))
-- CradleNamesModel.span(IIIIZ)I
def wbX12_span_115  (K48 : Int32 → Int32 → Int32 → Int32 → Int32 → Int32 → Int32 → Int32 → St → Prop) (post : Int32 → St → Prop) (v1 : Int32) (v2 : Int32) (v3 : Int32) (v4 : Int32) (v5 : Int32) (v7 : Int32) (v8 : Int32) (v9 : Int32) (s0 : Int32) (σ : St) : Prop :=
  wpX12_greater v7 v9 σ (fun r_1 σ_2 =>
  ∀ v8_3 : Int32, v8_3 = v8 + 1 →
  K48 v1 v2 v3 v4 v5 s0 r_1 v8_3 σ_2)
def wbX12_span_48   (post : Int32 → St → Prop) : Nat → Int32 → Int32 → Int32 → Int32 → Int32 → Int32 → Int32 → Int32 → St → Prop
  | 0, _, _, _, _, _, _, _, _, _ => False
  | n + 1, v1, v2, v3, v4, v5, v6, v7, v8, σ =>
    vp_in 4 9680 ∧ (
    (((gI σ 76 (4 : Int32).toNatClampNeg) ≤ v8 →
      ((v5 = 0 →
        post v6 σ) ∧
      (¬ v5 = 0 →
        post v7 σ))) ∧
    (¬ (gI σ 76 (4 : Int32).toNatClampNeg) ≤ v8 →
      vp_in 0 9680 ∧ (
      wpX12_isLet v8 (gI σ 76 (0 : Int32).toNatClampNeg) σ (fun r_1 σ_2 =>
      ((r_1 = 0 →
        ∀ v8_3 : Int32, v8_3 = v8 + 1 →
        wbX12_span_48 post n v1 v2 v3 v4 v5 v6 v7 v8_3 σ_2) ∧
      (¬ r_1 = 0 →
        wpX12_runs (v1 + 1) (-1) 0 v8 σ_2 (fun σ_5 =>
        wpX12_sumOf v1 v2 (-1) v3 v4 σ_5 (fun r_6 σ_7 =>
        ((¬ v6 = (-1) →
          wpX12_lesser v6 r_6 σ_7 (fun r_8 σ_9 =>
          wbX12_span_115 (wbX12_span_48 post n) post v1 v2 v3 v4 v5 v7 v8 r_6 r_8 σ_9)) ∧
        (v6 = (-1) →
          wbX12_span_115 (wbX12_span_48 post n) post v1 v2 v3 v4 v5 v7 v8 r_6 r_6 σ_7)))))))))))
def wpX12_span  (a1 : Int32) (a2 : Int32) (a3 : Int32) (a4 : Int32) (a5 : Int32) (σ : St) (post : Int32 → St → Prop) : Prop :=
  wpX12_in a1 0 60 σ (fun r_1 σ_2 =>
  ((r_1 = 0 →
    post (-1) σ_2) ∧
  (¬ r_1 = 0 →
    wpX12_in a2 0 2 σ_2 (fun r_3 σ_4 =>
    ((r_3 = 0 →
      post (-1) σ_4) ∧
    (¬ r_3 = 0 →
      wpX12_in a3 0 1 σ_4 (fun r_5 σ_6 =>
      ((r_5 = 0 →
        post (-1) σ_6) ∧
      (¬ r_5 = 0 →
        wpX12_isName a4 σ_6 (fun r_7 σ_8 =>
        ((¬ r_7 = 0 →
          ∃ m_48, wbX12_span_48 post m_48 a1 a2 a3 a4 a5 (-1) (-1) 0 σ_8) ∧
        (r_7 = 0 →
          post (-1) σ_8))))))))))))
-- CradleNamesModel.parts(II)I
def wbX12_parts_143  (K66 : Int32 → Int32 → Int32 → Int32 → Int32 → St → Prop) (post : Int32 → St → Prop) (v1 : Int32) (v2 : Int32) (v3 : Int32) (v4 : Int32) (v5 : Int32) (v6 : Int32) (s0 : Int32) (s1 : Int32) (σ : St) : Prop :=
  vp_in s1 96 ∧ (
  ∀ σ_1 : St, σ_1 = sI σ 117 s1.toNatClampNeg s0 →
  ((v3 = 0 →
    vp_in v5 96 ∧ (
    ∀ σ_2 : St, σ_2 = sI σ_1 118 v5.toNatClampNeg v6 →
    ∀ v5_3 : Int32, v5_3 = v5 + 1 →
    K66 v1 v2 v3 v4 v5_3 σ_2)) ∧
  (¬ v3 = 0 →
    vp_in v5 96 ∧ (
    wpX12_greater (gI σ_1 118 v5.toNatClampNeg) v6 σ_1 (fun r_4 σ_5 =>
    vp_in v5 96 ∧ (
    ∀ σ_6 : St, σ_6 = sI σ_5 118 v5.toNatClampNeg r_4 →
    ∀ v5_7 : Int32, v5_7 = v5 + 1 →
    K66 v1 v2 v3 v4 v5_7 σ_6))))))
def wbX12_parts_114  (K66 : Int32 → Int32 → Int32 → Int32 → Int32 → St → Prop) (post : Int32 → St → Prop) (v1 : Int32) (v2 : Int32) (v3 : Int32) (v4 : Int32) (v5 : Int32) (s0 : Int32) (σ : St) : Prop :=
  ((v3 = 0 →
    wbX12_parts_143 K66 post v1 v2 v3 v4 v5 s0 s0 v5 σ) ∧
  (¬ v3 = 0 →
    vp_in v5 96 ∧ (
    wpX12_lesser (gI σ 117 v5.toNatClampNeg) s0 σ (fun r_1 σ_2 =>
    wbX12_parts_143 K66 post v1 v2 v3 v4 v5 s0 r_1 v5 σ_2))))
def wbX12_parts_253   (post : Int32 → St → Prop) (v2 : Int32) (v4 : Int32) (v5 : Int32) (σ : St) : Prop :=
  ((¬ v4 = (-1) →
    ((¬ v2 = 0 →
      ((¬ v2 = 1 →
        ((¬ v2 = 2 →
          post v5 σ) ∧
        (v2 = 2 →
          post (v4 - v4 / 16 * 16) σ))) ∧
      (v2 = 1 →
        post ((v4 / 16) - (v4 / 16) / 2 * 2) σ))) ∧
    (v2 = 0 →
      post (v4 / 32) σ))) ∧
  (v4 = (-1) →
    post (-1) σ))
def wbX12_parts_66  (K26 : Int32 → Int32 → Int32 → Int32 → St → Prop) (post : Int32 → St → Prop) : Nat → Int32 → Int32 → Int32 → Int32 → Int32 → St → Prop
  | 0, _, _, _, _, _, _ => False
  | n + 1, v1, v2, v3, v4, v5, σ =>
    ((96 ≤ v5 →
      ∀ v4_1 : Int32, v4_1 = v4 + 1 →
      K26 v1 v2 1 v4_1 σ) ∧
    (¬ 96 ≤ v5 →
      vp_in 1 9680 ∧ (
      (((gI σ 76 (1 : Int32).toNatClampNeg) ≤ (v5 - v5 / 16 * 16) →
        wbX12_parts_114 (wbX12_parts_66 K26 post n) post v1 v2 v3 v4 v5 0 σ) ∧
      (¬ (gI σ 76 (1 : Int32).toNatClampNeg) ≤ (v5 - v5 / 16 * 16) →
        wpX12_sumOf v1 (v5 / 32) (-1) ((v5 / 16) - (v5 / 16) / 2 * 2) (v5 - v5 / 16 * 16) σ (fun r_2 σ_3 =>
        wbX12_parts_114 (wbX12_parts_66 K26 post n) post v1 v2 v3 v4 v5 r_2 σ_3))))))
def wbX12_parts_195   (post : Int32 → St → Prop) : Nat → Int32 → Int32 → Int32 → Int32 → Int32 → St → Prop
  | 0, _, _, _, _, _, _ => False
  | n + 1, v2, v3, v4, v5, v6, σ =>
    ((96 ≤ v6 →
      wbX12_parts_253 post v2 v4 v5 σ) ∧
    (¬ 96 ≤ v6 →
      ((v3 = 0 →
        wbX12_parts_253 post v2 v4 v5 σ) ∧
      (¬ v3 = 0 →
        vp_in v6 96 ∧ (
        vp_in v6 96 ∧ (
        ((((gI σ 118 v6.toNatClampNeg) - (gI σ 117 v6.toNatClampNeg)) ≤ v5 →
          ∀ v6_1 : Int32, v6_1 = v6 + 1 →
          wbX12_parts_195 post n v2 v3 v4 v5 v6_1 σ) ∧
        (¬ ((gI σ 118 v6.toNatClampNeg) - (gI σ 117 v6.toNatClampNeg)) ≤ v5 →
          vp_in v6 96 ∧ (
          vp_in v6 96 ∧ (
          ∀ v5_2 : Int32, v5_2 = ((gI σ 118 v6.toNatClampNeg) - (gI σ 117 v6.toNatClampNeg)) →
          ∀ v6_3 : Int32, v6_3 = v6 + 1 →
          wbX12_parts_195 post n v2 v3 v6 v5_2 v6_3 σ))))))))))
def wbX12_parts_26   (post : Int32 → St → Prop) : Nat → Int32 → Int32 → Int32 → Int32 → St → Prop
  | 0, _, _, _, _, _ => False
  | n + 1, v1, v2, v3, v4, σ =>
    vp_in 4 9680 ∧ (
    (((gI σ 76 (4 : Int32).toNatClampNeg) ≤ v4 →
      ∃ m_195, wbX12_parts_195 post m_195 v2 v3 (-1) 0 0 σ) ∧
    (¬ (gI σ 76 (4 : Int32).toNatClampNeg) ≤ v4 →
      vp_in 0 9680 ∧ (
      wpX12_isLet v4 (gI σ 76 (0 : Int32).toNatClampNeg) σ (fun r_1 σ_2 =>
      ((r_1 = 0 →
        ∀ v4_3 : Int32, v4_3 = v4 + 1 →
        wbX12_parts_26 post n v1 v2 v3 v4_3 σ_2) ∧
      (¬ r_1 = 0 →
        wpX12_runs (v1 + 1) (-1) 0 v4 σ_2 (fun σ_5 =>
        ∃ m_66, wbX12_parts_66 (wbX12_parts_26 post n) post m_66 v1 v2 v3 v4 0 σ_5))))))))
def wpX12_parts  (a1 : Int32) (a2 : Int32) (σ : St) (post : Int32 → St → Prop) : Prop :=
  wpX12_in a1 0 60 σ (fun r_1 σ_2 =>
  ((r_1 = 0 →
    post (-1) σ_2) ∧
  (¬ r_1 = 0 →
    wpX12_in a2 0 3 σ_2 (fun r_3 σ_4 =>
    ((¬ r_3 = 0 →
      ∃ m_26, wbX12_parts_26 post m_26 a1 a2 0 0 σ_4) ∧
    (r_3 = 0 →
      post (-1) σ_4))))))
-- CradleNamesModel.image()I
def wpX12_image   (σ : St) (post : Int32 → St → Prop) : Prop :=
  wpX12_copies 1 σ (fun σ_2 =>
  vp_in 0 9680 ∧ (
  post (gI σ_2 76 (0 : Int32).toNatClampNeg) σ_2))
-- CradleNamesModel.back()I
def wpX12_back   (σ : St) (post : Int32 → St → Prop) : Prop :=
  wpX12_copies 0 σ (fun σ_2 =>
  vp_in 0 9680 ∧ (
  post (gI σ_2 76 (0 : Int32).toNatClampNeg) σ_2))
-- CradleNamesModel.about(I)I
def wpX12_about  (a1 : Int32) (σ : St) (post : Int32 → St → Prop) : Prop :=
  ((a1 = 0 →
    vp_in 0 9680 ∧ (
    post (gI σ 76 (0 : Int32).toNatClampNeg) σ)) ∧
  (¬ a1 = 0 →
  ((a1 = 1 →
    vp_in 1 9680 ∧ (
    post (gI σ 76 (1 : Int32).toNatClampNeg) σ)) ∧
  (¬ a1 = 1 →
  ((a1 = 2 →
    vp_in 2 9680 ∧ (
    post (gI σ 76 (2 : Int32).toNatClampNeg) σ)) ∧
  (¬ a1 = 2 →
  ((a1 = 3 →
    vp_in 3 9680 ∧ (
    post (gI σ 76 (3 : Int32).toNatClampNeg) σ)) ∧
  (¬ a1 = 3 →
  ((a1 = 4 →
    vp_in 4 9680 ∧ (
    post (gI σ 76 (4 : Int32).toNatClampNeg) σ)) ∧
  (¬ a1 = 4 →
  ((a1 = 5 →
    vp_in 5 9680 ∧ (
    post (gI σ 76 (5 : Int32).toNatClampNeg) σ)) ∧
  (¬ a1 = 5 →
  ((a1 = 6 →
    post (gI σ 75 4) σ) ∧
  (¬ a1 = 6 →
  ((a1 = 7 →
    vp_in 6 9680 ∧ (
    post (gI σ 76 (6 : Int32).toNatClampNeg) σ)) ∧
  (¬ a1 = 7 →
  wpX12_in a1 10 11 σ (fun r_1 σ_2 =>
  ((r_1 = 0 →
    wpX12_in a1 20 31 σ_2 (fun r_3 σ_4 =>
    ((r_3 = 0 →
      post (-1) σ_4) ∧
    (¬ r_3 = 0 →
      vp_in ((10 + a1) - 20) 9680 ∧ (
      post (gI σ_4 76 ((10 + a1) - 20).toNatClampNeg) σ_4))))) ∧
  (¬ r_1 = 0 →
    vp_in ((7 + a1) - 10) 9680 ∧ (
    post (gI σ_2 76 ((7 + a1) - 10).toNatClampNeg) σ_2))))))))))))))))))))
