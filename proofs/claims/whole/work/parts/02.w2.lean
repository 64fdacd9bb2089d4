def wbX10_findThousandths_38  (K2 : Int32 → St → Prop) (post : St → Prop) : Nat → Int32 → Int32 → Int32 → Int32 → St → Prop
  | 0, _, _, _, _, _ => False
  | n + 1, v1, v2, v3, v4, σ =>
    ((16 ≤ v4 →
      ∀ v1_1 : Int32, v1_1 = v1 + 1 →
      K2 v1_1 σ) ∧
    (¬ 16 ≤ v4 →
      ∀ v5_2 : Int32, v5_2 = ((v1 * 16) + v4) →
      ((¬ v2 = 0 →
        wpX0_between 0 3 v4 v1 v1 σ (fun r_3 σ_4 =>
        ¬ v2 = 0 ∧ (
        wbX10_findThousandths_86 (wbX10_findThousandths_38 K2 post n) post v1 v2 v3 v4 v5_2 ((r_3 * 1000) / v2) v5_2 σ_4))) ∧
      (v2 = 0 →
        wbX10_findThousandths_86 (wbX10_findThousandths_38 K2 post n) post v1 v2 v3 v4 v5_2 0 v5_2 σ))))
def wbX10_findThousandths_2   (post : St → Prop) : Nat → Int32 → St → Prop
  | 0, _, _ => False
  | n + 1, v1, σ =>
    (((gI σ 9 0) ≤ v1 →
      post σ) ∧
    (¬ (gI σ 9 0) ≤ v1 →
      wpX0_groupTotal 0 3 v1 v1 σ (fun r_1 σ_2 =>
      wpX0_groupTotal 0 4 v1 v1 σ_2 (fun r_3 σ_4 =>
      ∃ m_38, wbX10_findThousandths_38 (wbX10_findThousandths_2 post n) post m_38 v1 r_1 r_3 0 σ_4))))
def wpX10_findThousandths   (σ : St) (post : St → Prop) : Prop :=
  ∃ m_2, wbX10_findThousandths_2 post m_2 0 σ
-- CradleNames$Trails.apartBy(I)I
def wbX10_apartBy_25   (post : Int32 → St → Prop) : Nat → Int32 → Int32 → Int32 → Int32 → St → Prop
  | 0, _, _, _, _, _ => False
  | n + 1, v1, v2, v3, v4, σ =>
    (((v2 * 16) ≤ v4 →
      ¬ v2 = 0 ∧ (
      post (v3 / v2) σ)) ∧
    (¬ (v2 * 16) ≤ v4 →
      vp_in v4 976 ∧ (
      vp_in ((v1 * 16) + v4) 976 ∧ (
      ∀ v3_1 : Int32, v3_1 = (v3 + (if 0 ≤ ((gI σ 55 v4.toNatClampNeg) - (gI σ 56 ((v1 * 16) + v4).toNatClampNeg)) then ((gI σ 55 v4.toNatClampNeg) - (gI σ 56 ((v1 * 16) + v4).toNatClampNeg)) else 0 - ((gI σ 55 v4.toNatClampNeg) - (gI σ 56 ((v1 * 16) + v4).toNatClampNeg)))) →
      ∀ v4_2 : Int32, v4_2 = v4 + 1 →
      wbX10_apartBy_25 post n v1 v2 v3_1 v4_2 σ))))
def wpX10_apartBy  (a1 : Int32) (σ : St) (post : Int32 → St → Prop) : Prop :=
  ∀ v2_1 : Int32, v2_1 = ((gI σ 9 0) - a1) →
  ((v2_1 ≤ 0 →
    post (-1) σ) ∧
  (¬ v2_1 ≤ 0 →
    ((0 ≤ a1 →
      ∃ m_25, wbX10_apartBy_25 post m_25 a1 v2_1 0 0 σ) ∧
    (¬ 0 ≤ a1 →
      post (-1) σ))))
-- CradleNames$Trails.leastLag()I
def wbX10_leastLag_6   (post : Int32 → St → Prop) : Nat → Int32 → Int32 → Int32 → St → Prop
  | 0, _, _, _, _ => False
  | n + 1, v1, v2, v3, σ =>
    ((20 < v3 →
      post v1 σ) ∧
    (¬ 20 < v3 →
      (((gI σ 9 0) ≤ v3 →
        post v1 σ) ∧
      (¬ (gI σ 9 0) ≤ v3 →
        wpX10_apartBy v3 σ (fun r_1 σ_2 =>
        ((v1 = (-1) →
          ∀ v3_3 : Int32, v3_3 = v3 + 1 →
          wbX10_leastLag_6 post n v3 r_1 v3_3 σ_2) ∧
        (¬ v1 = (-1) →
          ((v2 ≤ r_1 →
            ∀ v3_4 : Int32, v3_4 = v3 + 1 →
            wbX10_leastLag_6 post n v1 v2 v3_4 σ_2) ∧
          (¬ v2 ≤ r_1 →
            ∀ v3_5 : Int32, v3_5 = v3 + 1 →
            wbX10_leastLag_6 post n v3 r_1 v3_5 σ_2)))))))))
def wpX10_leastLag   (σ : St) (post : Int32 → St → Prop) : Prop :=
  ∃ m_6, wbX10_leastLag_6 post m_6 (-1) 0 0 σ
-- CradleNames$Trails.risenOfEnding(II)I
def wbX10_risenOfEnding_5   (post : Int32 → St → Prop) : Nat → Int32 → Int32 → Int32 → Int32 → St → Prop
  | 0, _, _, _, _, _ => False
  | n + 1, v1, v2, v3, v4, σ =>
    (((gI σ 1 0) ≤ v4 →
      post v3 σ) ∧
    (¬ (gI σ 1 0) ≤ v4 →
      wpX5_sameEnding v4 v1 σ (fun r_1 σ_2 =>
      ((r_1 = 0 →
        ∀ v4_3 : Int32, v4_3 = v4 + 1 →
        wbX10_risenOfEnding_5 post n v1 v2 v3 v4_3 σ_2) ∧
      (¬ r_1 = 0 →
        wpX10_in v4 v2 σ_2 (fun r_4 σ_5 =>
        wpX10_in v4 (v2 - 1) σ_5 (fun r_6 σ_7 =>
        ((r_4 ≤ r_6 →
          ∀ v4_8 : Int32, v4_8 = v4 + 1 →
          wbX10_risenOfEnding_5 post n v1 v2 v3 v4_8 σ_7) ∧
        (¬ r_4 ≤ r_6 →
          ∀ v3_9 : Int32, v3_9 = v3 + 1 →
          ∀ v4_10 : Int32, v4_10 = v4 + 1 →
          wbX10_risenOfEnding_5 post n v1 v2 v3_9 v4_10 σ_7)))))))))
def wpX10_risenOfEnding  (a1 : Int32) (a2 : Int32) (σ : St) (post : Int32 → St → Prop) : Prop :=
  ∃ m_5, wbX10_risenOfEnding_5 post m_5 a1 a2 0 0 σ
-- CradleNames$Trails.girlsMore(II)I
def wpX10_girlsMore  (a1 : Int32) (a2 : Int32) (σ : St) (post : Int32 → St → Prop) : Prop :=
  wpX0_between 0 5 a1 a2 a2 σ (fun r_1 σ_2 =>
  wpX10_in a1 a2 σ_2 (fun r_3 σ_4 =>
  post ((2 * r_1) - r_3) σ_4))
-- CradleNames$Trails.crossing(I)I
def wbX10_crossing_48  (K5 : Int32 → Int32 → Int32 → St → Prop) (post : Int32 → St → Prop) (v1 : Int32) (v2 : Int32) (v3 : Int32) (v4 : Int32) (σ : St) : Prop :=
  ((¬ v2 = 0 →
    ∀ v3_1 : Int32, v3_1 = v3 + 1 →
    K5 v1 1 v3_1 σ) ∧
  (v2 = 0 →
    ((0 ≤ v4 →
      ∀ v3_2 : Int32, v3_2 = v3 + 1 →
      K5 v1 0 v3_2 σ) ∧
    (¬ 0 ≤ v4 →
      ∀ v3_3 : Int32, v3_3 = v3 + 1 →
      K5 v1 1 v3_3 σ))))
def wbX10_crossing_5   (post : Int32 → St → Prop) : Nat → Int32 → Int32 → Int32 → St → Prop
  | 0, _, _, _, _ => False
  | n + 1, v1, v2, v3, σ =>
    (((gI σ 9 0) ≤ v3 →
      post (-1) σ) ∧
    (¬ (gI σ 9 0) ≤ v3 →
      wpX10_girlsMore v1 v3 σ (fun r_1 σ_2 =>
      ((v3 < 0 →
        wbX10_crossing_48 (wbX10_crossing_5 post n) post v1 v2 v3 r_1 σ_2) ∧
      (¬ v3 < 0 →
        ((v2 = 0 →
          wbX10_crossing_48 (wbX10_crossing_5 post n) post v1 v2 v3 r_1 σ_2) ∧
        (¬ v2 = 0 →
          ((r_1 < 0 →
            wbX10_crossing_48 (wbX10_crossing_5 post n) post v1 v2 v3 r_1 σ_2) ∧
          (¬ r_1 < 0 →
            wpX10_in v1 v3 σ_2 (fun r_3 σ_4 =>
            ((r_3 ≤ 0 →
              wbX10_crossing_48 (wbX10_crossing_5 post n) post v1 v2 v3 r_1 σ_4) ∧
            (¬ r_3 ≤ 0 →
              post v3 σ_4))))))))))))
def wpX10_crossing  (a1 : Int32) (σ : St) (post : Int32 → St → Prop) : Prop :=
  ∃ m_5, wbX10_crossing_5 post m_5 a1 0 (-40) σ
-- CradleNames$Trails.boysAgain(II)Z
def wbX10_boysAgain_4   (post : Int32 → St → Prop) : Nat → Int32 → Int32 → St → Prop
  | 0, _, _, _ => False
  | n + 1, v1, v3, σ =>
    (((gI σ 9 0) ≤ v3 →
      post 0 σ) ∧
    (¬ (gI σ 9 0) ≤ v3 →
      wpX10_girlsMore v1 v3 σ (fun r_1 σ_2 =>
      ((0 ≤ r_1 →
        ∀ v3_3 : Int32, v3_3 = v3 + 1 →
        wbX10_boysAgain_4 post n v1 v3_3 σ_2) ∧
      (¬ 0 ≤ r_1 →
        post 1 σ_2)))))
def wpX10_boysAgain  (a1 : Int32) (a2 : Int32) (σ : St) (post : Int32 → St → Prop) : Prop :=
  ∀ v3_1 : Int32, v3_1 = (a2 + 1) →
  ∃ m_4, wbX10_boysAgain_4 post m_4 a1 v3_1 σ
-- CradleNames$Trails.emptyAhead(II)I
def wbX10_emptyAhead_7   (post : Int32 → St → Prop) : Nat → Int32 → Int32 → Int32 → St → Prop
  | 0, _, _, _, _ => False
  | n + 1, v1, v3, v4, σ =>
    ((v4 < (-40) →
      post v3 σ) ∧
    (¬ v4 < (-40) →
      wpX10_in v1 v4 σ (fun r_1 σ_2 =>
      ((¬ r_1 = 0 →
        post v3 σ_2) ∧
      (r_1 = 0 →
        ∀ v3_3 : Int32, v3_3 = v3 + 1 →
        ∀ v4_4 : Int32, v4_4 = v4 + (-1) →
        wbX10_emptyAhead_7 post n v1 v3_3 v4_4 σ_2)))))
def wpX10_emptyAhead  (a1 : Int32) (a2 : Int32) (σ : St) (post : Int32 → St → Prop) : Prop :=
  ∀ v4_1 : Int32, v4_1 = (a2 - 1) →
  ∃ m_7, wbX10_emptyAhead_7 post m_7 a1 0 v4_1 σ
-- CradleNames$Trails.comesBack(II)I
def wbX10_comesBack_44  (K2 : Int32 → Int32 → Int32 → St → Prop) (post : Int32 → St → Prop) (v1 : Int32) (v2 : Int32) (v3 : Int32) (v4 : Int32) (s0 : Int32) (σ : St) : Prop :=
  ((v4 < v2 →
    ∀ v3_1 : Int32, v3_1 = v3 + 1 →
    K2 v1 v2 v3_1 σ) ∧
  (¬ v4 < v2 →
    ((s0 = 0 →
      ∀ v3_2 : Int32, v3_2 = v3 + 1 →
      K2 v1 v2 v3_2 σ) ∧
    (¬ s0 = 0 →
      post v3 σ))))
def wbX10_comesBack_2   (post : Int32 → St → Prop) : Nat → Int32 → Int32 → Int32 → St → Prop
  | 0, _, _, _, _ => False
  | n + 1, v1, v2, v3, σ =>
    (((gI σ 9 0) ≤ v3 →
      post (-1) σ) ∧
    (¬ (gI σ 9 0) ≤ v3 →
      wpX10_in v1 v3 σ (fun r_1 σ_2 =>
      ((r_1 ≤ 0 →
        ∀ v3_3 : Int32, v3_3 = v3 + 1 →
        wbX10_comesBack_2 post n v1 v2 v3_3 σ_2) ∧
      (¬ r_1 ≤ 0 →
        wpX10_emptyAhead v1 v3 σ_2 (fun r_4 σ_5 =>
        (((v3 - r_4) ≤ (-40) →
          wbX10_comesBack_44 (wbX10_comesBack_2 post n) post v1 v2 v3 r_4 0 σ_5) ∧
        (¬ (v3 - r_4) ≤ (-40) →
          wbX10_comesBack_44 (wbX10_comesBack_2 post n) post v1 v2 v3 r_4 1 σ_5))))))))
def wpX10_comesBack  (a1 : Int32) (a2 : Int32) (σ : St) (post : Int32 → St → Prop) : Prop :=
  ∃ m_2, wbX10_comesBack_2 post m_2 a1 a2 0 σ
-- CradleNames$Trails.unlike(III)J
def wbX10_unlike_12 (FX10_unlike : Int32 → Int32 → Int32 → St → (Int64 → St → Prop) → Prop)  (post : Int64 → St → Prop) : Nat → Int32 → Int32 → Int64 → Int32 → St → Prop
  | 0, _, _, _, _, _ => False
  | n + 1, v2, v3, v4, v6, σ =>
    ((((gI σ 52 10) - v2) < v6 →
      post v4 σ) ∧
    (¬ ((gI σ 52 10) - v2) < v6 →
      ((¬ ((v3 >>> (v6 &&& 31)) &&& 1) = 0 →
        ∀ v6_1 : Int32, v6_1 = v6 + 1 →
        wbX10_unlike_12 FX10_unlike post n v2 v3 v4 v6_1 σ) ∧
      (((v3 >>> (v6 &&& 31)) &&& 1) = 0 →
        vp_in v6 16 ∧ (
        vp_in v6 16 ∧ (
        FX10_unlike (v6 + 1) (v2 - 1) (v3 ||| (gI σ 59 v6.toNatClampNeg)) σ (fun r_2 σ_3 =>
        ∀ v4_4 : Int64, v4_4 = (v4 + ((gI σ 58 v6.toNatClampNeg).toInt64 * r_2)) →
        ∀ v6_5 : Int32, v6_5 = v6 + 1 →
        wbX10_unlike_12 FX10_unlike post n v2 v3 v4_4 v6_5 σ_3)))))))
def wpX10_unlike (FX10_unlike : Int32 → Int32 → Int32 → St → (Int64 → St → Prop) → Prop) (a1 : Int32) (a2 : Int32) (a3 : Int32) (σ : St) (post : Int64 → St → Prop) : Prop :=
  ((0 < a2 →
    ∃ m_12, wbX10_unlike_12 FX10_unlike post m_12 a2 a3 0 a1 σ) ∧
  (¬ 0 < a2 →
    post 1 σ))
def wrX10_unlike : Nat → Int32 → Int32 → Int32 → St → (Int64 → St → Prop) → Prop
  | 0, _, _, _, _, _ => False
  | n + 1, a1, a2, a3, σ, post => wpX10_unlike (wrX10_unlike n) a1 a2 a3 σ post
-- CradleNames$Trails.kinOf(I)I
def wbX10_kinOf_4   (post : Int32 → St → Prop) : Nat → Int32 → Int32 → Int32 → St → Prop
  | 0, _, _, _, _ => False
  | n + 1, v1, v2, v3, σ =>
    (((gI σ 52 10) ≤ v3 →
      post v2 σ) ∧
    (¬ (gI σ 52 10) ≤ v3 →
      vp_in v1 16 ∧ (
      vp_in v3 16 ∧ (
      wpX5_akin (gI σ 57 v1.toNatClampNeg) (gI σ 57 v3.toNatClampNeg) σ (fun r_1 σ_2 =>
      ((r_1 = 0 →
        ∀ v3_3 : Int32, v3_3 = v3 + 1 →
        wbX10_kinOf_4 post n v1 v2 v3_3 σ_2) ∧
      (¬ r_1 = 0 →
        ∀ v2_4 : Int32, v2_4 = (v2 ||| (1 <<< (v3 &&& 31))) →
        ∀ v3_5 : Int32, v3_5 = v3 + 1 →
        wbX10_kinOf_4 post n v1 v2_4 v3_5 σ_2)))))))
def wpX10_kinOf  (a1 : Int32) (σ : St) (post : Int32 → St → Prop) : Prop :=
  ∃ m_4, wbX10_kinOf_4 post m_4 a1 0 0 σ
-- CradleNames$Trails.sharing(IIIZ)I
def wbX10_sharing_143   (post : Int32 → St → Prop) : Nat → Int32 → Int32 → Int64 → Int32 → St → Prop
  | 0, _, _, _, _, _ => False
  | n + 1, v3, v5, v6, v8, σ =>
    ((v3 ≤ v8 →
      ((0 < v6 →
        wrX10_unlike 12 0 v3 0 σ (fun r_1 σ_2 =>
        ¬ v6 = 0 ∧ (
        post ((((v6 - r_1) * 1000000) / v6).toInt32) σ_2))) ∧
      (¬ 0 < v6 →
        post (-1) σ))) ∧
    (¬ v3 ≤ v8 →
      ¬ (v8 + 1).toInt64 = 0 ∧ (
      ∀ v6_3 : Int64, v6_3 = ((v6 * (v5 - v8).toInt64) / (v8 + 1).toInt64) →
      ∀ v8_4 : Int32, v8_4 = v8 + 1 →
      wbX10_sharing_143 post n v3 v5 v6_3 v8_4 σ)))
def wbX10_sharing_100   (post : Int32 → St → Prop) : Nat → Int32 → Int32 → Int32 → Int32 → St → Prop
  | 0, _, _, _, _, _ => False
  | n + 1, v3, v4, v5, v6, σ =>
    (((gI σ 52 10) ≤ v6 →
      ∃ m_143, wbX10_sharing_143 post m_143 v3 v5 1 0 σ) ∧
    (¬ (gI σ 52 10) ≤ v6 →
      ((v4 = 0 →
        vp_in v6 16 ∧ (
        ∀ σ_1 : St, σ_1 = sI σ 59 v6.toNatClampNeg 0 →
        ∀ v6_2 : Int32, v6_2 = v6 + 1 →
        wbX10_sharing_100 post n v3 v4 v5 v6_2 σ_1)) ∧
      (¬ v4 = 0 →
        wpX10_kinOf v6 σ (fun r_3 σ_4 =>
        vp_in v6 16 ∧ (
        ∀ σ_5 : St, σ_5 = sI σ_4 59 v6.toNatClampNeg r_3 →
        ∀ v6_6 : Int32, v6_6 = v6 + 1 →
        wbX10_sharing_100 post n v3 v4 v5 v6_6 σ_5))))))
def wbX10_sharing_11   (post : Int32 → St → Prop) : Nat → Int32 → Int32 → Int32 → Int32 → Int32 → Int32 → St → Prop
  | 0, _, _, _, _, _, _, _ => False
  | n + 1, v1, v2, v3, v4, v5, v6, σ =>
    (((gI σ 1 0) ≤ v6 →
      ((v3 ≤ v5 →
        ∃ m_100, wbX10_sharing_100 post m_100 v3 v4 v5 0 σ) ∧
      (¬ v3 ≤ v5 →
        post (-1) σ))) ∧
    (¬ (gI σ 1 0) ≤ v6 →
      wpX0_between 0 (0 + v1) v6 v2 v2 σ (fun r_1 σ_2 =>
      ((r_1 ≤ 0 →
        ∀ v6_3 : Int32, v6_3 = v6 + 1 →
        wbX10_sharing_11 post n v1 v2 v3 v4 v5 v6_3 σ_2) ∧
      (¬ r_1 ≤ 0 →
        vp_in (gI σ_2 52 10) 16 ∧ (
        ∀ σ_4 : St, σ_4 = sI σ_2 57 (gI σ_2 52 10).toNatClampNeg v6 →
        vp_in (gI σ_4 52 10) 16 ∧ (
        ∀ σ_5 : St, σ_5 = sI σ_4 58 (gI σ_4 52 10).toNatClampNeg r_1 →
        ∀ v5_6 : Int32, v5_6 = (v5 + r_1) →
        ∀ σ_7 : St, σ_7 = sI σ_5 52 10 ((gI σ_5 52 10) + 1) →
        ∀ v6_8 : Int32, v6_8 = v6 + 1 →
        wbX10_sharing_11 post n v1 v2 v3 v4 v5_6 v6_8 σ_7)))))))
def wpX10_sharing  (a1 : Int32) (a2 : Int32) (a3 : Int32) (a4 : Int32) (σ : St) (post : Int32 → St → Prop) : Prop :=
  ∀ σ_1 : St, σ_1 = sI σ 52 10 0 →
  ∃ m_11, wbX10_sharing_11 post m_11 a1 a2 a3 a4 0 0 σ_1
-- CradleNames$Trails.akinLastYear(II)I
def wbX10_akinLastYear_16   (post : Int32 → St → Prop) : Nat → Int32 → Int32 → Int32 → Int32 → Int32 → St → Prop
  | 0, _, _, _, _, _, _ => False
  | n + 1, v1, v2, v3, v4, v5, σ =>
    (((gI σ 1 0) ≤ v5 →
      post v4 σ) ∧
    (¬ (gI σ 1 0) ≤ v5 →
      wpX5_akin v2 v5 σ (fun r_1 σ_2 =>
      ((r_1 = 0 →
        ∀ v5_3 : Int32, v5_3 = v5 + 1 →
        wbX10_akinLastYear_16 post n v1 v2 v3 v4 v5_3 σ_2) ∧
      (¬ r_1 = 0 →
        wpX0_between 0 (0 + v1) v5 v3 v3 σ_2 (fun r_4 σ_5 =>
        ∀ v4_6 : Int32, v4_6 = (v4 + r_4) →
        ∀ v5_7 : Int32, v5_7 = v5 + 1 →
        wbX10_akinLastYear_16 post n v1 v2 v3 v4_6 v5_7 σ_5))))))
def wpX10_akinLastYear  (a1 : Int32) (a2 : Int32) (σ : St) (post : Int32 → St → Prop) : Prop :=
  ∀ v3_1 : Int32, v3_1 = ((gI σ 9 0) - 1) →
  ∃ m_16, wbX10_akinLastYear_16 post m_16 a1 a2 v3_1 0 0 σ
-- CradleNames$Trails.firstLiving()I
def wpX10_firstLiving   (σ : St) (post : Int32 → St → Prop) : Prop :=
  post (if ((gI σ 9 0) - (gI σ 9 1)) < (-40) then (-40) else ((gI σ 9 0) - (gI σ 9 1))) σ
-- CradleNames$Trails.halfBorn(I)I
def wbX10_halfBorn_32   (post : Int32 → St → Prop) : Nat → Int32 → Int32 → Int32 → Int32 → Int32 → St → Prop
  | 0, _, _, _, _, _, _ => False
  | n + 1, v1, v2, v3, v4, v5, σ =>
    ((v3 ≤ v5 →
      post v3 σ) ∧
    (¬ v3 ≤ v5 →
      wpX0_between 0 6 v1 v2 v5 σ (fun r_1 σ_2 =>
      (((2 * r_1) < v4 →
        ∀ v5_3 : Int32, v5_3 = v5 + 1 →
        wbX10_halfBorn_32 post n v1 v2 v3 v4 v5_3 σ_2) ∧
      (¬ (2 * r_1) < v4 →
        post v5 σ_2)))))
def wpX10_halfBorn  (a1 : Int32) (σ : St) (post : Int32 → St → Prop) : Prop :=
  wpX10_firstLiving  σ (fun r_1 σ_2 =>
  ∀ v3_3 : Int32, v3_3 = ((gI σ_2 9 0) - 1) →
  wpX0_between 0 6 a1 r_1 v3_3 σ_2 (fun r_4 σ_5 =>
  ∃ m_32, wbX10_halfBorn_32 post m_32 a1 r_1 v3_3 r_4 r_1 σ_5))
-- CradleNames$Trails.spanStart(III)I
def wbX10_spanStart_34   (post : Int32 → St → Prop) : Nat → Int32 → Int32 → Int32 → Int64 → Int32 → St → Prop
  | 0, _, _, _, _, _, _ => False
  | n + 1, v1, v2, v3, v5, v7, σ =>
    (((gI σ 9 0) < (v7 + v3) →
      post (-1000) σ) ∧
    (¬ (gI σ 9 0) < (v7 + v3) →
      wpX0_between 0 6 v1 v7 ((v7 + v3) - 1) σ (fun r_1 σ_2 =>
      (((r_1.toInt64 * 100) < (v2.toInt64 * v5) →
        ∀ v7_3 : Int32, v7_3 = v7 + 1 →
        wbX10_spanStart_34 post n v1 v2 v3 v5 v7_3 σ_2) ∧
      (¬ (r_1.toInt64 * 100) < (v2.toInt64 * v5) →
        post v7 σ_2)))))
def wpX10_spanStart  (a1 : Int32) (a2 : Int32) (a3 : Int32) (σ : St) (post : Int32 → St → Prop) : Prop :=
  wpX10_firstLiving  σ (fun r_1 σ_2 =>
  wpX0_between 0 6 a1 r_1 ((gI σ_2 9 0) - 1) σ_2 (fun r_3 σ_4 =>
  ∀ v5_5 : Int64, v5_5 = r_3.toInt64 →
  ∃ m_34, wbX10_spanStart_34 post m_34 a1 a2 a3 v5_5 r_1 σ_4))
-- CradleNames$Trails.shortestSpan(II)I
def wbX10_shortestSpan_16   (post : Int32 → St → Prop) : Nat → Int32 → Int32 → Int32 → Int32 → St → Prop
  | 0, _, _, _, _, _ => False
  | n + 1, v1, v2, v3, v4, σ =>
    ((v3 ≤ v4 →
      post v3 σ) ∧
    (¬ v3 ≤ v4 →
      wpX10_spanStart v1 v2 v4 σ (fun r_1 σ_2 =>
      ((r_1 = (-1000) →
        ∀ v4_3 : Int32, v4_3 = v4 + 1 →
        wbX10_shortestSpan_16 post n v1 v2 v3 v4_3 σ_2) ∧
      (¬ r_1 = (-1000) →
        post v4 σ_2)))))
def wpX10_shortestSpan  (a1 : Int32) (a2 : Int32) (σ : St) (post : Int32 → St → Prop) : Prop :=
  wpX10_firstLiving  σ (fun r_1 σ_2 =>
  ∀ v3_3 : Int32, v3_3 = ((gI σ 9 0) - r_1) →
  ∃ m_16, wbX10_shortestSpan_16 post m_16 a1 a2 v3_3 1 σ_2)
-- CradleNames$Trails.likeliestPlace(I)I
def wbX10_likeliestPlace_27   (post : Int32 → St → Prop) : Nat → Int32 → Int32 → Int32 → Int32 → Int64 → Int64 → Int32 → St → Prop
  | 0, _, _, _, _, _, _, _, _ => False
  | n + 1, v1, v2, v3, v4, v5, v7, v9, σ =>
    ((3 ≤ v9 →
      post v4 σ) ∧
    (¬ 3 ≤ v9 →
      wpX0_between 0 (0 + v9) v1 v2 v3 σ (fun r_1 σ_2 =>
      ∀ v10_3 : Int64, v10_3 = r_1.toInt64 →
      wpX0_groupTotal 0 (0 + v9) v2 v3 σ_2 (fun r_4 σ_5 =>
      ∀ v12_6 : Int64, v12_6 = r_4.toInt64 →
      (((v10_3 * v7) ≤ (v5 * v12_6) →
        ∀ v9_7 : Int32, v9_7 = v9 + 1 →
        wbX10_likeliestPlace_27 post n v1 v2 v3 v4 v5 v7 v9_7 σ_5) ∧
      (¬ (v10_3 * v7) ≤ (v5 * v12_6) →
        ∀ v9_8 : Int32, v9_8 = v9 + 1 →
        wbX10_likeliestPlace_27 post n v1 v2 v3 v9 v10_3 v12_6 v9_8 σ_5))))))
def wpX10_likeliestPlace  (a1 : Int32) (σ : St) (post : Int32 → St → Prop) : Prop :=
  wpX10_firstLiving  σ (fun r_1 σ_2 =>
  ∀ v3_3 : Int32, v3_3 = ((gI σ_2 9 0) - 1) →
  ∃ m_27, wbX10_likeliestPlace_27 post m_27 a1 r_1 v3_3 (-1) 0 1 0 σ_2)
-- CradleNames$Trails.foremost(II)I
def wbX10_foremost_20  (K5 : Int32 → Int32 → Int32 → Int32 → St → Prop) (post : Int32 → St → Prop) : Nat → Int32 → Int32 → Int32 → Int32 → Int32 → Int32 → Int32 → St → Prop
  | 0, _, _, _, _, _, _, _, _ => False
  | n + 1, v1, v2, v3, v4, v5, v6, v7, σ =>
    (((gI σ 1 0) ≤ v7 →
      ((¬ v5 = (-1) →
        ∀ v3_1 : Int32, v3_1 = (v3 ||| (1 <<< (v5 &&& 31))) →
        ∀ v4_2 : Int32, v4_2 = v4 + 1 →
        K5 v1 v2 v3_1 v4_2 σ) ∧
      (v5 = (-1) →
        post v3 σ))) ∧
    (¬ (gI σ 1 0) ≤ v7 →
      wpX10_in v7 v1 σ (fun r_3 σ_4 =>
      ((¬ ((v3 >>> (v7 &&& 31)) &&& 1) = 0 →
        ∀ v7_5 : Int32, v7_5 = v7 + 1 →
        wbX10_foremost_20 K5 post n v1 v2 v3 v4 v5 v6 v7_5 σ_4) ∧
      (((v3 >>> (v7 &&& 31)) &&& 1) = 0 →
        ((r_3 ≤ v6 →
          ∀ v7_6 : Int32, v7_6 = v7 + 1 →
          wbX10_foremost_20 K5 post n v1 v2 v3 v4 v5 v6 v7_6 σ_4) ∧
        (¬ r_3 ≤ v6 →
          ∀ v7_7 : Int32, v7_7 = v7 + 1 →
          wbX10_foremost_20 K5 post n v1 v2 v3 v4 v7 r_3 v7_7 σ_4)))))))
def wbX10_foremost_5   (post : Int32 → St → Prop) : Nat → Int32 → Int32 → Int32 → Int32 → St → Prop
  | 0, _, _, _, _, _ => False
  | n + 1, v1, v2, v3, v4, σ =>
    ((v2 ≤ v4 →
      post v3 σ) ∧
    (¬ v2 ≤ v4 →
      ∃ m_20, wbX10_foremost_20 (wbX10_foremost_5 post n) post m_20 v1 v2 v3 v4 (-1) 0 0 σ))
def wpX10_foremost  (a1 : Int32) (a2 : Int32) (σ : St) (post : Int32 → St → Prop) : Prop :=
  ∃ m_5, wbX10_foremost_5 post m_5 a1 a2 0 0 σ
-- CradleNames.within(III)Z
def wpX11_within  (a1 : Int32) (a2 : Int32) (a3 : Int32) (σ : St) (post : Int32 → St → Prop) : Prop :=
  ((a1 < a2 →
    post 0 σ) ∧
  (¬ a1 < a2 →
    ((a3 < a1 →
      post 0 σ) ∧
    (¬ a3 < a1 →
      post 1 σ))))
-- CradleNames.name(JI)I
def wpX11_name  (a1 : Int64) (a2 : Int32) (σ : St) (post : Int32 → St → Prop) : Prop :=
  wpX5_lengthOf a1 σ (fun r_1 σ_2 =>
  ((r_1 = 0 →
    post (-1) σ_2) ∧
  (¬ r_1 = 0 →
    wpX11_within a2 1 3 σ_2 (fun r_3 σ_4 =>
    ((r_3 = 0 →
      post (-1) σ_4) ∧
    (¬ r_3 = 0 →
      ((16 ≤ (gI σ_4 1 0) →
        post (-1) σ_4) ∧
      (¬ 16 ≤ (gI σ_4 1 0) →
        wpX5_knows a1 σ_4 (fun r_5 σ_6 =>
        ((r_5 = 0 →
          wpX7_forgetRuns  σ_6 (fun σ_8 =>
          wpX5_add a1 r_1 a2 (gI σ_8 9 0) σ_8 (fun r_9 σ_10 =>
          post r_9 σ_10))) ∧
        (¬ r_5 = 0 →
          post (-1) σ_6)))))))))))
-- CradleNames.of(II)I
def wpX11_of  (a1 : Int32) (a2 : Int32) (σ : St) (post : Int32 → St → Prop) : Prop :=
  wpX5_has a1 σ (fun r_1 σ_2 =>
  ((¬ r_1 = 0 →
    ((a2 = 0 →
      vp_in a1 16 ∧ (
      post (gI σ_2 3 a1.toNatClampNeg) σ_2)) ∧
    (¬ a2 = 0 →
    ((a2 = 1 →
      vp_in a1 16 ∧ (
      post (gI σ_2 4 a1.toNatClampNeg) σ_2)) ∧
    (¬ a2 = 1 →
    ((a2 = 2 →
      wpX5_lowestOfEnding a1 σ_2 (fun r_3 σ_4 =>
      post r_3 σ_4)) ∧
    (¬ a2 = 2 →
    ((a2 = 3 →
      vp_in a1 16 ∧ (
      post (gI σ_2 8 a1.toNatClampNeg) σ_2)) ∧
    (¬ a2 = 3 →
    ((a2 = 4 →
      wpX10_livingAt a1 ((gI σ_2 9 0) - 1) σ_2 (fun r_5 σ_6 =>
      post r_5 σ_6)) ∧
    (¬ a2 = 4 →
    post (-1) σ_2))))))))))) ∧
  (r_1 = 0 →
    post (-1) σ_2)))
-- CradleNames.alike(II)I
def wpX11_alike  (a1 : Int32) (a2 : Int32) (σ : St) (post : Int32 → St → Prop) : Prop :=
  wpX5_has a1 σ (fun r_1 σ_2 =>
  ((r_1 = 0 →
    post (-1) σ_2) ∧
  (¬ r_1 = 0 →
    wpX5_has a2 σ_2 (fun r_3 σ_4 =>
    ((¬ r_3 = 0 →
      wpX5_akin a1 a2 σ_4 (fun r_5 σ_6 =>
      ((r_5 = 0 →
        post 0 σ_6) ∧
      (¬ r_5 = 0 →
        post 1 σ_6)))) ∧
    (r_3 = 0 →
      post (-1) σ_4))))))
-- CradleNames.isRow(III)Z
def wpX11_isRow  (a1 : Int32) (a2 : Int32) (a3 : Int32) (σ : St) (post : Int32 → St → Prop) : Prop :=
  wpX11_within a1 0 2 σ (fun r_1 σ_2 =>
  ((r_1 = 0 →
    post 0 σ_2) ∧
  (¬ r_1 = 0 →
    wpX11_within a2 0 1 σ_2 (fun r_3 σ_4 =>
    ((r_3 = 0 →
      post 0 σ_4) ∧
    (¬ r_3 = 0 →
      wpX11_within a3 0 1 σ_4 (fun r_5 σ_6 =>
      ((r_5 = 0 →
        post 0 σ_6) ∧
      (¬ r_5 = 0 →
        post 1 σ_6)))))))))
-- CradleNames.born(IIIIII)I
def wpX11_born  (a1 : Int32) (a2 : Int32) (a3 : Int32) (a4 : Int32) (a5 : Int32) (a6 : Int32) (σ : St) (post : Int32 → St → Prop) : Prop :=
  ((¬ (gI σ 9 0) = 0 →
    post (-1) σ) ∧
  ((gI σ 9 0) = 0 →
    wpX5_has a1 σ (fun r_1 σ_2 =>
    ((r_1 = 0 →
      post (-1) σ_2) ∧
    (¬ r_1 = 0 →
      wpX11_isRow a2 a3 a4 σ_2 (fun r_3 σ_4 =>
      ((¬ r_3 = 0 →
        wpX11_within a5 1 40 σ_4 (fun r_5 σ_6 =>
        ((r_5 = 0 →
          post (-1) σ_6) ∧
        (¬ r_5 = 0 →
          wpX11_within a6 1 99 σ_6 (fun r_7 σ_8 =>
          ((¬ r_7 = 0 →
            wpX4_row a2 a3 a4 σ_8 (fun r_9 σ_10 =>
            wpX4_toldCell (-a5) r_9 a1 σ_10 (fun r_11 σ_12 =>
            vp_in r_11 7680 ∧ (
            ((((gI σ_12 10 r_11.toNatClampNeg) + a6) ≤ 9999 →
              vp_in r_11 7680 ∧ (
              vp_in r_11 7680 ∧ (
              ∀ σ_13 : St, σ_13 = sI σ_12 10 r_11.toNatClampNeg ((gI σ_12 10 r_11.toNatClampNeg) + a6) →
              wpX0_addSums 0 (-a5) a2 a3 a4 a1 a6 σ_13 (fun σ_15 =>
              wpX7_forgetRuns  σ_15 (fun σ_17 =>
              vp_in r_11 7680 ∧ (
              post (gI σ_17 10 r_11.toNatClampNeg) σ_17)))))) ∧
            (¬ ((gI σ_12 10 r_11.toNatClampNeg) + a6) ≤ 9999 →
              post (-1) σ_12)))))) ∧
          (r_7 = 0 →
            post (-1) σ_8))))))) ∧
      (r_3 = 0 →
        post (-1) σ_4))))))))
-- CradleNames.life(I)Z
def wpX11_life  (a1 : Int32) (σ : St) (post : Int32 → St → Prop) : Prop :=
  ((¬ (gI σ 9 0) = 0 →
    post 0 σ) ∧
  ((gI σ 9 0) = 0 →
    wpX11_within a1 20 90 σ (fun r_1 σ_2 =>
    ((¬ r_1 = 0 →
      ∀ σ_3 : St, σ_3 = sI σ_2 9 1 a1 →
      wpX7_forgetRuns  σ_3 (fun σ_5 =>
      post 1 σ_5)) ∧
    (r_1 = 0 →
      post 0 σ_2)))))
-- CradleNames.cradles(IIII)Z
def wpX11_cradles  (a1 : Int32) (a2 : Int32) (a3 : Int32) (a4 : Int32) (σ : St) (post : Int32 → St → Prop) : Prop :=
  wpX11_isRow a1 a2 a3 σ (fun r_1 σ_2 =>
  ((r_1 = 0 →
    post 0 σ_2) ∧
  (¬ r_1 = 0 →
    wpX11_within a4 0 6 σ_2 (fun r_3 σ_4 =>
    ((¬ r_3 = 0 →
      wpX4_row a1 a2 a3 σ_4 (fun r_5 σ_6 =>
      vp_in r_5 12 ∧ (
      ∀ σ_7 : St, σ_7 = sI σ_6 11 r_5.toNatClampNeg a4 →
      wpX7_forgetRuns  σ_7 (fun σ_9 =>
      post 1 σ_9)))) ∧
    (r_3 = 0 →
      post 0 σ_4))))))
-- CradleNames.list(II)I
def wpX11_list  (a1 : Int32) (a2 : Int32) (σ : St) (post : Int32 → St → Prop) : Prop :=
  ((8 ≤ (gI σ 9 8) →
    post (-1) σ) ∧
  (¬ 8 ≤ (gI σ 9 8) →
    wpX11_within a1 (gI σ 9 0) 60 σ (fun r_1 σ_2 =>
    ((¬ r_1 = 0 →
      ∀ v3_3 : Int32, v3_3 = ((1 <<< ((gI σ_2 1 0) &&& 31)) - 1) →
      wpX7_forgetRuns  σ_2 (fun σ_5 =>
      wpX4_addList a1 (a2 &&& v3_3) σ_5 (fun r_6 σ_7 =>
      post r_6 σ_7))) ∧
    (r_1 = 0 →
      post (-1) σ_2)))))
-- CradleNames.film(III)I
def wpX11_film  (a1 : Int32) (a2 : Int32) (a3 : Int32) (σ : St) (post : Int32 → St → Prop) : Prop :=
  ((8 ≤ (gI σ 9 11) →
    post (-1) σ) ∧
  (¬ 8 ≤ (gI σ 9 11) →
    wpX5_has a1 σ (fun r_1 σ_2 =>
    ((¬ r_1 = 0 →
      wpX11_within a2 (gI σ_2 9 0) 60 σ_2 (fun r_3 σ_4 =>
      ((r_3 = 0 →
        post (-1) σ_4) ∧
      (¬ r_3 = 0 →
        wpX11_within a3 1 999 σ_4 (fun r_5 σ_6 =>
        ((¬ r_5 = 0 →
          wpX7_forgetRuns  σ_6 (fun σ_8 =>
          wpX4_addFilm a1 a2 a3 σ_8 (fun r_9 σ_10 =>
          post r_9 σ_10))) ∧
        (r_5 = 0 →
          post (-1) σ_6))))))) ∧
    (r_1 = 0 →
      post (-1) σ_2)))))
-- CradleNames.feed(IIIII)I
def wpX11_feed  (a1 : Int32) (a2 : Int32) (a3 : Int32) (a4 : Int32) (a5 : Int32) (σ : St) (post : Int32 → St → Prop) : Prop :=
  wpX8_hasRoom  σ (fun r_1 σ_2 =>
  ((¬ r_1 = 0 →
    wpX8_put a1 σ_2 (fun σ_4 =>
    wpX8_put a2 σ_4 (fun σ_6 =>
    wpX8_put a3 σ_6 (fun σ_8 =>
    wpX8_put a4 σ_8 (fun σ_10 =>
    wpX8_put a5 σ_10 (fun σ_12 =>
    post (gI σ_12 42 1) σ_12)))))) ∧
  (r_1 = 0 →
    post (-1) σ_2)))
-- CradleNames.end(I)I
def wpX11_end  (a1 : Int32) (σ : St) (post : Int32 → St → Prop) : Prop :=
  wpX11_within a1 0 (gI σ 42 1) σ (fun r_1 σ_2 =>
  ((¬ r_1 = 0 →
    ∀ σ_3 : St, σ_3 = sI σ_2 42 1 a1 →
    post a1 σ_3) ∧
  (r_1 = 0 →
    post (-1) σ_2)))
-- CradleNames.taste()I
def wpX11_taste   (σ : St) (post : Int32 → St → Prop) : Prop :=
  ((6 ≤ (gI σ 0 5) →
    post (-1) σ) ∧
  (¬ 6 ≤ (gI σ 0 5) →
    vp_in (gI σ 0 5) 6 ∧ (
    wpX8_read ((gI σ 0 5).toNatClampNeg) σ (fun r_2 σ_3 =>
    ((¬ r_2 = 0 →
      ∀ σ_4 : St, σ_4 = sI σ_3 0 5 ((gI σ_3 0 5) + 1) →
      post ((gI σ_4 0 5) - 1) σ_4) ∧
    (r_2 = 0 →
      post (-1) σ_3))))))
-- CradleNames.fault(I)I
def wpX11_fault  (a1 : Int32) (σ : St) (post : Int32 → St → Prop) : Prop :=
  ((¬ a1 = 0 →
    ((¬ a1 = 1 →
      post (-1) σ) ∧
    (a1 = 1 →
      post (gI σ 42 3) σ))) ∧
  (a1 = 0 →
    post (gI σ 42 2) σ))
-- CradleNames.by(II)Z
def wpX11_by  (a1 : Int32) (a2 : Int32) (σ : St) (post : Int32 → St → Prop) : Prop :=
  wpX11_within a1 0 1 σ (fun r_1 σ_2 =>
  ((r_1 = 0 →
    post 0 σ_2) ∧
  (¬ r_1 = 0 →
    wpX11_within a2 (-1) ((gI σ_2 0 5) - 1) σ_2 (fun r_3 σ_4 =>
    ((¬ r_3 = 0 →
      vp_in a1 2 ∧ (
      ∀ σ_5 : St, σ_5 = sI σ_4 13 a1.toNatClampNeg a2 →
      post 1 σ_5)) ∧
    (r_3 = 0 →
      post 0 σ_4))))))
-- CradleNames.years(I)I
def wbX11_years_28   (post : Int32 → St → Prop) : Nat → Int32 → Int32 → St → Prop
  | 0, _, _, _ => False
  | n + 1, v1, v2, σ =>
    ((v1 ≤ v2 →
      wpX0_open 0 (gI σ 9 0) σ (fun σ_2 =>
      post (gI σ_2 9 0) σ_2)) ∧
    (¬ v1 ≤ v2 →
      wpX1_pass 0 (gI σ 9 0) (-1) σ (fun r_3 σ_4 =>
      wpX4_closeYear r_3 σ_4 (fun σ_6 =>
      ∀ v2_7 : Int32, v2_7 = v2 + 1 →
      wbX11_years_28 post n v1 v2_7 σ_6))))
def wpX11_years  (a1 : Int32) (σ : St) (post : Int32 → St → Prop) : Prop :=
  wpX11_within a1 1 20 σ (fun r_1 σ_2 =>
  ((r_1 = 0 →
    post (-1) σ_2) ∧
  (¬ r_1 = 0 →
    ((((gI σ_2 9 0) + a1) ≤ 61 →
      ∃ m_28, wbX11_years_28 post m_28 a1 0 σ_2) ∧
    (¬ ((gI σ_2 9 0) + a1) ≤ 61 →
      post (-1) σ_2)))))
-- CradleNames.isOrAll(II)Z
def wpX11_isOrAll  (a1 : Int32) (a2 : Int32) (σ : St) (post : Int32 → St → Prop) : Prop :=
  ((a1 = (-1) →
    post 1 σ) ∧
  (¬ a1 = (-1) →
    ((¬ a1 = a2 →
      post 0 σ) ∧
    (a1 = a2 →
      post 1 σ))))
-- CradleNames.given(IIIII)I
def wbX11_given_128  (K74 : Int32 → Int32 → Int32 → Int32 → Int32 → Int32 → Int32 → St → Prop) (post : Int32 → St → Prop) : Nat → Int32 → Int32 → Int32 → Int32 → Int32 → Int32 → Int32 → Int32 → Int32 → St → Prop
  | 0, _, _, _, _, _, _, _, _, _, _ => False
  | n + 1, v1, v2, v3, v4, v5, v6, v7, v8, v9, σ =>
    (((gI σ 1 0) ≤ v9 →
      ∀ v7_1 : Int32, v7_1 = v7 + 1 →
      K74 v1 v2 v3 v4 v5 v6 v7_1 σ) ∧
    (¬ (gI σ 1 0) ≤ v9 →
      ((v8 = 0 →
        ∀ v7_2 : Int32, v7_2 = v7 + 1 →
        K74 v1 v2 v3 v4 v5 v6 v7_2 σ) ∧
      (¬ v8 = 0 →
        wpX11_isOrAll v5 v9 σ (fun r_3 σ_4 =>
        ((r_3 = 0 →
          ∀ v9_5 : Int32, v9_5 = v9 + 1 →
          wbX11_given_128 K74 post n v1 v2 v3 v4 v5 v6 v7 v8 v9_5 σ_4) ∧
        (¬ r_3 = 0 →
          ((0 ≤ v1 →
            wpX0_inRow 0 v1 v7 v9 σ_4 (fun r_6 σ_7 =>
            ∀ v6_8 : Int32, v6_8 = (v6 + r_6) →
            ∀ v9_9 : Int32, v9_9 = v9 + 1 →
            wbX11_given_128 K74 post n v1 v2 v3 v4 v5 v6_8 v7 v8 v9_9 σ_7)) ∧
          (¬ 0 ≤ v1 →
            wpX4_toldCell v1 v7 v9 σ_4 (fun r_10 σ_11 =>
            vp_in r_10 7680 ∧ (
            ∀ v6_12 : Int32, v6_12 = (v6 + (gI σ_11 10 r_10.toNatClampNeg)) →
            ∀ v9_13 : Int32, v9_13 = v9 + 1 →
            wbX11_given_128 K74 post n v1 v2 v3 v4 v5 v6_12 v7 v8 v9_13 σ_11)))))))))))
def wbX11_given_74   (post : Int32 → St → Prop) : Nat → Int32 → Int32 → Int32 → Int32 → Int32 → Int32 → Int32 → St → Prop
  | 0, _, _, _, _, _, _, _, _ => False
  | n + 1, v1, v2, v3, v4, v5, v6, v7, σ =>
    ((12 ≤ v7 →
      post v6 σ) ∧
    (¬ 12 ≤ v7 →
      wpX4_placeOf v7 σ (fun r_1 σ_2 =>
      wpX11_isOrAll v2 r_1 σ_2 (fun r_3 σ_4 =>
      ((r_3 = 0 →
        ∃ m_128, wbX11_given_128 (wbX11_given_74 post n) post m_128 v1 v2 v3 v4 v5 v6 v7 0 0 σ_4) ∧
      (¬ r_3 = 0 →
        wpX4_standingOf v7 σ_4 (fun r_5 σ_6 =>
        wpX11_isOrAll v3 r_5 σ_6 (fun r_7 σ_8 =>
        ((r_7 = 0 →
          ∃ m_128, wbX11_given_128 (wbX11_given_74 post n) post m_128 v1 v2 v3 v4 v5 v6 v7 0 0 σ_8) ∧
        (¬ r_7 = 0 →
          wpX4_sexOf v7 σ_8 (fun r_9 σ_10 =>
          wpX11_isOrAll v4 r_9 σ_10 (fun r_11 σ_12 =>
          ((r_11 = 0 →
            ∃ m_128, wbX11_given_128 (wbX11_given_74 post n) post m_128 v1 v2 v3 v4 v5 v6 v7 0 0 σ_12) ∧
          (¬ r_11 = 0 →
            ∃ m_128, wbX11_given_128 (wbX11_given_74 post n) post m_128 v1 v2 v3 v4 v5 v6 v7 1 0 σ_12))))))))))))))
def wpX11_given  (a1 : Int32) (a2 : Int32) (a3 : Int32) (a4 : Int32) (a5 : Int32) (σ : St) (post : Int32 → St → Prop) : Prop :=
  wpX11_within a1 (-40) ((gI σ 9 0) - 1) σ (fun r_1 σ_2 =>
  ((r_1 = 0 →
    post (-1) σ_2) ∧
  (¬ r_1 = 0 →
    wpX11_within a5 (-1) ((gI σ_2 1 0) - 1) σ_2 (fun r_3 σ_4 =>
    ((¬ r_3 = 0 →
      wpX11_within a2 (-1) 2 σ_4 (fun r_5 σ_6 =>
      ((r_5 = 0 →
        post (-1) σ_6) ∧
      (¬ r_5 = 0 →
        wpX11_within a3 (-1) 1 σ_6 (fun r_7 σ_8 =>
        ((r_7 = 0 →
          post (-1) σ_8) ∧
        (¬ r_7 = 0 →
          wpX11_within a4 (-1) 1 σ_8 (fun r_9 σ_10 =>
          ((¬ r_9 = 0 →
            ∃ m_74, wbX11_given_74 post m_74 a1 a2 a3 a4 a5 0 0 σ_10) ∧
          (r_9 = 0 →
            post (-1) σ_10)))))))))) ∧
    (r_3 = 0 →
      post (-1) σ_4))))))
-- CradleNames.unnamed(I)I
def wbX11_unnamed_9   (post : Int32 → St → Prop) : Nat → Int32 → Int32 → St → Prop
  | 0, _, _, _ => False
  | n + 1, v2, v3, σ =>
    (((gI σ 9 0) ≤ v3 →
      post v2 σ) ∧
    (¬ (gI σ 9 0) ≤ v3 →
      vp_in v3 61 ∧ (
      ∀ v2_1 : Int32, v2_1 = (v2 + (gI σ 15 v3.toNatClampNeg)) →
      ∀ v3_2 : Int32, v3_2 = v3 + 1 →
      wbX11_unnamed_9 post n v2_1 v3_2 σ)))
def wpX11_unnamed  (a1 : Int32) (σ : St) (post : Int32 → St → Prop) : Prop :=
  ((¬ a1 = (-1) →
    wpX4_wentBy a1 σ (fun r_1 σ_2 =>
    ((r_1 = 0 →
      post (-1) σ_2) ∧
    (¬ r_1 = 0 →
      vp_in a1 61 ∧ (
      post (gI σ_2 15 a1.toNatClampNeg) σ_2))))) ∧
  (a1 = (-1) →
    ∃ m_9, wbX11_unnamed_9 post m_9 0 0 σ))
-- CradleNames.weighAll(III)Z
def wbX11_weighAll_69   (post : Int32 → St → Prop) : Nat → Int32 → St → Prop
  | 0, _, _ => False
  | n + 1, v5, σ =>
    (((gI σ 1 0) ≤ v5 →
      post 1 σ) ∧
    (¬ (gI σ 1 0) ≤ v5 →
      wpX3_weigh v5 σ (fun σ_2 =>
      ∀ v5_3 : Int32, v5_3 = v5 + 1 →
      wbX11_weighAll_69 post n v5_3 σ_2)))
def wpX11_weighAll  (a1 : Int32) (a2 : Int32) (a3 : Int32) (σ : St) (post : Int32 → St → Prop) : Prop :=
  vp_in a2 2 ∧ (
  ∀ v4_1 : Int32, v4_1 = (gI σ 13 a2.toNatClampNeg) →
  ((v4_1 = (-1) →
    post 0 σ) ∧
  (¬ v4_1 = (-1) →
    (((gI σ 9 0) ≤ 60 →
      wpX3_stand 0 (gI σ 9 0) a1 a2 a3 σ (fun σ_3 =>
      vp_in v4_1 6 ∧ (
      ∀ σ_5 : St, σ_5 = sR σ_3 47 5 (some (30 + 2 * v4_1.toNatClampNeg)) →
      ∃ m_69, wbX11_weighAll_69 post m_69 0 σ_5))) ∧
    (¬ (gI σ 9 0) ≤ 60 →
      post 0 σ)))))
-- CradleNames.now(IIII)I
def wpX11_now  (a1 : Int32) (a2 : Int32) (a3 : Int32) (a4 : Int32) (σ : St) (post : Int32 → St → Prop) : Prop :=
  wpX11_isRow a1 a2 a3 σ (fun r_1 σ_2 =>
  ((r_1 = 0 →
    post (-2000000000) σ_2) ∧
  (¬ r_1 = 0 →
    wpX11_weighAll a1 a2 a3 σ_2 (fun r_3 σ_4 =>
    ((¬ r_3 = 0 →
      ((¬ a4 = 0 →
        ((¬ a4 = 1 →
          wpX11_within a4 100 (99 + (gI σ_4 1 0)) σ_4 (fun r_5 σ_6 =>
          ((r_5 = 0 →
            wpX11_within a4 200 (199 + (gI σ_6 1 0)) σ_6 (fun r_7 σ_8 =>
            ((r_7 = 0 →
              post (-2000000000) σ_8) ∧
            (¬ r_7 = 0 →
              vp_in (a4 - 200) 16 ∧ (
              (((gI σ_8 50 (a4 - 200).toNatClampNeg) = 0 →
                post 0 σ_8) ∧
              (¬ (gI σ_8 50 (a4 - 200).toNatClampNeg) = 0 →
                post 1 σ_8))))))) ∧
          (¬ r_5 = 0 →
            vp_in (a4 - 100) 16 ∧ (
            post (gI σ_6 49 (a4 - 100).toNatClampNeg) σ_6))))) ∧
        (a4 = 1 →
          wpX3_pick  σ_4 (fun r_9 σ_10 =>
          ((¬ r_9 = (-1) →
            vp_in r_9 16 ∧ (
            post (gI σ_10 49 r_9.toNatClampNeg) σ_10)) ∧
          (r_9 = (-1) →
            post (-2000000000) σ_10)))))) ∧
      (a4 = 0 →
        wpX3_pick  σ_4 (fun r_11 σ_12 =>
        post r_11 σ_12)))) ∧
    (r_3 = 0 →
      post (-2000000000) σ_4))))))
-- CradleNames.shape(II)I
def wbX11_shape_73   (post : Int32 → St → Prop) (s0 : Int32) (s1 : Int32) (s2 : Int32) (σ : St) : Prop :=
  wpX10_slope s2 s1 s0 σ (fun r_1 σ_2 =>
  post r_1 σ_2)
def wpX11_shape  (a1 : Int32) (a2 : Int32) (σ : St) (post : Int32 → St → Prop) : Prop :=
  wpX5_has a1 σ (fun r_1 σ_2 =>
  ((r_1 = 0 →
    post (-1) σ_2) ∧
  (¬ r_1 = 0 →
    wpX11_within a2 0 3 σ_2 (fun r_3 σ_4 =>
    ((¬ r_3 = 0 →
      wpX10_peak a1 σ_4 (fun r_5 σ_6 =>
      ((r_5 = (-1) →
        post r_5 σ_6) ∧
      (¬ r_5 = (-1) →
        ((¬ a2 = 0 →
          ((¬ a2 = 1 →
            ((¬ a2 = 2 →
              wbX11_shape_73 post 1 r_5 a1 σ_6) ∧
            (a2 = 2 →
              wbX11_shape_73 post (-1) r_5 a1 σ_6))) ∧
          (a2 = 1 →
            wpX10_in a1 r_5 σ_6 (fun r_7 σ_8 =>
            post r_7 σ_8)))) ∧
        (a2 = 0 →
          post r_5 σ_6)))))) ∧
    (r_3 = 0 →
      post (-1) σ_4))))))
-- CradleNames.shapes(I)I
def wbX11_shapes_22   (post : Int32 → St → Prop) (s0 : Int32) (σ : St) : Prop :=
  wpX10_pairs s0 σ (fun r_1 σ_2 =>
  post r_1 σ_2)
def wpX11_shapes  (a1 : Int32) (σ : St) (post : Int32 → St → Prop) : Prop :=
  wpX11_within a1 0 1 σ (fun r_1 σ_2 =>
  ((r_1 = 0 →
    post (-1) σ_2) ∧
  (¬ r_1 = 0 →
    ((¬ a1 = 0 →
      wbX11_shapes_22 post 0 σ_2) ∧
    (a1 = 0 →
      wbX11_shapes_22 post 1 σ_2)))))
-- CradleNames.lag(I)I
def wpX11_lag  (a1 : Int32) (σ : St) (post : Int32 → St → Prop) : Prop :=
  ((¬ (gI σ 9 0) = 0 →
    wpX10_findThousandths  σ (fun σ_2 =>
    wpX11_within a1 10 30 σ_2 (fun r_3 σ_4 =>
    ((r_3 = 0 →
      wpX11_within a1 0 1 σ_4 (fun r_5 σ_6 =>
      ((¬ r_5 = 0 →
        wpX10_leastLag  σ_6 (fun r_7 σ_8 =>
        ((¬ a1 = 0 →
          wpX10_apartBy r_7 σ_8 (fun r_9 σ_10 =>
          post r_9 σ_10)) ∧
        (a1 = 0 →
          post r_7 σ_8)))) ∧
      (r_5 = 0 →
        post (-1) σ_6)))) ∧
    (¬ r_3 = 0 →
      wpX10_apartBy (a1 - 10) σ_4 (fun r_11 σ_12 =>
      post r_11 σ_12)))))) ∧
  ((gI σ 9 0) = 0 →
    post (-1) σ))
-- CradleNames.together(II)I
def wpX11_together  (a1 : Int32) (a2 : Int32) (σ : St) (post : Int32 → St → Prop) : Prop :=
  wpX5_has a1 σ (fun r_1 σ_2 =>
  ((r_1 = 0 →
    post (-1) σ_2) ∧
  (¬ r_1 = 0 →
    wpX4_wentBy a2 σ_2 (fun r_3 σ_4 =>
    ((¬ r_3 = 0 →
      wpX10_risenOfEnding a1 a2 σ_4 (fun r_5 σ_6 =>
      post r_5 σ_6)) ∧
    (r_3 = 0 →
      post (-1) σ_4))))))
-- CradleNames.broughtBy(IZII)I
def wbX11_broughtBy_30   (post : Int32 → St → Prop) : Nat → Int32 → Int32 → Int32 → St → Prop
  | 0, _, _, _, _ => False
  | n + 1, v3, v4, v5, σ =>
    ((v4 < v5 →
      ∀ σ_1 : St, σ_1 = sI σ 47 6 (-1) →
      ∀ σ_2 : St, σ_2 = sI σ_1 47 7 0 →
      wpX0_between 0 6 v3 v4 v4 σ_2 (fun r_3 σ_4 =>
      wpX0_between 1 6 v3 v4 v4 σ_4 (fun r_5 σ_6 =>
      post (r_3 - r_5) σ_6))) ∧
    (¬ v4 < v5 →
      wpX1_pass 1 v5 (-1) σ (fun r_7 σ_8 =>
      ∀ v5_9 : Int32, v5_9 = v5 + 1 →
      wbX11_broughtBy_30 post n v3 v4 v5_9 σ_8)))
def wpX11_broughtBy  (a1 : Int32) (a2 : Int32) (a3 : Int32) (a4 : Int32) (σ : St) (post : Int32 → St → Prop) : Prop :=
  ∀ σ_1 : St, σ_1 = sI σ 47 6 a1 →
  (a2 = 0 ∨ a2 = 1) ∧ (
  ∀ σ_2 : St, σ_2 = sI σ_1 47 7 a2 →
  wpX0_beginFrom 1 0 σ_2 (fun σ_4 =>
  ∃ m_30, wbX11_broughtBy_30 post m_30 a3 a4 0 σ_4))
-- CradleNames.took(III)I
def wpX11_took  (a1 : Int32) (a2 : Int32) (a3 : Int32) (σ : St) (post : Int32 → St → Prop) : Prop :=
  wpX11_within a1 0 ((gI σ 9 11) - 1) σ (fun r_1 σ_2 =>
  ((r_1 = 0 →
    post (-1000) σ_2) ∧
  (¬ r_1 = 0 →
    wpX5_has a2 σ_2 (fun r_3 σ_4 =>
    ((r_3 = 0 →
      post (-1000) σ_4) ∧
    (¬ r_3 = 0 →
      wpX4_wentBy a3 σ_4 (fun r_5 σ_6 =>
      ((¬ r_5 = 0 →
        wpX11_broughtBy a1 0 a2 a3 σ_6 (fun r_7 σ_8 =>
        post r_7 σ_8)) ∧
      (r_5 = 0 →
        post (-1000) σ_6)))))))))
-- CradleNames.sound(II)I
def wpX11_sound  (a1 : Int32) (a2 : Int32) (σ : St) (post : Int32 → St → Prop) : Prop :=
  wpX5_has a1 σ (fun r_1 σ_2 =>
  ((r_1 = 0 →
    post (-1000) σ_2) ∧
  (¬ r_1 = 0 →
    wpX4_wentBy a2 σ_2 (fun r_3 σ_4 =>
    ((¬ r_3 = 0 →
      wpX11_broughtBy (-1) 1 a1 a2 σ_4 (fun r_5 σ_6 =>
      post r_5 σ_6)) ∧
    (r_3 = 0 →
      post (-1000) σ_4))))))
-- CradleNames.crossed(II)I
def wpX11_crossed  (a1 : Int32) (a2 : Int32) (σ : St) (post : Int32 → St → Prop) : Prop :=
  wpX5_has a1 σ (fun r_1 σ_2 =>
  ((r_1 = 0 →
    post (-1) σ_2) ∧
  (¬ r_1 = 0 →
    wpX11_within a2 0 1 σ_2 (fun r_3 σ_4 =>
    ((¬ r_3 = 0 →
      wpX10_crossing a1 σ_4 (fun r_5 σ_6 =>
      ((r_5 = (-1) →
        post r_5 σ_6) ∧
      (¬ r_5 = (-1) →
        ((¬ a2 = 0 →
          wpX10_boysAgain a1 r_5 σ_6 (fun r_7 σ_8 =>
          ((r_7 = 0 →
            post 0 σ_8) ∧
          (¬ r_7 = 0 →
            post 1 σ_8)))) ∧
        (a2 = 0 →
          post r_5 σ_6)))))) ∧
    (r_3 = 0 →
      post (-1) σ_4))))))
-- CradleNames.returned(III)I
def wpX11_returned  (a1 : Int32) (a2 : Int32) (a3 : Int32) (σ : St) (post : Int32 → St → Prop) : Prop :=
  wpX5_has a1 σ (fun r_1 σ_2 =>
  ((r_1 = 0 →
    post (-1) σ_2) ∧
  (¬ r_1 = 0 →
    wpX11_within a2 1 60 σ_2 (fun r_3 σ_4 =>
    ((r_3 = 0 →
      post (-1) σ_4) ∧
    (¬ r_3 = 0 →
      wpX11_within a3 0 2 σ_4 (fun r_5 σ_6 =>
      ((¬ r_5 = 0 →
        wpX10_comesBack a1 a2 σ_6 (fun r_7 σ_8 =>
        ((r_7 = (-1) →
          post r_7 σ_8) ∧
        (¬ r_7 = (-1) →
          ((¬ a3 = 0 →
            ((¬ a3 = 1 →
              wpX10_livingAt a1 (r_7 - 1) σ_8 (fun r_9 σ_10 =>
              post r_9 σ_10)) ∧
            (a3 = 1 →
              wpX10_emptyAhead a1 r_7 σ_8 (fun r_11 σ_12 =>
              post r_11 σ_12)))) ∧
          (a3 = 0 →
            post r_7 σ_8)))))) ∧
      (r_5 = 0 →
        post (-1) σ_6)))))))))
-- CradleNames.room(IIIZ)I
def wpX11_room  (a1 : Int32) (a2 : Int32) (a3 : Int32) (a4 : Int32) (σ : St) (post : Int32 → St → Prop) : Prop :=
  wpX11_within a1 0 2 σ (fun r_1 σ_2 =>
  ((r_1 = 0 →
    post (-1) σ_2) ∧
  (¬ r_1 = 0 →
    wpX4_wentBy a2 σ_2 (fun r_3 σ_4 =>
    ((r_3 = 0 →
      post (-1) σ_4) ∧
    (¬ r_3 = 0 →
      wpX11_within a3 2 8 σ_4 (fun r_5 σ_6 =>
      ((¬ r_5 = 0 →
        wpX10_sharing a1 a2 a3 a4 σ_6 (fun r_7 σ_8 =>
        post r_7 σ_8)) ∧
      (r_5 = 0 →
        post (-1) σ_6)))))))))
-- CradleNames.best(IIII)I
def wbX11_best_137  (K52 : Int32 → Int32 → Int32 → Int32 → Int32 → St → Prop) (post : Int32 → St → Prop) (v1 : Int32) (v4 : Int32) (v5 : Int32) (v6 : Int32) (v7 : Int32) (v8 : Int32) (s0 : Int32) (σ : St) : Prop :=
  ((s0 = 0 →
    ∀ v7_1 : Int32, v7_1 = v7 + 1 →
    K52 v1 v4 v5 v6 v7_1 σ) ∧
  (¬ s0 = 0 →
    ∀ v7_2 : Int32, v7_2 = v7 + 1 →
    K52 v1 v4 v7 v8 v7_2 σ))
def wbX11_best_52   (post : Int32 → St → Prop) : Nat → Int32 → Int32 → Int32 → Int32 → Int32 → St → Prop
  | 0, _, _, _, _, _, _ => False
  | n + 1, v1, v4, v5, v6, v7, σ =>
    (((gI σ 1 0) ≤ v7 →
      ((v5 = (-1) →
        post v5 σ) ∧
      (¬ v5 = (-1) →
        ((¬ v4 = 0 →
          post v6 σ) ∧
        (v4 = 0 →
          post v5 σ))))) ∧
    (¬ (gI σ 1 0) ≤ v7 →
      vp_in v7 16 ∧ (
      (((gI σ 50 v7.toNatClampNeg) = 0 →
        ∀ v7_1 : Int32, v7_1 = v7 + 1 →
        wbX11_best_52 post n v1 v4 v5 v6 v7_1 σ) ∧
      (¬ (gI σ 50 v7.toNatClampNeg) = 0 →
        wpX10_akinLastYear v1 v7 σ (fun r_2 σ_3 =>
        ((v5 = (-1) →
          wbX11_best_137 (wbX11_best_52 post n) post v1 v4 v5 v6 v7 r_2 1 σ_3) ∧
        (¬ v5 = (-1) →
          ((r_2 < v6 →
            wbX11_best_137 (wbX11_best_52 post n) post v1 v4 v5 v6 v7 r_2 1 σ_3) ∧
          (¬ r_2 < v6 →
            ((¬ r_2 = v6 →
              wbX11_best_137 (wbX11_best_52 post n) post v1 v4 v5 v6 v7 r_2 0 σ_3) ∧
            (r_2 = v6 →
              vp_in v7 16 ∧ (
              vp_in v5 16 ∧ (
              (((gI σ_3 49 v7.toNatClampNeg) ≤ (gI σ_3 49 v5.toNatClampNeg) →
                wbX11_best_137 (wbX11_best_52 post n) post v1 v4 v5 v6 v7 r_2 0 σ_3) ∧
              (¬ (gI σ_3 49 v7.toNatClampNeg) ≤ (gI σ_3 49 v5.toNatClampNeg) →
                wbX11_best_137 (wbX11_best_52 post n) post v1 v4 v5 v6 v7 r_2 1 σ_3))))))))))))))))
def wpX11_best  (a1 : Int32) (a2 : Int32) (a3 : Int32) (a4 : Int32) (σ : St) (post : Int32 → St → Prop) : Prop :=
  wpX11_isRow a1 a2 a3 σ (fun r_1 σ_2 =>
  ((r_1 = 0 →
    post (-1) σ_2) ∧
  (¬ r_1 = 0 →
    wpX11_within a4 0 1 σ_2 (fun r_3 σ_4 =>
    ((r_3 = 0 →
      post (-1) σ_4) ∧
    (¬ r_3 = 0 →
      ((¬ (gI σ_4 9 0) = 0 →
        wpX11_weighAll a1 a2 a3 σ_4 (fun r_5 σ_6 =>
        ((¬ r_5 = 0 →
          ∃ m_52, wbX11_best_52 post m_52 a1 a4 (-1) 0 0 σ_6) ∧
        (r_5 = 0 →
          post (-1) σ_6)))) ∧
      ((gI σ_4 9 0) = 0 →
        post (-1) σ_4))))))))
-- CradleNames.age(III)I
def wpX11_age  (a1 : Int32) (a2 : Int32) (a3 : Int32) (σ : St) (post : Int32 → St → Prop) : Prop :=
  wpX5_has a1 σ (fun r_1 σ_2 =>
  ((r_1 = 0 →
    post (-1000) σ_2) ∧
  (¬ r_1 = 0 →
    wpX11_within a2 1 100 σ_2 (fun r_3 σ_4 =>
    ((r_3 = 0 →
      post (-1000) σ_4) ∧
    (¬ r_3 = 0 →
      wpX11_within a3 0 2 σ_4 (fun r_5 σ_6 =>
      ((¬ r_5 = 0 →
        wpX10_livingAt a1 ((gI σ_6 9 0) - 1) σ_6 (fun r_7 σ_8 =>
        ((¬ r_7 = 0 →
          ((¬ a3 = 2 →
            wpX10_shortestSpan a1 a2 σ_8 (fun r_9 σ_10 =>
            wpX10_spanStart a1 a2 r_9 σ_10 (fun r_11 σ_12 =>
            ((¬ a3 = 0 →
              post ((r_11 + r_9) - 1) σ_12) ∧
            (a3 = 0 →
              post r_11 σ_12))))) ∧
          (a3 = 2 →
            wpX10_halfBorn a1 σ_8 (fun r_13 σ_14 =>
            post r_13 σ_14)))) ∧
        (r_7 = 0 →
          post (-1000) σ_8)))) ∧
      (r_5 = 0 →
        post (-1000) σ_6)))))))))
-- CradleNames.guess(I)I
def wpX11_guess  (a1 : Int32) (σ : St) (post : Int32 → St → Prop) : Prop :=
  wpX5_has a1 σ (fun r_1 σ_2 =>
  ((r_1 = 0 →
    post (-1) σ_2) ∧
  (¬ r_1 = 0 →
    wpX10_likeliestPlace a1 σ_2 (fun r_3 σ_4 =>
    post r_3 σ_4))))
-- CradleNames.beyondChance(III)I
def wpX11_beyondChance  (a1 : Int32) (a2 : Int32) (a3 : Int32) (σ : St) (post : Int32 → St → Prop) : Prop :=
  wpX0_groupTotal 0 6 a2 a2 σ (fun r_1 σ_2 =>
  wpX10_in a1 a2 σ_2 (fun r_3 σ_4 =>
  wpX10_in a1 (a2 - 1) σ_4 (fun r_5 σ_6 =>
  wpX0_groupTotal 0 6 (a2 - 1) (a2 - 1) σ_6 (fun r_7 σ_8 =>
  ∀ v7_9 : Int32, v7_9 = (r_7 - r_5) →
  wpX6_setDraw r_1 r_5 v7_9 σ_8 (fun σ_11 =>
  wpX6_isRare r_3 r_1 a3 σ_11 (fun r_12 σ_13 =>
  ((r_12 = 0 →
    wpX6_isRare 0 r_3 a3 σ_13 (fun r_14 σ_15 =>
    ((r_14 = 0 →
      post 0 σ_15) ∧
    (¬ r_14 = 0 →
      post 2 σ_15)))) ∧
  (¬ r_12 = 0 →
    post 1 σ_13))))))))
-- CradleNames.chance(III)I
def wbX11_chance_102   (post : Int32 → St → Prop) : Nat → Int32 → Int32 → Int32 → Int32 → St → Prop
  | 0, _, _, _, _, _ => False
  | n + 1, v2, v3, v4, v5, σ =>
    (((gI σ 1 0) ≤ v5 →
      post v4 σ) ∧
    (¬ (gI σ 1 0) ≤ v5 →
      wpX11_beyondChance v5 v2 v3 σ (fun r_1 σ_2 =>
      ((r_1 = 0 →
        ∀ v5_3 : Int32, v5_3 = v5 + 1 →
        wbX11_chance_102 post n v2 v3 v4 v5_3 σ_2) ∧
      (¬ r_1 = 0 →
        ∀ v4_4 : Int32, v4_4 = v4 + 1 →
        ∀ v5_5 : Int32, v5_5 = v5 + 1 →
        wbX11_chance_102 post n v2 v3 v4_4 v5_5 σ_2)))))
def wpX11_chance  (a1 : Int32) (a2 : Int32) (a3 : Int32) (σ : St) (post : Int32 → St → Prop) : Prop :=
  wpX11_within a2 1 ((gI σ 9 0) - 1) σ (fun r_1 σ_2 =>
  ((r_1 = 0 →
    post (-1) σ_2) ∧
  (¬ r_1 = 0 →
    wpX11_within a3 2 1000000 σ_2 (fun r_3 σ_4 =>
    ((¬ r_3 = 0 →
      wpX11_within a1 (-1) ((gI σ_4 1 0) - 1) σ_4 (fun r_5 σ_6 =>
      ((¬ r_5 = 0 →
        wpX0_groupTotal 0 6 a2 a2 σ_6 (fun r_7 σ_8 =>
        ((r_7 = 0 →
          post (-1) σ_8) ∧
        (¬ r_7 = 0 →
          wpX0_groupTotal 0 6 (a2 - 1) (a2 - 1) σ_8 (fun r_9 σ_10 =>
          ((¬ r_9 = 0 →
            ((a1 = (-1) →
              ∃ m_102, wbX11_chance_102 post m_102 a2 a3 0 0 σ_10) ∧
            (¬ a1 = (-1) →
              wpX11_beyondChance a1 a2 a3 σ_10 (fun r_11 σ_12 =>
              post r_11 σ_12)))) ∧
          (r_9 = 0 →
            post (-1) σ_10))))))) ∧
      (r_5 = 0 →
        post (-1) σ_6)))) ∧
    (r_3 = 0 →
      post (-1) σ_4))))))
-- java/lang/Integer.bitCount(I)I
def wpJ6_bitCount_0f7a4  (a1 : Int32) (σ : St) (post : Int32 → St → Prop) : Prop :=
  ∀ v0_1 : Int32, v0_1 = (a1 - ((a1.toUInt32 >>> ((1 : Int32).toUInt32 &&& Int32.toUInt32 31)).toInt32 &&& 1431655765)) →
  ∀ v0_2 : Int32, v0_2 = ((v0_1 &&& 858993459) + ((v0_1.toUInt32 >>> ((2 : Int32).toUInt32 &&& Int32.toUInt32 31)).toInt32 &&& 858993459)) →
  ∀ v0_3 : Int32, v0_3 = ((v0_2 + (v0_2.toUInt32 >>> ((4 : Int32).toUInt32 &&& Int32.toUInt32 31)).toInt32) &&& 252645135) →
  ∀ v0_4 : Int32, v0_4 = (v0_3 + (v0_3.toUInt32 >>> ((8 : Int32).toUInt32 &&& Int32.toUInt32 31)).toInt32) →
  ∀ v0_5 : Int32, v0_5 = (v0_4 + (v0_4.toUInt32 >>> ((16 : Int32).toUInt32 &&& Int32.toUInt32 31)).toInt32) →
  post (v0_5 &&& 63) σ
-- CradleNames.turnover(II)I
def wpX11_turnover  (a1 : Int32) (a2 : Int32) (σ : St) (post : Int32 → St → Prop) : Prop :=
  wpX4_wentBy a1 σ (fun r_1 σ_2 =>
  ((r_1 = 0 →
    post (-1) σ_2) ∧
  (¬ r_1 = 0 →
    wpX11_within a2 1 16 σ_2 (fun r_3 σ_4 =>
    ((¬ r_3 = 0 →
      wpX10_foremost a1 a2 σ_4 (fun r_5 σ_6 =>
      wpX10_foremost (a1 - 1) a2 σ_6 (fun r_7 σ_8 =>
      wpJ6_bitCount_0f7a4 (r_5 &&& (r_7 ^^^ (-1))) σ_8 (fun r_9 σ_10 =>
      post r_9 σ_10)))) ∧
    (r_3 = 0 →
      post (-1) σ_4))))))
-- CradleNames.isPrintable(IIII)Z
def wpX11_isPrintable  (a1 : Int32) (a2 : Int32) (a3 : Int32) (a4 : Int32) (σ : St) (post : Int32 → St → Prop) : Prop :=
  wpX11_within a1 0 60 σ (fun r_1 σ_2 =>
  ((r_1 = 0 →
    post 0 σ_2) ∧
  (¬ r_1 = 0 →
    wpX11_isRow a2 0 a3 σ_2 (fun r_3 σ_4 =>
    ((r_3 = 0 →
      post 0 σ_4) ∧
    (¬ r_3 = 0 →
      wpX5_has a4 σ_4 (fun r_5 σ_6 =>
      ((r_5 = 0 →
        post 0 σ_6) ∧
      (¬ r_5 = 0 →
        post 1 σ_6)))))))))
-- CradleNames.print(IIIII)I
def wpX11_print  (a1 : Int32) (a2 : Int32) (a3 : Int32) (a4 : Int32) (a5 : Int32) (σ : St) (post : Int32 → St → Prop) : Prop :=
  ((150 ≤ (gI σ 64 0) →
    post (-1) σ) ∧
  (¬ 150 ≤ (gI σ 64 0) →
    wpX11_isPrintable a1 a2 a3 a4 σ (fun r_1 σ_2 =>
    ((r_1 = 0 →
      post (-1) σ_2) ∧
    (¬ r_1 = 0 →
      wpX11_within a5 0 99 σ_2 (fun r_3 σ_4 =>
      ((¬ r_3 = 0 →
        wpX7_spot a2 a3 a4 σ_4 (fun r_5 σ_6 =>
        wpX7_add a1 r_5 a5 (gI σ_6 9 0) σ_6 (fun r_7 σ_8 =>
        post r_7 σ_8))) ∧
      (r_3 = 0 →
        post (-1) σ_4))))))))
-- CradleNames.runBy(II)V
def wbX11_runBy_32  (K2 : Int32 → Int32 → St → Prop) (post : St → Prop) : Nat → Int32 → Int32 → Int32 → St → Prop
  | 0, _, _, _, _ => False
  | n + 1, v2, v3, v4, σ =>
    ((60 < v4 →
      wpX7_keepRun 1 v3 σ (fun σ_2 =>
      ∀ v3_3 : Int32, v3_3 = v3 + 1 →
      K2 v2 v3_3 σ_2)) ∧
    (¬ 60 < v4 →
      wpX1_pass 1 v4 v3 σ (fun r_4 σ_5 =>
      ∀ v4_6 : Int32, v4_6 = v4 + 1 →
      wbX11_runBy_32 K2 post n v2 v3 v4_6 σ_5)))
def wbX11_runBy_2   (post : St → Prop) : Nat → Int32 → Int32 → St → Prop
  | 0, _, _, _ => False
  | n + 1, v2, v3, σ =>
    ((v2 < v3 →
      post σ) ∧
    (¬ v2 < v3 →
      wpX7_hasRun v3 σ (fun r_1 σ_2 =>
      ((¬ r_1 = 0 →
        ∀ v3_3 : Int32, v3_3 = v3 + 1 →
        wbX11_runBy_2 post n v2 v3_3 σ_2) ∧
      (r_1 = 0 →
        wpX0_beginFrom 1 0 σ_2 (fun σ_5 =>
        ∃ m_32, wbX11_runBy_32 (wbX11_runBy_2 post n) post m_32 v2 v3 0 σ_5))))))
def wpX11_runBy  (a1 : Int32) (a2 : Int32) (σ : St) (post : St → Prop) : Prop :=
  ∃ m_2, wbX11_runBy_2 post m_2 a2 a1 σ
-- CradleNames.let(II)I
def wbX11_let_52   (post : Int32 → St → Prop) (v2 : Int32) (v3 : Int32) (s0 : Int32) (σ : St) : Prop :=
  wpX11_runBy v3 s0 σ (fun σ_2 =>
  wpX7_agreeing v3 s0 v2 σ_2 (fun r_3 σ_4 =>
  wpJ6_bitCount_0f7a4 r_3 σ_4 (fun r_5 σ_6 =>
  post r_5 σ_6)))
def wbX11_let_36   (post : Int32 → St → Prop) (v1 : Int32) (v2 : Int32) (s0 : Int32) (σ : St) : Prop :=
  ((¬ v1 = (-1) →
    wbX11_let_52 post v2 s0 v1 σ) ∧
  (v1 = (-1) →
    wbX11_let_52 post v2 s0 ((gI σ 0 5) - 1) σ))
def wpX11_let  (a1 : Int32) (a2 : Int32) (σ : St) (post : Int32 → St → Prop) : Prop :=
  wpX11_within a1 (-1) ((gI σ 0 5) - 1) σ (fun r_1 σ_2 =>
  ((r_1 = 0 →
    post (-1) σ_2) ∧
  (¬ r_1 = 0 →
    wpX11_within a2 0 61 σ_2 (fun r_3 σ_4 =>
    ((¬ r_3 = 0 →
      ((¬ a1 = (-1) →
        wbX11_let_36 post a1 a2 a1 σ_4) ∧
      (a1 = (-1) →
        wbX11_let_36 post a1 a2 0 σ_4))) ∧
    (r_3 = 0 →
      post (-1) σ_4))))))
-- CradleNames.span(IIIIZ)I
def wpX11_span  (a1 : Int32) (a2 : Int32) (a3 : Int32) (a4 : Int32) (a5 : Int32) (σ : St) (post : Int32 → St → Prop) : Prop :=
  wpX11_isPrintable a1 a2 a3 a4 σ (fun r_1 σ_2 =>
  ((¬ r_1 = 0 →
    wpX11_runBy 0 ((gI σ_2 0 5) - 1) σ_2 (fun σ_4 =>
    wpX7_agreeing 0 ((gI σ_4 0 5) - 1) (gI σ_4 9 0) σ_4 (fun r_5 σ_6 =>
    wpX7_spot a2 a3 a4 σ_6 (fun r_7 σ_8 =>
    wpX7_bound r_5 a1 r_7 a5 σ_8 (fun r_9 σ_10 =>
    post r_9 σ_10))))) ∧
  (r_1 = 0 →
    post (-1) σ_2)))
-- CradleNames.parts(II)I
def wpX11_parts  (a1 : Int32) (a2 : Int32) (σ : St) (post : Int32 → St → Prop) : Prop :=
  wpX11_within a1 0 60 σ (fun r_1 σ_2 =>
  ((r_1 = 0 →
    post (-1) σ_2) ∧
  (¬ r_1 = 0 →
    wpX11_within a2 0 3 σ_2 (fun r_3 σ_4 =>
    ((¬ r_3 = 0 →
      wpX11_runBy 0 ((gI σ_4 0 5) - 1) σ_4 (fun σ_6 =>
      wpX7_agreeing 0 ((gI σ_6 0 5) - 1) (gI σ_6 9 0) σ_6 (fun r_7 σ_8 =>
      wpX7_widestSpot r_7 a1 σ_8 (fun r_9 σ_10 =>
      ((¬ r_9 = (-1) →
        ((a2 = 0 →
          post (r_9 / 32) σ_10) ∧
        (¬ a2 = 0 →
        ((a2 = 1 →
          post ((r_9 / 16) - (r_9 / 16) / 2 * 2) σ_10) ∧
        (¬ a2 = 1 →
        ((a2 = 2 →
          post (r_9 - r_9 / 16 * 16) σ_10) ∧
        (¬ a2 = 2 →
        wpX7_width r_7 a1 r_9 σ_10 (fun r_11 σ_12 =>
        post r_11 σ_12)))))))) ∧
      (r_9 = (-1) →
        post (-1) σ_10)))))) ∧
    (r_3 = 0 →
      post (-1) σ_4))))))
-- CradleNames.image()I
def wpX11_image   (σ : St) (post : Int32 → St → Prop) : Prop :=
  wpX2_keep 0 σ (fun σ_2 =>
  ∀ σ_3 : St, σ_3 = sI σ_2 70 0 (gI σ_2 1 0) →
  ∀ σ_4 : St, σ_4 = sI σ_3 70 1 (gI σ_3 0 5) →
  ∀ σ_5 : St, σ_5 = sI σ_4 70 2 (gI σ_4 64 0) →
  post (gI σ_5 9 0) σ_5)
-- CradleNames.back()I
def wpX11_back   (σ : St) (post : Int32 → St → Prop) : Prop :=
  wpX2_restore 0 σ (fun σ_2 =>
  ∀ σ_3 : St, σ_3 = sI σ_2 1 0 (gI σ_2 70 0) →
  ∀ σ_4 : St, σ_4 = sI σ_3 0 5 (gI σ_3 70 1) →
  ∀ σ_5 : St, σ_5 = sI σ_4 64 0 (gI σ_4 70 2) →
  wpX7_forgetRuns  σ_5 (fun σ_7 =>
  post (gI σ_7 9 0) σ_7))
-- CradleNames.about(I)I
def wpX11_about  (a1 : Int32) (σ : St) (post : Int32 → St → Prop) : Prop :=
  ((a1 = 0 →
    post (gI σ 9 0) σ) ∧
  (¬ a1 = 0 →
  ((a1 = 1 →
    post (gI σ 1 0) σ) ∧
  (¬ a1 = 1 →
  ((a1 = 2 →
    post (gI σ 9 8) σ) ∧
  (¬ a1 = 2 →
  ((a1 = 3 →
    post (gI σ 9 11) σ) ∧
  (¬ a1 = 3 →
  ((a1 = 4 →
    post (gI σ 0 5) σ) ∧
  (¬ a1 = 4 →
  ((a1 = 5 →
    post (gI σ 64 0) σ) ∧
  (¬ a1 = 5 →
  ((a1 = 6 →
    post (gI σ 42 1) σ) ∧
  (¬ a1 = 6 →
  ((a1 = 7 →
    post (gI σ 9 1) σ) ∧
  (¬ a1 = 7 →
  ((a1 = 8 →
    wpX11_within a1 20 31 σ (fun r_1 σ_2 =>
    ((r_1 = 0 →
      post (-1) σ_2) ∧
    (¬ r_1 = 0 →
      vp_in (a1 - 20) 12 ∧ (
      post (gI σ_2 11 (a1 - 20).toNatClampNeg) σ_2))))) ∧
  (¬ a1 = 8 →
  ((a1 = 9 →
    wpX11_within a1 20 31 σ (fun r_3 σ_4 =>
    ((r_3 = 0 →
      post (-1) σ_4) ∧
    (¬ r_3 = 0 →
      vp_in (a1 - 20) 12 ∧ (
      post (gI σ_4 11 (a1 - 20).toNatClampNeg) σ_4))))) ∧
  (¬ a1 = 9 →
  ((a1 = 10 →
    vp_in 0 2 ∧ (
    post (gI σ 13 (0 : Int32).toNatClampNeg) σ)) ∧
  (¬ a1 = 10 →
  ((a1 = 11 →
    vp_in 1 2 ∧ (
    post (gI σ 13 (1 : Int32).toNatClampNeg) σ)) ∧
  (¬ a1 = 11 →
  wpX11_within a1 20 31 σ (fun r_5 σ_6 =>
  ((r_5 = 0 →
    post (-1) σ_6) ∧
  (¬ r_5 = 0 →
    vp_in (a1 - 20) 12 ∧ (
    post (gI σ_6 11 (a1 - 20).toNatClampNeg) σ_6))))))))))))))))))))))))))))
-- CradleNamesModel.in(III)Z
def wpX12_in  (a1 : Int32) (a2 : Int32) (a3 : Int32) (σ : St) (post : Int32 → St → Prop) : Prop :=
  ((a1 < a2 →
    post 0 σ) ∧
  (¬ a1 < a2 →
    ((a3 < a1 →
      post 0 σ) ∧
    (¬ a3 < a1 →
      post 1 σ))))
-- CradleNamesModel.lesser(II)I
def wpX12_lesser  (a1 : Int32) (a2 : Int32) (σ : St) (post : Int32 → St → Prop) : Prop :=
  ((a2 ≤ a1 →
    post a2 σ) ∧
  (¬ a2 ≤ a1 →
    post a1 σ))
-- CradleNamesModel.greater(II)I
def wpX12_greater  (a1 : Int32) (a2 : Int32) (σ : St) (post : Int32 → St → Prop) : Prop :=
  ((a1 ≤ a2 →
    post a2 σ) ∧
  (¬ a1 ≤ a2 →
    post a1 σ))
-- CradleNamesModel.away(I)I
def wpX12_away  (a1 : Int32) (σ : St) (post : Int32 → St → Prop) : Prop :=
  ((0 ≤ a1 →
    post a1 σ) ∧
  (¬ 0 ≤ a1 →
    post (-a1) σ))
-- CradleNamesModel.copies(Z)V
def wbX12_copies_2   (post : St → Prop) : Nat → Int32 → Int32 → St → Prop
  | 0, _, _, _ => False
  | n + 1, v1, v2, σ =>
    ((9680 ≤ v2 →
      post σ) ∧
    (¬ 9680 ≤ v2 →
      ((v1 = 0 →
        vp_in v2 9680 ∧ (
        vp_in v2 9680 ∧ (
        ∀ σ_1 : St, σ_1 = sI σ 76 v2.toNatClampNeg (gI σ 77 v2.toNatClampNeg) →
        ∀ v2_2 : Int32, v2_2 = v2 + 1 →
        wbX12_copies_2 post n v1 v2_2 σ_1))) ∧
      (¬ v1 = 0 →
        vp_in v2 9680 ∧ (
        vp_in v2 9680 ∧ (
        ∀ σ_3 : St, σ_3 = sI σ 77 v2.toNatClampNeg (gI σ 76 v2.toNatClampNeg) →
        ∀ v2_4 : Int32, v2_4 = v2 + 1 →
        wbX12_copies_2 post n v1 v2_4 σ_3))))))
def wpX12_copies  (a1 : Int32) (σ : St) (post : St → Prop) : Prop :=
  ∃ m_2, wbX12_copies_2 post m_2 a1 0 σ
-- CradleNamesModel.isName(I)Z
def wpX12_isName  (a1 : Int32) (σ : St) (post : Int32 → St → Prop) : Prop :=
  vp_in 1 9680 ∧ (
  wpX12_in a1 0 ((gI σ 76 (1 : Int32).toNatClampNeg) - 1) σ (fun r_1 σ_2 =>
  (r_1 = 0 ∨ r_1 = 1) ∧ post r_1 σ_2))
-- CradleNamesModel.isTaste(I)Z
def wpX12_isTaste  (a1 : Int32) (σ : St) (post : Int32 → St → Prop) : Prop :=
  vp_in 4 9680 ∧ (
  wpX12_in a1 0 ((gI σ 76 (4 : Int32).toNatClampNeg) - 1) σ (fun r_1 σ_2 =>
  (r_1 = 0 ∨ r_1 = 1) ∧ post r_1 σ_2))
-- CradleNamesModel.isCradle(III)Z
def wpX12_isCradle  (a1 : Int32) (a2 : Int32) (a3 : Int32) (σ : St) (post : Int32 → St → Prop) : Prop :=
  wpX12_in a1 0 2 σ (fun r_1 σ_2 =>
  ((r_1 = 0 →
    post 0 σ_2) ∧
  (¬ r_1 = 0 →
    wpX12_in a2 0 1 σ_2 (fun r_3 σ_4 =>
    ((r_3 = 0 →
      post 0 σ_4) ∧
    (¬ r_3 = 0 →
      wpX12_in a3 0 1 σ_4 (fun r_5 σ_6 =>
      ((r_5 = 0 →
        post 0 σ_6) ∧
      (¬ r_5 = 0 →
        post 1 σ_6)))))))))
-- CradleNamesModel.cell(III)I
def wpX12_cell  (a1 : Int32) (a2 : Int32) (a3 : Int32) (σ : St) (post : Int32 → St → Prop) : Prop :=
  post ((((a1 * 2) + a2) * 2) + a3) σ
-- CradleNamesModel.isGone(I)Z
def wpX12_isGone  (a1 : Int32) (σ : St) (post : Int32 → St → Prop) : Prop :=
  vp_in 0 9680 ∧ (
  wpX12_in a1 0 ((gI σ 76 (0 : Int32).toNatClampNeg) - 1) σ (fun r_1 σ_2 =>
  (r_1 = 0 ∨ r_1 = 1) ∧ post r_1 σ_2))
-- CradleNamesModel.letterAt(JI)I
def wpX12_letterAt  (a1 : Int64) (a2 : Int32) (σ : St) (post : Int32 → St → Prop) : Prop :=
  post (((a1 >>> ((5 * a2).toInt64 &&& 63)) &&& 31).toInt32) σ
-- CradleNamesModel.size(J)I
def wbX12_size_2   (post : Int32 → St → Prop) : Nat → Int64 → Int32 → St → Prop
  | 0, _, _, _ => False
  | n + 1, v0, v2, σ =>
    ((12 ≤ v2 →
      post v2 σ) ∧
    (¬ 12 ≤ v2 →
      wpX12_letterAt v0 v2 σ (fun r_1 σ_2 =>
      ((r_1 ≤ 0 →
        post v2 σ_2) ∧
      (¬ r_1 ≤ 0 →
        ∀ v2_3 : Int32, v2_3 = v2 + 1 →
        wbX12_size_2 post n v0 v2_3 σ_2)))))
def wpX12_size  (a1 : Int64) (σ : St) (post : Int32 → St → Prop) : Prop :=
  ∃ m_2, wbX12_size_2 post m_2 a1 0 σ
-- CradleNamesModel.name(JI)I
def wbX12_name_148   (post : Int32 → St → Prop) (v1 : Int64) (v3 : Int32) (v5 : Int32) (σ : St) : Prop :=
  ((¬ v5 = 0 →
    vp_in 1 9680 ∧ (
    vp_in (gI σ 76 (1 : Int32).toNatClampNeg) 16 ∧ (
    ∀ σ_1 : St, σ_1 = sL σ 78 (gI σ 76 (1 : Int32).toNatClampNeg).toNatClampNeg v1 →
    vp_in 1 9680 ∧ (
    vp_in (30 + (gI σ_1 76 (1 : Int32).toNatClampNeg)) 9680 ∧ (
    ∀ σ_2 : St, σ_2 = sI σ_1 76 (30 + (gI σ_1 76 (1 : Int32).toNatClampNeg)).toNatClampNeg v3 →
    vp_in 1 9680 ∧ (
    vp_in 0 9680 ∧ (
    vp_in (1900 + (gI σ_2 76 (1 : Int32).toNatClampNeg)) 9680 ∧ (
    ∀ σ_3 : St, σ_3 = sI σ_2 76 (1900 + (gI σ_2 76 (1 : Int32).toNatClampNeg)).toNatClampNeg (gI σ_2 76 (0 : Int32).toNatClampNeg) →
    vp_in 1 9680 ∧ (
    vp_in 1 9680 ∧ (
    ∀ σ_4 : St, σ_4 = sI σ_3 76 (1 : Int32).toNatClampNeg ((gI σ_3 76 (1 : Int32).toNatClampNeg) + 1) →
    vp_in 1 9680 ∧ (
    post ((gI σ_4 76 (1 : Int32).toNatClampNeg) - 1) σ_4))))))))))) ∧
  (v5 = 0 →
    post (-1) σ))
def wbX12_name_107   (post : Int32 → St → Prop) : Nat → Int64 → Int32 → Int32 → Int32 → St → Prop
  | 0, _, _, _, _, _ => False
  | n + 1, v1, v3, v5, v6, σ =>
    vp_in 1 9680 ∧ (
    (((gI σ 76 (1 : Int32).toNatClampNeg) ≤ v6 →
      wbX12_name_148 post v1 v3 v5 σ) ∧
    (¬ (gI σ 76 (1 : Int32).toNatClampNeg) ≤ v6 →
      ((v5 = 0 →
        wbX12_name_148 post v1 v3 v5 σ) ∧
      (¬ v5 = 0 →
        vp_in v6 16 ∧ (
        (((gL σ 78 v6.toNatClampNeg) = v1 →
          ∀ v6_1 : Int32, v6_1 = v6 + 1 →
          wbX12_name_107 post n v1 v3 0 v6_1 σ) ∧
        (¬ (gL σ 78 v6.toNatClampNeg) = v1 →
          ∀ v6_2 : Int32, v6_2 = v6 + 1 →
          wbX12_name_107 post n v1 v3 1 v6_2 σ))))))))
def wbX12_name_68   (post : Int32 → St → Prop) : Nat → Int64 → Int32 → Int32 → Int32 → Int32 → St → Prop
  | 0, _, _, _, _, _, _ => False
  | n + 1, v1, v3, v4, v5, v6, σ =>
    ((v4 ≤ v6 →
      ∃ m_107, wbX12_name_107 post m_107 v1 v3 v5 0 σ) ∧
    (¬ v4 ≤ v6 →
      ((v5 = 0 →
        ∃ m_107, wbX12_name_107 post m_107 v1 v3 v5 0 σ) ∧
      (¬ v5 = 0 →
        wpX12_letterAt v1 v6 σ (fun r_1 σ_2 =>
        ((27 ≤ r_1 →
          ∀ v6_3 : Int32, v6_3 = v6 + 1 →
          wbX12_name_68 post n v1 v3 v4 0 v6_3 σ_2) ∧
        (¬ 27 ≤ r_1 →
          ∀ v6_4 : Int32, v6_4 = v6 + 1 →
          wbX12_name_68 post n v1 v3 v4 1 v6_4 σ_2)))))))
def wbX12_name_14   (post : Int32 → St → Prop) (v1 : Int64) (v3 : Int32) (s0 : Int32) (σ : St) : Prop :=
  wpX12_in s0 2 10 σ (fun r_1 σ_2 =>
  ((r_1 = 0 →
    ∃ m_68, wbX12_name_68 post m_68 v1 v3 s0 0 0 σ_2) ∧
  (¬ r_1 = 0 →
    wpX12_in v3 1 3 σ_2 (fun r_3 σ_4 =>
    ((r_3 = 0 →
      ∃ m_68, wbX12_name_68 post m_68 v1 v3 s0 0 0 σ_4) ∧
    (¬ r_3 = 0 →
      ((¬ (v1 >>> ((5 * s0).toInt64 &&& 63)) = 0 →
        ∃ m_68, wbX12_name_68 post m_68 v1 v3 s0 0 0 σ_4) ∧
      ((v1 >>> ((5 * s0).toInt64 &&& 63)) = 0 →
        vp_in 1 9680 ∧ (
        ((16 ≤ (gI σ_4 76 (1 : Int32).toNatClampNeg) →
          ∃ m_68, wbX12_name_68 post m_68 v1 v3 s0 0 0 σ_4) ∧
        (¬ 16 ≤ (gI σ_4 76 (1 : Int32).toNatClampNeg) →
          ∃ m_68, wbX12_name_68 post m_68 v1 v3 s0 1 0 σ_4)))))))))))
def wpX12_name  (a1 : Int64) (a2 : Int32) (σ : St) (post : Int32 → St → Prop) : Prop :=
  ((a1 ≤ 0 →
    wbX12_name_14 post a1 a2 0 σ) ∧
  (¬ a1 ≤ 0 →
    wpX12_size a1 σ (fun r_1 σ_2 =>
    wbX12_name_14 post a1 a2 r_1 σ_2)))
-- CradleNamesModel.isVowel(I)Z
def wpX12_isVowel  (a1 : Int32) (σ : St) (post : Int32 → St → Prop) : Prop :=
  ((a1 = 1 →
    post 1 σ) ∧
  (¬ a1 = 1 →
    ((a1 = 5 →
      post 1 σ) ∧
    (¬ a1 = 5 →
      ((a1 = 9 →
        post 1 σ) ∧
      (¬ a1 = 9 →
        ((a1 = 15 →
          post 1 σ) ∧
        (¬ a1 = 15 →
          ((a1 = 21 →
            post 1 σ) ∧
          (¬ a1 = 21 →
            ((¬ a1 = 25 →
              post 0 σ) ∧
            (a1 = 25 →
              post 1 σ))))))))))))
-- CradleNamesModel.ending(J)J
def wbX12_ending_4   (post : Int64 → St → Prop) : Nat → Int64 → Int32 → Int32 → St → Prop
  | 0, _, _, _, _ => False
  | n + 1, v0, v2, v3, σ =>
    wpX12_size v0 σ (fun r_1 σ_2 =>
    ((r_1 ≤ v3 →
      post (v0 >>> ((5 * v2).toInt64 &&& 63)) σ_2) ∧
    (¬ r_1 ≤ v3 →
      wpX12_letterAt v0 v3 σ_2 (fun r_3 σ_4 =>
      wpX12_isVowel r_3 σ_4 (fun r_5 σ_6 =>
      ((r_5 = 0 →
        ∀ v3_7 : Int32, v3_7 = v3 + 1 →
        wbX12_ending_4 post n v0 v2 v3_7 σ_6) ∧
      (¬ r_5 = 0 →
        ∀ v3_8 : Int32, v3_8 = v3 + 1 →
        wbX12_ending_4 post n v0 v3 v3_8 σ_6)))))))
def wpX12_ending  (a1 : Int64) (σ : St) (post : Int64 → St → Prop) : Prop :=
  ∃ m_4, wbX12_ending_4 post m_4 a1 0 0 σ
-- CradleNamesModel.sounds(I)I
def wpX12_sounds  (a1 : Int32) (σ : St) (post : Int32 → St → Prop) : Prop :=
  ((a1 = 3 →
    post 7 σ) ∧
  (¬ a1 = 3 →
  ((a1 = 4 →
    post a1 σ) ∧
  (¬ a1 = 4 →
  ((a1 = 5 →
    post 9 σ) ∧
  (¬ a1 = 5 →
  ((a1 = 6 →
    post 2 σ) ∧
  (¬ a1 = 6 →
  ((a1 = 7 →
    post a1 σ) ∧
  (¬ a1 = 7 →
  ((a1 = 8 →
    post a1 σ) ∧
  (¬ a1 = 8 →
  ((a1 = 9 →
    post a1 σ) ∧
  (¬ a1 = 9 →
  ((a1 = 10 →
    post a1 σ) ∧
  (¬ a1 = 10 →
  ((a1 = 11 →
    post 7 σ) ∧
  (¬ a1 = 11 →
  ((a1 = 12 →
    post a1 σ) ∧
  (¬ a1 = 12 →
  ((a1 = 13 →
    post a1 σ) ∧
  (¬ a1 = 13 →
  ((a1 = 14 →
    post 13 σ) ∧
  (¬ a1 = 14 →
  ((a1 = 15 →
    post a1 σ) ∧
  (¬ a1 = 15 →
  ((a1 = 16 →
    post 2 σ) ∧
  (¬ a1 = 16 →
  ((a1 = 17 →
    post 7 σ) ∧
  (¬ a1 = 17 →
  ((a1 = 18 →
    post a1 σ) ∧
  (¬ a1 = 18 →
  ((a1 = 19 →
    post a1 σ) ∧
  (¬ a1 = 19 →
  ((a1 = 20 →
    post 4 σ) ∧
  (¬ a1 = 20 →
  ((a1 = 21 →
    post 15 σ) ∧
  (¬ a1 = 21 →
  ((a1 = 22 →
    post 2 σ) ∧
  (¬ a1 = 22 →
  ((a1 = 23 →
    post 15 σ) ∧
  (¬ a1 = 23 →
  ((a1 = 24 →
    post 19 σ) ∧
  (¬ a1 = 24 →
  ((a1 = 25 →
    post 9 σ) ∧
  (¬ a1 = 25 →
  ((a1 = 26 →
    post 19 σ) ∧
  (¬ a1 = 26 →
  post a1 σ))))))))))))))))))))))))))))))))))))))))))))))))
-- CradleNamesModel.soundsOf(J)J
def wbX12_soundsOf_11   (post : Int64 → St → Prop) : Nat → Int64 → Int64 → Int32 → Int32 → Int32 → St → Prop
  | 0, _, _, _, _, _, _ => False
  | n + 1, v0, v2, v4, v5, v6, σ =>
    wpX12_size v0 σ (fun r_1 σ_2 =>
    ((r_1 ≤ v6 →
      post v2 σ_2) ∧
    (¬ r_1 ≤ v6 →
      wpX12_letterAt v0 v6 σ_2 (fun r_3 σ_4 =>
      wpX12_sounds r_3 σ_4 (fun r_5 σ_6 =>
      ((r_5 = v5 →
        ∀ v6_7 : Int32, v6_7 = v6 + 1 →
        wbX12_soundsOf_11 post n v0 v2 v4 r_5 v6_7 σ_6) ∧
      (¬ r_5 = v5 →
        ∀ v2_8 : Int64, v2_8 = (v2 ||| (r_5.toInt64 <<< ((5 * v4).toInt64 &&& 63))) →
        ∀ v4_9 : Int32, v4_9 = v4 + 1 →
        ∀ v6_10 : Int32, v6_10 = v6 + 1 →
        wbX12_soundsOf_11 post n v0 v2_8 v4_9 r_5 v6_10 σ_6)))))))
def wpX12_soundsOf  (a1 : Int64) (σ : St) (post : Int64 → St → Prop) : Prop :=
  ∃ m_11, wbX12_soundsOf_11 post m_11 a1 0 0 0 0 σ
-- CradleNamesModel.without(JI)J
def wpX12_without  (a1 : Int64) (a2 : Int32) (σ : St) (post : Int64 → St → Prop) : Prop :=
  post ((a1 &&& ((1 <<< ((5 * a2).toInt64 &&& 63)) - 1)) ||| ((a1 >>> (((5 * a2) + 5).toInt64 &&& 63)) <<< ((5 * a2).toInt64 &&& 63))) σ
-- CradleNamesModel.areAlike(JJ)Z
def wbX12_areAlike_134  (K44 : Int64 → Int64 → Int32 → Int32 → Int32 → Int32 → St → Prop) (post : Int32 → St → Prop) (v4 : Int64) (v6 : Int64) (v8 : Int32) (v9 : Int32) (v11 : Int32) (s0 : Int32) (σ : St) : Prop :=
  ((¬ s0 = 0 →
    ∀ v11_1 : Int32, v11_1 = v11 + 1 →
    K44 v4 v6 v8 v9 1 v11_1 σ) ∧
  (s0 = 0 →
    ((¬ v9 = (v8 + 1) →
      ∀ v11_2 : Int32, v11_2 = v11 + 1 →
      K44 v4 v6 v8 v9 0 v11_2 σ) ∧
    (v9 = (v8 + 1) →
      ((v9 ≤ v11 →
        ∀ v11_3 : Int32, v11_3 = v11 + 1 →
        K44 v4 v6 v8 v9 0 v11_3 σ) ∧
      (¬ v9 ≤ v11 →
        wpX12_without v6 v11 σ (fun r_4 σ_5 =>
        ((¬ r_4 = v4 →
          ∀ v11_6 : Int32, v11_6 = v11 + 1 →
          K44 v4 v6 v8 v9 0 v11_6 σ_5) ∧
        (r_4 = v4 →
          ∀ v11_7 : Int32, v11_7 = v11 + 1 →
          K44 v4 v6 v8 v9 1 v11_7 σ_5)))))))))
def wbX12_areAlike_93  (K44 : Int64 → Int64 → Int32 → Int32 → Int32 → Int32 → St → Prop) (post : Int32 → St → Prop) (v4 : Int64) (v6 : Int64) (v8 : Int32) (v9 : Int32) (v11 : Int32) (s0 : Int32) (σ : St) : Prop :=
  ((¬ s0 = 0 →
    wbX12_areAlike_134 K44 post v4 v6 v8 v9 v11 1 σ) ∧
  (s0 = 0 →
    ((¬ v8 = (v9 + 1) →
      wbX12_areAlike_134 K44 post v4 v6 v8 v9 v11 0 σ) ∧
    (v8 = (v9 + 1) →
      ((v8 ≤ v11 →
        wbX12_areAlike_134 K44 post v4 v6 v8 v9 v11 0 σ) ∧
      (¬ v8 ≤ v11 →
        wpX12_without v4 v11 σ (fun r_1 σ_2 =>
        ((¬ r_1 = v6 →
          wbX12_areAlike_134 K44 post v4 v6 v8 v9 v11 0 σ_2) ∧
        (r_1 = v6 →
          wbX12_areAlike_134 K44 post v4 v6 v8 v9 v11 1 σ_2)))))))))
def wbX12_areAlike_44   (post : Int32 → St → Prop) : Nat → Int64 → Int64 → Int32 → Int32 → Int32 → Int32 → St → Prop
  | 0, _, _, _, _, _, _, _ => False
  | n + 1, v4, v6, v8, v9, v10, v11, σ =>
    ((10 ≤ v11 →
      (v10 = 0 ∨ v10 = 1) ∧ post v10 σ) ∧
    (¬ 10 ≤ v11 →
      ((¬ v10 = 0 →
        wbX12_areAlike_93 (wbX12_areAlike_44 post n) post v4 v6 v8 v9 v11 1 σ) ∧
      (v10 = 0 →
        ((¬ v8 = v9 →
          wbX12_areAlike_93 (wbX12_areAlike_44 post n) post v4 v6 v8 v9 v11 0 σ) ∧
        (v8 = v9 →
          ((v8 ≤ v11 →
            wbX12_areAlike_93 (wbX12_areAlike_44 post n) post v4 v6 v8 v9 v11 0 σ) ∧
          (¬ v8 ≤ v11 →
            wpX12_without v4 v11 σ (fun r_1 σ_2 =>
            wpX12_without v6 v11 σ_2 (fun r_3 σ_4 =>
            ((¬ r_1 = r_3 →
              wbX12_areAlike_93 (wbX12_areAlike_44 post n) post v4 v6 v8 v9 v11 0 σ_4) ∧
            (r_1 = r_3 →
              wbX12_areAlike_93 (wbX12_areAlike_44 post n) post v4 v6 v8 v9 v11 1 σ_4))))))))))))
def wpX12_areAlike  (a1 : Int64) (a2 : Int64) (σ : St) (post : Int32 → St → Prop) : Prop :=
  wpX12_soundsOf a1 σ (fun r_1 σ_2 =>
  wpX12_soundsOf a2 σ_2 (fun r_3 σ_4 =>
  wpX12_size r_1 σ_4 (fun r_5 σ_6 =>
  wpX12_size r_3 σ_6 (fun r_7 σ_8 =>
  ((¬ r_1 = r_3 →
    ∃ m_44, wbX12_areAlike_44 post m_44 r_1 r_3 r_5 r_7 0 0 σ_8) ∧
  (r_1 = r_3 →
    ∃ m_44, wbX12_areAlike_44 post m_44 r_1 r_3 r_5 r_7 1 0 σ_8))))))
-- CradleNamesModel.lowestOf(I)I
def wbX12_lowestOf_2   (post : Int32 → St → Prop) : Nat → Int32 → Int32 → St → Prop
  | 0, _, _, _ => False
  | n + 1, v1, v2, σ =>
    vp_in v2 16 ∧ (
    wpX12_ending (gL σ 78 v2.toNatClampNeg) σ (fun r_1 σ_2 =>
    vp_in v1 16 ∧ (
    wpX12_ending (gL σ_2 78 v1.toNatClampNeg) σ_2 (fun r_3 σ_4 =>
    ((r_1 = r_3 →
      post v2 σ_4) ∧
    (¬ r_1 = r_3 →
      ∀ v2_5 : Int32, v2_5 = v2 + 1 →
      wbX12_lowestOf_2 post n v1 v2_5 σ_4))))))
def wpX12_lowestOf  (a1 : Int32) (σ : St) (post : Int32 → St → Prop) : Prop :=
  ∃ m_2, wbX12_lowestOf_2 post m_2 a1 0 σ
-- CradleNamesModel.all(II)I
def wpX12_all  (a1 : Int32) (a2 : Int32) (σ : St) (post : Int32 → St → Prop) : Prop :=
  (((-40) ≤ a1 →
    vp_in ((16 * (a1 + 40)) + a2) 1616 ∧ (
    post (gI σ 99 ((16 * (a1 + 40)) + a2).toNatClampNeg) σ)) ∧
  (¬ (-40) ≤ a1 →
    post 0 σ))
-- CradleNamesModel.words(IIII)V
def wbX12_words_315   (post : St → Prop) (v1 : Int32) (v4 : Int32) (s0 : Int64) (s1 : Int32) (σ : St) : Prop :=
  vp_in s1 14 ∧ (
  ∀ σ_1 : St, σ_1 = sL σ 96 s1.toNatClampNeg s0 →
  vp_in v4 16 ∧ (
  vp_in 9 14 ∧ (
  ∀ σ_2 : St, σ_2 = sL σ_1 96 (9 : Int32).toNatClampNeg ((gI σ_1 110 v4.toNatClampNeg).toInt64) →
  vp_in v4 16 ∧ (
  vp_in 10 14 ∧ (
  ∀ σ_3 : St, σ_3 = sL σ_2 96 (10 : Int32).toNatClampNeg ((gI σ_2 111 v4.toNatClampNeg).toInt64) →
  vp_in v4 16 ∧ (
  vp_in 11 14 ∧ (
  ∀ σ_4 : St, σ_4 = sL σ_3 96 (11 : Int32).toNatClampNeg ((gI σ_3 112 v4.toNatClampNeg).toInt64) →
  vp_in v4 16 ∧ (
  wpX12_size (gL σ_4 78 v4.toNatClampNeg) σ_4 (fun r_5 σ_6 =>
  vp_in 12 14 ∧ (
  ∀ σ_7 : St, σ_7 = sL σ_6 96 (12 : Int32).toNatClampNeg r_5.toInt64 →
  vp_in 13 14 ∧ (
  ∀ σ_8 : St, σ_8 = sL σ_7 96 (13 : Int32).toNatClampNeg v1.toInt64 →
  post σ_8)))))))))))
def wbX12_words_135   (post : St → Prop) (v1 : Int32) (v3 : Int32) (v4 : Int32) (s0 : Int64) (s1 : Int32) (σ : St) : Prop :=
  vp_in s1 14 ∧ (
  ∀ σ_1 : St, σ_1 = sL σ 96 s1.toNatClampNeg s0 →
  vp_in (((32 * v3) + (16 * v3)) + v4) 64 ∧ (
  vp_in (((32 * (v1 + 40)) + (16 * v3)) + v4) 3232 ∧ (
  vp_in 3 14 ∧ (
  ∀ σ_2 : St, σ_2 = sL σ_1 96 (3 : Int32).toNatClampNeg (((gI σ_1 106 (((32 * v3) + (16 * v3)) + v4).toNatClampNeg) + (gI σ_1 101 (((32 * (v1 + 40)) + (16 * v3)) + v4).toNatClampNeg)).toInt64) →
  vp_in v4 32 ∧ (
  vp_in ((32 * (v1 + 40)) + v4) 3232 ∧ (
  vp_in 4 14 ∧ (
  ∀ σ_3 : St, σ_3 = sL σ_2 96 (4 : Int32).toNatClampNeg (((gI σ_2 108 v4.toNatClampNeg) + (gI σ_2 102 ((32 * (v1 + 40)) + v4).toNatClampNeg)).toInt64) →
  vp_in (16 + v4) 32 ∧ (
  vp_in (((32 * (v1 + 40)) + 16) + v4) 3232 ∧ (
  vp_in 5 14 ∧ (
  ∀ σ_4 : St, σ_4 = sL σ_3 96 (5 : Int32).toNatClampNeg (((gI σ_3 108 (16 + v4).toNatClampNeg) + (gI σ_3 102 (((32 * (v1 + 40)) + 16) + v4).toNatClampNeg)).toInt64) →
  vp_in ((16 * v3) + v4) 32 ∧ (
  vp_in 6 14 ∧ (
  ∀ σ_5 : St, σ_5 = sL σ_4 96 (6 : Int32).toNatClampNeg ((gI σ_4 107 ((16 * v3) + v4).toNatClampNeg).toInt64) →
  vp_in 4 14 ∧ (
  vp_in 5 14 ∧ (
  vp_in 7 14 ∧ (
  ∀ σ_6 : St, σ_6 = sL σ_5 96 (7 : Int32).toNatClampNeg ((gL σ_5 96 (4 : Int32).toNatClampNeg) + (gL σ_5 96 (5 : Int32).toNatClampNeg)) →
  wpX12_all v1 v4 σ_6 (fun r_7 σ_8 =>
  ((r_7 ≤ 0 →
    vp_in v4 16 ∧ (
    wbX12_words_315 post v1 v4 ((gI σ_8 109 v4.toNatClampNeg).toInt64) 8 σ_8)) ∧
  (¬ r_7 ≤ 0 →
    wbX12_words_315 post v1 v4 0 8 σ_8))))))))))))))))))
def wbX12_words_6   (post : St → Prop) : Nat → Int32 → Int32 → Int32 → Int32 → Int32 → Int32 → St → Prop
  | 0, _, _, _, _, _, _, _ => False
  | n + 1, v1, v2, v3, v4, v5, v6, σ =>
    ((3 ≤ v6 →
      vp_in 1 14 ∧ (
      ∀ σ_1 : St, σ_1 = sL σ 96 (1 : Int32).toNatClampNeg v5.toInt64 →
      ((¬ v3 = 1 →
        wbX12_words_135 post v1 v3 v4 0 2 σ_1) ∧
      (v3 = 1 →
        vp_in (32 + v4) 64 ∧ (
        vp_in ((32 * (v1 + 40)) + v4) 3232 ∧ (
        wbX12_words_135 post v1 v3 v4 (((gI σ_1 106 (32 + v4).toNatClampNeg) + (gI σ_1 101 ((32 * (v1 + 40)) + v4).toNatClampNeg)).toInt64) 2 σ_1)))))) ∧
    (¬ 3 ≤ v6 →
      vp_in (((48 * v3) + (16 * v6)) + v4) 96 ∧ (
      vp_in (((48 * (v1 + 40)) + (16 * v6)) + v4) 4848 ∧ (
      ∀ v7_2 : Int32, v7_2 = ((gI σ 105 (((48 * v3) + (16 * v6)) + v4).toNatClampNeg) + (gI σ 100 (((48 * (v1 + 40)) + (16 * v6)) + v4).toNatClampNeg)) →
      ((¬ v6 = v2 →
        ∀ v5_3 : Int32, v5_3 = (v5 + v7_2) →
        ∀ v6_4 : Int32, v6_4 = v6 + 1 →
        wbX12_words_6 post n v1 v2 v3 v4 v5_3 v6_4 σ) ∧
      (v6 = v2 →
        vp_in 0 14 ∧ (
        ∀ σ_5 : St, σ_5 = sL σ 96 (0 : Int32).toNatClampNeg v7_2.toInt64 →
        ∀ v6_6 : Int32, v6_6 = v6 + 1 →
        wbX12_words_6 post n v1 v2 v3 v4 v5 v6_6 σ_5)))))))
def wpX12_words  (a1 : Int32) (a2 : Int32) (a3 : Int32) (a4 : Int32) (σ : St) (post : St → Prop) : Prop :=
  ∃ m_6, wbX12_words_6 post m_6 a1 a2 a3 a4 0 0 σ
-- CradleNamesModel.bound(J)J
def wpX12_bound  (a1 : Int64) (σ : St) (post : Int64 → St → Prop) : Prop :=
  ((a1 ≤ 1000000000 →
    (((-1000000000) ≤ a1 →
      post a1 σ) ∧
    (¬ (-1000000000) ≤ a1 →
      post (-1000000000) σ))) ∧
  (¬ a1 ≤ 1000000000 →
    post 1000000000 σ))
-- CradleNamesModel.worked(IJJ)J
def wpX12_worked  (a1 : Int32) (a2 : Int64) (a3 : Int64) (σ : St) (post : Int64 → St → Prop) : Prop :=
  ((a1 = 35 →
    ((a2 = a3 →
      post 0 σ) ∧
    (¬ a2 = a3 →
      post 1 σ))) ∧
  (¬ a1 = 35 →
  ((a1 = 42 →
    wpX12_bound (a2 * a3) σ (fun r_1 σ_2 =>
    post r_1 σ_2)) ∧
  (¬ a1 = 42 →
  ((a1 = 43 →
    wpX12_bound (a2 + a3) σ (fun r_3 σ_4 =>
    post r_3 σ_4)) ∧
  (¬ a1 = 43 →
  ((a1 = 45 →
    wpX12_bound (a2 - a3) σ (fun r_5 σ_6 =>
    post r_5 σ_6)) ∧
  (¬ a1 = 45 →
  ((a1 = 47 →
    ((¬ a3 = 0 →
      ¬ a3 = 0 ∧ (
      post (a2 / a3) σ)) ∧
    (a3 = 0 →
      post 0 σ))) ∧
  (¬ a1 = 47 →
  ((a1 = 60 →
    ((a3 ≤ a2 →
      post 0 σ) ∧
    (¬ a3 ≤ a2 →
      post 1 σ))) ∧
  (¬ a1 = 60 →
  ((a1 = 61 →
    ((¬ a2 = a3 →
      post 0 σ) ∧
    (a2 = a3 →
      post 1 σ))) ∧
  (¬ a1 = 61 →
  ((a1 = 62 →
    ((a2 ≤ a3 →
      post 0 σ) ∧
    (¬ a2 ≤ a3 →
      post 1 σ))) ∧
  (¬ a1 = 62 →
  ((a1 = 300 →
    ((a3 < a2 →
      post 0 σ) ∧
    (¬ a3 < a2 →
      post 1 σ))) ∧
  (¬ a1 = 300 →
  ((a1 = 301 →
    ((a2 < a3 →
      post 0 σ) ∧
    (¬ a2 < a3 →
      post 1 σ))) ∧
  (¬ a1 = 301 →
  ((a1 = 403 →
    ((a3 ≤ a2 →
      post a3 σ) ∧
    (¬ a3 ≤ a2 →
      post a2 σ))) ∧
  (¬ a1 = 403 →
  ((a1 = 404 →
    ((a2 ≤ a3 →
      post a3 σ) ∧
    (¬ a2 ≤ a3 →
      post a2 σ))) ∧
  (¬ a1 = 404 →
  ((a1 = 406 →
    post (a2 * a3) σ) ∧
  (¬ a1 = 406 →
  (((a2 + a3) ≤ 0 →
    post 0 σ) ∧
  (¬ (a2 + a3) ≤ 0 →
    post 1 σ))))))))))))))))))))))))))))
-- CradleNamesModel.tells(I)J
def wbX12_tells_40  (K4 : Int32 → Int32 → St → Prop) (post : Int64 → St → Prop) (v2 : Int32) (v3 : Int32) (v4 : Int32) (σ : St) : Prop :=
  ((¬ v4 = 400 →
    vp_in v3 2400 ∧ (
    vp_in (gI σ 86 v3.toNatClampNeg) 14 ∧ (
    vp_in v2 200 ∧ (
    ∀ σ_1 : St, σ_1 = sL σ 97 v2.toNatClampNeg (gL σ 96 (gI σ 86 v3.toNatClampNeg).toNatClampNeg) →
    ∀ v2_2 : Int32, v2_2 = v2 + 1 →
    ∀ v3_3 : Int32, v3_3 = v3 + 1 →
    K4 v2_2 v3_3 σ_1)))) ∧
  (v4 = 400 →
    vp_in v3 2400 ∧ (
    vp_in v2 200 ∧ (
    ∀ σ_4 : St, σ_4 = sL σ 97 v2.toNatClampNeg ((gI σ 86 v3.toNatClampNeg).toInt64) →
    ∀ v2_5 : Int32, v2_5 = v2 + 1 →
    ∀ v3_6 : Int32, v3_6 = v3 + 1 →
    K4 v2_5 v3_6 σ_4))))
def wbX12_tells_4   (post : Int64 → St → Prop) : Nat → Int32 → Int32 → St → Prop
  | 0, _, _, _ => False
  | n + 1, v2, v3, σ =>
    vp_in v3 2400 ∧ (
    (((gI σ 85 v3.toNatClampNeg) = 408 →
      vp_in 0 200 ∧ (
      post (gL σ 97 (0 : Int32).toNatClampNeg) σ)) ∧
    (¬ (gI σ 85 v3.toNatClampNeg) = 408 →
      vp_in v3 2400 ∧ (
      ∀ v4_1 : Int32, v4_1 = (gI σ 85 v3.toNatClampNeg) →
      ((v4_1 = 400 →
        wbX12_tells_40 (wbX12_tells_4 post n) post v2 v3 v4_1 σ) ∧
      (¬ v4_1 = 400 →
        ((¬ v4_1 = 401 →
          ((¬ v4_1 = 402 →
            ((¬ v4_1 = 405 →
              ∀ v2_2 : Int32, v2_2 = v2 + (-1) →
              vp_in (v2_2 - 1) 200 ∧ (
              vp_in v2_2 200 ∧ (
              wpX12_worked v4_1 (gL σ 97 (v2_2 - 1).toNatClampNeg) (gL σ 97 v2_2.toNatClampNeg) σ (fun r_3 σ_4 =>
              vp_in (v2_2 - 1) 200 ∧ (
              ∀ σ_5 : St, σ_5 = sL σ_4 97 (v2_2 - 1).toNatClampNeg r_3 →
              ∀ v3_6 : Int32, v3_6 = v3 + 1 →
              wbX12_tells_4 post n v2_2 v3_6 σ_5))))) ∧
            (v4_1 = 405 →
              vp_in (v2 - 1) 200 ∧ (
              vp_in (v2 - 1) 200 ∧ (
              ∀ σ_7 : St, σ_7 = sL σ 97 (v2 - 1).toNatClampNeg (1 - (gL σ 97 (v2 - 1).toNatClampNeg)) →
              ∀ v3_8 : Int32, v3_8 = v3 + 1 →
              wbX12_tells_4 post n v2 v3_8 σ_7))))) ∧
          (v4_1 = 402 →
            vp_in (v2 - 1) 200 ∧ (
            vp_in (v2 - 1) 200 ∧ (
            ∀ σ_9 : St, σ_9 = sL σ 97 (v2 - 1).toNatClampNeg (-(gL σ 97 (v2 - 1).toNatClampNeg)) →
            ∀ v3_10 : Int32, v3_10 = v3 + 1 →
            wbX12_tells_4 post n v2 v3_10 σ_9))))) ∧
        (v4_1 = 401 →
          wbX12_tells_40 (wbX12_tells_4 post n) post v2 v3 v4_1 σ))))))))
def wpX12_tells  (a1 : Int32) (σ : St) (post : Int64 → St → Prop) : Prop :=
  ∃ m_4, wbX12_tells_4 post m_4 0 a1 σ
-- CradleNamesModel.isBarred(I)Z
def wbX12_isBarred_4   (post : Int32 → St → Prop) : Nat → Int32 → Int32 → Int32 → St → Prop
  | 0, _, _, _, _ => False
  | n + 1, v1, v2, v3, σ =>
    vp_in v1 6 ∧ (
    (((gI σ 80 v1.toNatClampNeg) ≤ v3 →
      (v2 = 0 ∨ v2 = 1) ∧ post v2 σ) ∧
    (¬ (gI σ 80 v1.toNatClampNeg) ≤ v3 →
      vp_in ((12 * v1) + v3) 72 ∧ (
      ((¬ (gI σ 81 ((12 * v1) + v3).toNatClampNeg) = 1 →
        ∀ v3_1 : Int32, v3_1 = v3 + 1 →
        wbX12_isBarred_4 post n v1 v2 v3_1 σ) ∧
      ((gI σ 81 ((12 * v1) + v3).toNatClampNeg) = 1 →
        ((¬ v2 = 0 →
          ∀ v3_2 : Int32, v3_2 = v3 + 1 →
          wbX12_isBarred_4 post n v1 1 v3_2 σ) ∧
        (v2 = 0 →
          vp_in ((12 * v1) + v3) 72 ∧ (
          wpX12_tells (gI σ 82 ((12 * v1) + v3).toNatClampNeg) σ (fun r_3 σ_4 =>
          ((r_3 ≤ 0 →
            ∀ v3_5 : Int32, v3_5 = v3 + 1 →
            wbX12_isBarred_4 post n v1 0 v3_5 σ_4) ∧
          (¬ r_3 ≤ 0 →
            ∀ v3_6 : Int32, v3_6 = v3 + 1 →
            wbX12_isBarred_4 post n v1 1 v3_6 σ_4))))))))))))
def wpX12_isBarred  (a1 : Int32) (σ : St) (post : Int32 → St → Prop) : Prop :=
  ∃ m_4, wbX12_isBarred_4 post m_4 a1 0 0 σ
-- CradleNamesModel.may(IIII)Z
def wbX12_may_53   (post : Int32 → St → Prop) (v2 : Int32) (σ : St) : Prop :=
  vp_in v2 2 ∧ (
  wpX12_isBarred (gI σ 104 v2.toNatClampNeg) σ (fun r_1 σ_2 =>
  ((¬ r_1 = 0 →
    post 0 σ_2) ∧
  (r_1 = 0 →
    post 1 σ_2))))
def wpX12_may  (a1 : Int32) (a2 : Int32) (a3 : Int32) (a4 : Int32) (σ : St) (post : Int32 → St → Prop) : Prop :=
  vp_in (1900 + a4) 9680 ∧ (
  ((a1 < (gI σ 76 (1900 + a4).toNatClampNeg) →
    post 0 σ) ∧
  (¬ a1 < (gI σ 76 (1900 + a4).toNatClampNeg) →
    vp_in (30 + a4) 9680 ∧ (
    ((¬ (((gI σ 76 (30 + a4).toNatClampNeg) >>> (a3 &&& 31)) &&& 1) = 1 →
      post 0 σ) ∧
    ((((gI σ 76 (30 + a4).toNatClampNeg) >>> (a3 &&& 31)) &&& 1) = 1 →
      (((gI σ 75 55) = 0 →
        wbX12_may_53 post a2 σ) ∧
      (¬ (gI σ 75 55) = 0 →
        ((¬ (((gI σ 75 55) >>> (a4 &&& 31)) &&& 1) = 1 →
          post 0 σ) ∧
        ((((gI σ 75 55) >>> (a4 &&& 31)) &&& 1) = 1 →
          wbX12_may_53 post a2 σ))))))))))
-- CradleNamesModel.worthOf(I)J
def wbX12_worthOf_5   (post : Int64 → St → Prop) : Nat → Int32 → Int64 → Int32 → St → Prop
  | 0, _, _, _, _ => False
  | n + 1, v1, v2, v4, σ =>
    vp_in v1 6 ∧ (
    (((gI σ 80 v1.toNatClampNeg) ≤ v4 →
      post v2 σ) ∧
    (¬ (gI σ 80 v1.toNatClampNeg) ≤ v4 →
      vp_in ((12 * v1) + v4) 72 ∧ (
      ((¬ (gI σ 81 ((12 * v1) + v4).toNatClampNeg) = 0 →
        ∀ v4_1 : Int32, v4_1 = v4 + 1 →
        wbX12_worthOf_5 post n v1 v2 v4_1 σ) ∧
      ((gI σ 81 ((12 * v1) + v4).toNatClampNeg) = 0 →
        vp_in ((12 * v1) + v4) 72 ∧ (
        wpX12_tells (gI σ 82 ((12 * v1) + v4).toNatClampNeg) σ (fun r_2 σ_3 =>
        ∀ v4_4 : Int32, v4_4 = v4 + 1 →
        wbX12_worthOf_5 post n v1 r_2 v4_4 σ_3))))))))
def wpX12_worthOf  (a1 : Int32) (σ : St) (post : Int64 → St → Prop) : Prop :=
  ∃ m_5, wbX12_worthOf_5 post m_5 a1 0 0 σ
-- CradleNamesModel.chooses(IIII)V
def wbX12_chooses_86  (K13 : Int32 → Int32 → Int32 → Int32 → Int32 → St → Prop) (post : St → Prop) (v1 : Int32) (v2 : Int32) (v3 : Int32) (v4 : Int32) (v5 : Int32) (v6 : Int64) (σ : St) : Prop :=
  ∀ σ_1 : St, σ_1 = sI σ 75 56 v5 →
  ∀ σ_2 : St, σ_2 = sL σ_1 75 57 v6 →
  ∀ v5_3 : Int32, v5_3 = v5 + 1 →
  K13 v1 v2 v3 v4 v5_3 σ_2
def wbX12_chooses_13   (post : St → Prop) : Nat → Int32 → Int32 → Int32 → Int32 → Int32 → St → Prop
  | 0, _, _, _, _, _, _ => False
  | n + 1, v1, v2, v3, v4, v5, σ =>
    vp_in 1 9680 ∧ (
    (((gI σ 76 (1 : Int32).toNatClampNeg) ≤ v5 →
      post σ) ∧
    (¬ (gI σ 76 (1 : Int32).toNatClampNeg) ≤ v5 →
      vp_in v3 2 ∧ (
      (((gI σ 104 v3.toNatClampNeg) = (-1) →
        post σ) ∧
      (¬ (gI σ 104 v3.toNatClampNeg) = (-1) →
        wpX12_words v1 v2 v3 v5 σ (fun σ_2 =>
        wpX12_may v1 v3 v4 v5 σ_2 (fun r_3 σ_4 =>
        ((r_3 = 0 →
          ∀ v5_5 : Int32, v5_5 = v5 + 1 →
          wbX12_chooses_13 post n v1 v2 v3 v4 v5_5 σ_4) ∧
        (¬ r_3 = 0 →
          vp_in v3 2 ∧ (
          wpX12_worthOf (gI σ_4 104 v3.toNatClampNeg) σ_4 (fun r_6 σ_7 =>
          (((gI σ_7 75 56) = (-1) →
            wbX12_chooses_86 (wbX12_chooses_13 post n) post v1 v2 v3 v4 v5 r_6 σ_7) ∧
          (¬ (gI σ_7 75 56) = (-1) →
            ((r_6 ≤ (gL σ_7 75 57) →
              ∀ v5_8 : Int32, v5_8 = v5 + 1 →
              wbX12_chooses_13 post n v1 v2 v3 v4 v5_8 σ_7) ∧
            (¬ r_6 ≤ (gL σ_7 75 57) →
              wbX12_chooses_86 (wbX12_chooses_13 post n) post v1 v2 v3 v4 v5 r_6 σ_7))))))))))))))))
def wpX12_chooses  (a1 : Int32) (a2 : Int32) (a3 : Int32) (a4 : Int32) (σ : St) (post : St → Prop) : Prop :=
  ∀ σ_1 : St, σ_1 = sI σ 75 56 (-1) →
  ∀ σ_2 : St, σ_2 = sL σ_1 75 57 0 →
  ∃ m_13, wbX12_chooses_13 post m_13 a1 a2 a3 a4 0 σ_2
-- CradleNamesModel.gives(IIIIII)V
def wpX12_gives  (a1 : Int32) (a2 : Int32) (a3 : Int32) (a4 : Int32) (a5 : Int32) (a6 : Int32) (σ : St) (post : St → Prop) : Prop :=
  ∀ v7_1 : Int32, v7_1 = (a1 + 40) →
  wpX12_cell a2 a3 a4 σ (fun r_2 σ_3 =>
  vp_in (((192 * v7_1) + (16 * r_2)) + a5) 19392 ∧ (
  vp_in (((192 * v7_1) + (16 * r_2)) + a5) 19392 ∧ (
  ∀ σ_4 : St, σ_4 = sI σ_3 98 (((192 * v7_1) + (16 * r_2)) + a5).toNatClampNeg ((gI σ_3 98 (((192 * v7_1) + (16 * r_2)) + a5).toNatClampNeg) + a6) →
  vp_in ((16 * v7_1) + a5) 1616 ∧ (
  vp_in ((16 * v7_1) + a5) 1616 ∧ (
  ∀ σ_5 : St, σ_5 = sI σ_4 99 ((16 * v7_1) + a5).toNatClampNeg ((gI σ_4 99 ((16 * v7_1) + a5).toNatClampNeg) + a6) →
  vp_in (((48 * v7_1) + (16 * a2)) + a5) 4848 ∧ (
  vp_in (((48 * v7_1) + (16 * a2)) + a5) 4848 ∧ (
  ∀ σ_6 : St, σ_6 = sI σ_5 100 (((48 * v7_1) + (16 * a2)) + a5).toNatClampNeg ((gI σ_5 100 (((48 * v7_1) + (16 * a2)) + a5).toNatClampNeg) + a6) →
  vp_in (((32 * v7_1) + (16 * a3)) + a5) 3232 ∧ (
  vp_in (((32 * v7_1) + (16 * a3)) + a5) 3232 ∧ (
  ∀ σ_7 : St, σ_7 = sI σ_6 101 (((32 * v7_1) + (16 * a3)) + a5).toNatClampNeg ((gI σ_6 101 (((32 * v7_1) + (16 * a3)) + a5).toNatClampNeg) + a6) →
  vp_in (((32 * v7_1) + (16 * a4)) + a5) 3232 ∧ (
  vp_in (((32 * v7_1) + (16 * a4)) + a5) 3232 ∧ (
  ∀ σ_8 : St, σ_8 = sI σ_7 102 (((32 * v7_1) + (16 * a4)) + a5).toNatClampNeg ((gI σ_7 102 (((32 * v7_1) + (16 * a4)) + a5).toNatClampNeg) + a6) →
  post σ_8)))))))))))
-- CradleNamesModel.rocks(IIII)V
def wpX12_rocks  (a1 : Int32) (a2 : Int32) (a3 : Int32) (a4 : Int32) (σ : St) (post : St → Prop) : Prop :=
  wpX12_chooses a1 a2 a3 a4 σ (fun σ_2 =>
  ((¬ (gI σ_2 75 56) = (-1) →
    wpX12_gives a1 a2 a3 a4 (gI σ_2 75 56) 1 σ_2 (fun σ_4 =>
    post σ_4)) ∧
  ((gI σ_2 75 56) = (-1) →
    vp_in a1 61 ∧ (
    vp_in a1 61 ∧ (
    ∀ σ_5 : St, σ_5 = sI σ_2 103 a1.toNatClampNeg ((gI σ_2 103 a1.toNatClampNeg) + 1) →
    post σ_5)))))
-- CradleNamesModel.laysOf(III)V
def wbX12_laysOf_95  (K86 : Int32 → Int32 → Int32 → Int32 → Int32 → St → Prop) (post : St → Prop) : Nat → Int32 → Int32 → Int32 → Int32 → Int32 → Int32 → St → Prop
  | 0, _, _, _, _, _, _, _ => False
  | n + 1, v1, v2, v3, v4, v5, v6, σ =>
    ((3 ≤ v6 →
      vp_in ((32 * v2) + v3) 64 ∧ (
      vp_in ((32 * (v5 + 40)) + v3) 3232 ∧ (
      vp_in ((32 * v2) + v3) 64 ∧ (
      ∀ σ_1 : St, σ_1 = sI σ 106 ((32 * v2) + v3).toNatClampNeg ((gI σ 106 ((32 * v2) + v3).toNatClampNeg) + (gI σ 101 ((32 * (v5 + 40)) + v3).toNatClampNeg)) →
      vp_in (((32 * v2) + 16) + v3) 64 ∧ (
      vp_in (((32 * (v5 + 40)) + 16) + v3) 3232 ∧ (
      vp_in (((32 * v2) + 16) + v3) 64 ∧ (
      ∀ σ_2 : St, σ_2 = sI σ_1 106 (((32 * v2) + 16) + v3).toNatClampNeg ((gI σ_1 106 (((32 * v2) + 16) + v3).toNatClampNeg) + (gI σ_1 101 (((32 * (v5 + 40)) + 16) + v3).toNatClampNeg)) →
      ∀ v5_3 : Int32, v5_3 = v5 + 1 →
      K86 v1 v2 v3 v4 v5_3 σ_2))))))) ∧
    (¬ 3 ≤ v6 →
      vp_in (((48 * v2) + (16 * v6)) + v3) 96 ∧ (
      vp_in (((48 * (v5 + 40)) + (16 * v6)) + v3) 4848 ∧ (
      vp_in (((48 * v2) + (16 * v6)) + v3) 96 ∧ (
      ∀ σ_4 : St, σ_4 = sI σ 105 (((48 * v2) + (16 * v6)) + v3).toNatClampNeg ((gI σ 105 (((48 * v2) + (16 * v6)) + v3).toNatClampNeg) + (gI σ 100 (((48 * (v5 + 40)) + (16 * v6)) + v3).toNatClampNeg)) →
      ∀ v6_5 : Int32, v6_5 = v6 + 1 →
      wbX12_laysOf_95 K86 post n v1 v2 v3 v4 v5 v6_5 σ_4)))))
def wbX12_laysOf_239   (post : St → Prop) : Nat → Int32 → Int32 → Int32 → Int32 → Int32 → Int32 → St → Prop
  | 0, _, _, _, _, _, _, _ => False
  | n + 1, v1, v2, v3, v4, v5, v6, σ =>
    vp_in v4 6 ∧ (
    (((v1 - (gI σ 84 v4.toNatClampNeg)) < v6 →
      vp_in ((16 * v2) + v3) 32 ∧ (
      ∀ σ_1 : St, σ_1 = sI σ 107 ((16 * v2) + v3).toNatClampNeg v5 →
      post σ_1)) ∧
    (¬ (v1 - (gI σ 84 v4.toNatClampNeg)) < v6 →
      wpX12_all v6 v3 σ (fun r_2 σ_3 =>
      ∀ v5_4 : Int32, v5_4 = (v5 + r_2) →
      ∀ v6_5 : Int32, v6_5 = v6 + 1 →
      wbX12_laysOf_239 post n v1 v2 v3 v4 v5_4 v6_5 σ_3))))
def wbX12_laysOf_86   (post : St → Prop) : Nat → Int32 → Int32 → Int32 → Int32 → Int32 → St → Prop
  | 0, _, _, _, _, _, _ => False
  | n + 1, v1, v2, v3, v4, v5, σ =>
    ((v1 ≤ v5 →
      vp_in 6 9680 ∧ (
      wpX12_greater (-40) ((v1 - (gI σ 76 (6 : Int32).toNatClampNeg)) + 1) σ (fun r_1 σ_2 =>
      ∃ m_239, wbX12_laysOf_239 post m_239 v1 v2 v3 v4 0 r_1 σ_2))) ∧
    (¬ v1 ≤ v5 →
      ∃ m_95, wbX12_laysOf_95 (wbX12_laysOf_86 post n) post m_95 v1 v2 v3 v4 v5 0 σ))
def wbX12_laysOf_11   (post : St → Prop) : Nat → Int32 → Int32 → Int32 → Int32 → Int32 → St → Prop
  | 0, _, _, _, _, _, _ => False
  | n + 1, v1, v2, v3, v4, v5, σ =>
    ((3 ≤ v5 →
      vp_in ((32 * v2) + v3) 64 ∧ (
      ∀ σ_1 : St, σ_1 = sI σ 106 ((32 * v2) + v3).toNatClampNeg 0 →
      vp_in (((32 * v2) + 16) + v3) 64 ∧ (
      ∀ σ_2 : St, σ_2 = sI σ_1 106 (((32 * v2) + 16) + v3).toNatClampNeg 0 →
      vp_in v4 6 ∧ (
      wpX12_greater (-40) ((v1 - (gI σ_2 83 v4.toNatClampNeg)) + 1) σ_2 (fun r_3 σ_4 =>
      ∃ m_86, wbX12_laysOf_86 post m_86 v1 v2 v3 v4 r_3 σ_4))))) ∧
    (¬ 3 ≤ v5 →
      vp_in (((48 * v2) + (16 * v5)) + v3) 96 ∧ (
      ∀ σ_5 : St, σ_5 = sI σ 105 (((48 * v2) + (16 * v5)) + v3).toNatClampNeg 0 →
      ∀ v5_6 : Int32, v5_6 = v5 + 1 →
      wbX12_laysOf_11 post n v1 v2 v3 v4 v5_6 σ_5)))
def wpX12_laysOf  (a1 : Int32) (a2 : Int32) (a3 : Int32) (σ : St) (post : St → Prop) : Prop :=
  vp_in a2 2 ∧ (
  ∀ v4_1 : Int32, v4_1 = (gI σ 104 a2.toNatClampNeg) →
  ∃ m_11, wbX12_laysOf_11 post m_11 a1 a2 a3 v4_1 0 σ)
-- CradleNamesModel.filmOf(III)I
def wbX12_filmOf_6   (post : Int32 → St → Prop) : Nat → Int32 → Int32 → Int32 → Int32 → Int32 → St → Prop
  | 0, _, _, _, _, _, _ => False
  | n + 1, v1, v2, v3, v4, v5, σ =>
    vp_in 3 9680 ∧ (
    (((gI σ 76 (3 : Int32).toNatClampNeg) ≤ v5 →
      post v4 σ) ∧
    (¬ (gI σ 76 (3 : Int32).toNatClampNeg) ≤ v5 →
      ∀ v6_1 : Int32, v6_1 = (70 + (3 * v5)) →
      ((v5 = v3 →
        ∀ v5_2 : Int32, v5_2 = v5 + 1 →
        wbX12_filmOf_6 post n v1 v2 v3 v4 v5_2 σ) ∧
      (¬ v5 = v3 →
        vp_in v6_1 9680 ∧ (
        ((¬ (gI σ 76 v6_1.toNatClampNeg) = v1 →
          ∀ v5_3 : Int32, v5_3 = v5 + 1 →
          wbX12_filmOf_6 post n v1 v2 v3 v4 v5_3 σ) ∧
        ((gI σ 76 v6_1.toNatClampNeg) = v1 →
          vp_in (v6_1 + 1) 9680 ∧ (
          ((v2 < (gI σ 76 (v6_1 + 1).toNatClampNeg) →
            ∀ v5_4 : Int32, v5_4 = v5 + 1 →
            wbX12_filmOf_6 post n v1 v2 v3 v4 v5_4 σ) ∧
          (¬ v2 < (gI σ 76 (v6_1 + 1).toNatClampNeg) →
            vp_in (v6_1 + 1) 9680 ∧ (
            (((v2 - (gI σ 76 (v6_1 + 1).toNatClampNeg)) ≤ 20 →
              vp_in (v6_1 + 2) 9680 ∧ (
              vp_in (v6_1 + 1) 9680 ∧ (
              ∀ v4_5 : Int32, v4_5 = (v4 + ((gI σ 76 (v6_1 + 2).toNatClampNeg) >>> ((v2 - (gI σ 76 (v6_1 + 1).toNatClampNeg)) &&& 31))) →
              ∀ v5_6 : Int32, v5_6 = v5 + 1 →
              wbX12_filmOf_6 post n v1 v2 v3 v4_5 v5_6 σ))) ∧
            (¬ (v2 - (gI σ 76 (v6_1 + 1).toNatClampNeg)) ≤ 20 →
              ∀ v4_7 : Int32, v4_7 = (v4 + 0) →
              ∀ v5_8 : Int32, v5_8 = v5 + 1 →
              wbX12_filmOf_6 post n v1 v2 v3 v4_7 v5_8 σ))))))))))))))
def wpX12_filmOf  (a1 : Int32) (a2 : Int32) (a3 : Int32) (σ : St) (post : Int32 → St → Prop) : Prop :=
  ∃ m_6, wbX12_filmOf_6 post m_6 a1 a2 a3 0 0 σ
-- CradleNamesModel.lays(IIZ)V
def wbX12_lays_303  (K3 : Int32 → Int32 → Int32 → Int32 → St → Prop) (post : St → Prop) : Nat → Int32 → Int32 → Int32 → Int32 → Int32 → St → Prop
  | 0, _, _, _, _, _, _ => False
  | n + 1, v1, v2, v3, v4, v8, σ =>
    ((2 ≤ v8 →
      ∀ v4_1 : Int32, v4_1 = v4 + 1 →
      K3 v1 v2 v3 v4_1 σ) ∧
    (¬ 2 ≤ v8 →
      vp_in v8 2 ∧ (
      (((gI σ 104 v8.toNatClampNeg) = (-1) →
        ∀ v8_2 : Int32, v8_2 = v8 + 1 →
        wbX12_lays_303 K3 post n v1 v2 v3 v4 v8_2 σ) ∧
      (¬ (gI σ 104 v8.toNatClampNeg) = (-1) →
        wpX12_laysOf v1 v8 v4 σ (fun σ_4 =>
        ∀ v8_5 : Int32, v8_5 = v8 + 1 →
        wbX12_lays_303 K3 post n v1 v2 v3 v4 v8_5 σ_4))))))
def wbX12_lays_285  (K3 : Int32 → Int32 → Int32 → Int32 → St → Prop) (post : St → Prop) (v1 : Int32) (v2 : Int32) (v3 : Int32) (v4 : Int32) (σ : St) : Prop :=
  wpX12_filmOf v4 v1 v2 σ (fun r_1 σ_2 =>
  vp_in v4 16 ∧ (
  ∀ σ_3 : St, σ_3 = sI σ_2 112 v4.toNatClampNeg r_1 →
  ∃ m_303, wbX12_lays_303 K3 post m_303 v1 v2 v3 v4 0 σ_3))
def wbX12_lays_210  (K3 : Int32 → Int32 → Int32 → Int32 → St → Prop) (post : St → Prop) : Nat → Int32 → Int32 → Int32 → Int32 → Int32 → St → Prop
  | 0, _, _, _, _, _, _ => False
  | n + 1, v1, v2, v3, v4, v8, σ =>
    vp_in 1 9680 ∧ (
    (((gI σ 76 (1 : Int32).toNatClampNeg) ≤ v8 →
      wbX12_lays_285 K3 post v1 v2 v3 v4 σ) ∧
    (¬ (gI σ 76 (1 : Int32).toNatClampNeg) ≤ v8 →
      ((¬ v3 = 0 →
        wbX12_lays_285 K3 post v1 v2 v3 v4 σ) ∧
      (v3 = 0 →
        vp_in v4 16 ∧ (
        ((v8 = v4 →
          vp_in v4 16 ∧ (
          ∀ σ_1 : St, σ_1 = sI σ 111 v4.toNatClampNeg ((gI σ 111 v4.toNatClampNeg) + 0) →
          ∀ v8_2 : Int32, v8_2 = v8 + 1 →
          wbX12_lays_210 K3 post n v1 v2 v3 v4 v8_2 σ_1)) ∧
        (¬ v8 = v4 →
          vp_in v8 16 ∧ (
          wpX12_ending (gL σ 78 v8.toNatClampNeg) σ (fun r_3 σ_4 =>
          vp_in v4 16 ∧ (
          wpX12_ending (gL σ_4 78 v4.toNatClampNeg) σ_4 (fun r_5 σ_6 =>
          ((¬ r_3 = r_5 →
            vp_in v4 16 ∧ (
            ∀ σ_7 : St, σ_7 = sI σ_6 111 v4.toNatClampNeg ((gI σ 111 v4.toNatClampNeg) + 0) →
            ∀ v8_8 : Int32, v8_8 = v8 + 1 →
            wbX12_lays_210 K3 post n v1 v2 v3 v4 v8_8 σ_7)) ∧
          (r_3 = r_5 →
            wpX12_all (v1 - 1) v8 σ_6 (fun r_9 σ_10 =>
            vp_in v4 16 ∧ (
            ∀ σ_11 : St, σ_11 = sI σ_10 111 v4.toNatClampNeg ((gI σ 111 v4.toNatClampNeg) + r_9) →
            ∀ v8_12 : Int32, v8_12 = v8 + 1 →
            wbX12_lays_210 K3 post n v1 v2 v3 v4 v8_12 σ_11))))))))))))))))
