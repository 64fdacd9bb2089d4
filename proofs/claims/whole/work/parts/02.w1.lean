-- CradleNames$Book.open(I)V
def wbX0_open_13 (k0 : Nat)  (post : St → Prop) : Nat → Int32 → Int32 → St → Prop
  | 0, _, _, _ => False
  | n + 1, v1, v2, σ =>
    ((12 ≤ v2 →
      ∀ v2_1 : Int32, v2_1 = ((v1 - (-40)) * 112) →
      ¬ v2_1 < 0 ∧ ¬ (v2_1 + 112) < 0 ∧ ¬ (112 : Int32) < 0 ∧ v2_1.toNatClampNeg + (112 : Int32).toNatClampNeg ≤ 11424 ∧ (v2_1 + 112).toNatClampNeg + (112 : Int32).toNatClampNeg ≤ 11424 ∧ (
      ∀ σ_2 : St, σ_2 = sA σ (21 + 4 * k0 + 2) (va_cpy (σ (21 + 4 * k0 + 2)).1 (σ (21 + 4 * k0 + 2)).1 v2_1.toNatClampNeg (v2_1 + 112).toNatClampNeg (112 : Int32).toNatClampNeg) →
      ∀ σ_3 : St, σ_3 = sI σ_2 (21 + 4 * k0) 3 v1 →
      post σ_3)) ∧
    (¬ 12 ≤ v2 →
      vp_in ((v1 * 12) + v2) 732 ∧ (
      ∀ σ_4 : St, σ_4 = sL σ (21 + 4 * k0 + 1) ((v1 * 12) + v2).toNatClampNeg 0 →
      ∀ v2_5 : Int32, v2_5 = v2 + 1 →
      wbX0_open_13 k0 post n v1 v2_5 σ_4)))
def wpX0_open (k0 : Nat) (a1 : Int32) (σ : St) (post : St → Prop) : Prop :=
  ((a1 < 0 →
    post σ) ∧
  (¬ a1 < 0 →
    ((a1 ≤ 60 →
      ∃ m_13, wbX0_open_13 k0 post m_13 a1 0 σ) ∧
    (¬ a1 ≤ 60 →
      post σ))))
-- CradleNames$Land.row(III)I
def wpX4_row  (a1 : Int32) (a2 : Int32) (a3 : Int32) (σ : St) (post : Int32 → St → Prop) : Prop :=
  post ((((a1 * 2) + a2) * 2) + a3) σ
-- CradleNames$Book.addSums(IIIIII)V
def wbX0_addSums_87 (k0 : Nat) (K3 : Int32 → Int32 → Int32 → Int32 → Int32 → Int32 → Int32 → St → Prop) (post : St → Prop) (v1 : Int32) (v2 : Int32) (v3 : Int32) (v4 : Int32) (v5 : Int32) (v6 : Int32) (v7 : Int32) (v8 : Int32) (s0 : Int32) (s1 : Int32) (s2 : Int32) (σ : St) : Prop :=
  vp_in s2 11424 ∧ (
  ∀ σ_1 : St, σ_1 = sI σ (21 + 4 * k0 + 2) s2.toNatClampNeg (s1 + s0) →
  vp_in (v8 + 96) 11424 ∧ (
  vp_in (v8 + 96) 11424 ∧ (
  ∀ σ_2 : St, σ_2 = sI σ_1 (21 + 4 * k0 + 2) (v8 + 96).toNatClampNeg ((gI σ_1 (21 + 4 * k0 + 2) (v8 + 96).toNatClampNeg) + v6) →
  ∀ v7_3 : Int32, v7_3 = v7 + 1 →
  K3 v1 v2 v3 v4 v5 v6 v7_3 σ_2)))
def wbX0_addSums_3 (k0 : Nat)  (post : St → Prop) : Nat → Int32 → Int32 → Int32 → Int32 → Int32 → Int32 → Int32 → St → Prop
  | 0, _, _, _, _, _, _, _, _ => False
  | n + 1, v1, v2, v3, v4, v5, v6, v7, σ =>
    (((gI σ (21 + 4 * k0) 3) < v7 →
      vp_in v5 16 ∧ (
      vp_in v5 16 ∧ (
      ∀ σ_1 : St, σ_1 = sI σ (21 + 4 * k0 + 3) v5.toNatClampNeg (if (gI σ (21 + 4 * k0 + 3) v5.toNatClampNeg) < v1 then v1 else (gI σ (21 + 4 * k0 + 3) v5.toNatClampNeg)) →
      post σ_1))) ∧
    (¬ (gI σ (21 + 4 * k0) 3) < v7 →
      ∀ v8_2 : Int32, v8_2 = ((((v7 - (-40)) + 1) * 112) + v5) →
      vp_in (v8_2 + ((0 + v2) * 16)) 11424 ∧ (
      vp_in (v8_2 + ((0 + v2) * 16)) 11424 ∧ (
      ∀ σ_3 : St, σ_3 = sI σ (21 + 4 * k0 + 2) (v8_2 + ((0 + v2) * 16)).toNatClampNeg ((gI σ (21 + 4 * k0 + 2) (v8_2 + ((0 + v2) * 16)).toNatClampNeg) + v6) →
      vp_in (v8_2 + ((3 + v3) * 16)) 11424 ∧ (
      vp_in (v8_2 + ((3 + v3) * 16)) 11424 ∧ (
      ∀ σ_4 : St, σ_4 = sI σ_3 (21 + 4 * k0 + 2) (v8_2 + ((3 + v3) * 16)).toNatClampNeg ((gI σ_3 (21 + 4 * k0 + 2) (v8_2 + ((3 + v3) * 16)).toNatClampNeg) + v6) →
      vp_in (v8_2 + 80) 11424 ∧ (
      ((¬ v4 = 0 →
        wbX0_addSums_87 k0 (wbX0_addSums_3 k0 post n) post v1 v2 v3 v4 v5 v6 v7 v8_2 0 (gI σ_4 (21 + 4 * k0 + 2) (v8_2 + 80).toNatClampNeg) (v8_2 + 80) σ_4) ∧
      (v4 = 0 →
        wbX0_addSums_87 k0 (wbX0_addSums_3 k0 post n) post v1 v2 v3 v4 v5 v6 v7 v8_2 v6 (gI σ_4 (21 + 4 * k0 + 2) (v8_2 + 80).toNatClampNeg) (v8_2 + 80) σ_4)))))))))
def wpX0_addSums (k0 : Nat) (a1 : Int32) (a2 : Int32) (a3 : Int32) (a4 : Int32) (a5 : Int32) (a6 : Int32) (σ : St) (post : St → Prop) : Prop :=
  ∃ m_3, wbX0_addSums_3 k0 post m_3 a1 a2 a3 a4 a5 a6 a1 σ
-- CradleNames$Book.give(IIII)V
def wpX0_give (k0 : Nat) (a1 : Int32) (a2 : Int32) (a3 : Int32) (a4 : Int32) (σ : St) (post : St → Prop) : Prop :=
  wpX4_row a1 a2 a3 σ (fun r_1 σ_2 =>
  vp_in (((gI σ (21 + 4 * k0) 3) * 12) + r_1) 732 ∧ (
  vp_in (((gI σ (21 + 4 * k0) 3) * 12) + r_1) 732 ∧ (
  ∀ σ_3 : St, σ_3 = sL σ_2 (21 + 4 * k0 + 1) (((gI σ (21 + 4 * k0) 3) * 12) + r_1).toNatClampNeg ((gL σ_2 (21 + 4 * k0 + 1) (((gI σ (21 + 4 * k0) 3) * 12) + r_1).toNatClampNeg) + (1 <<< ((4 * a4).toInt64 &&& 63))) →
  wpX0_addSums k0 (gI σ_3 (21 + 4 * k0) 3) a1 a2 a3 a4 1 σ_3 (fun σ_5 =>
  post σ_5))))
-- CradleNames$Book.inRow(III)I
def wpX0_inRow (k0 : Nat) (a1 : Int32) (a2 : Int32) (a3 : Int32) (σ : St) (post : Int32 → St → Prop) : Prop :=
  vp_in ((a1 * 12) + a2) 732 ∧ (
  post ((((gL σ (21 + 4 * k0 + 1) ((a1 * 12) + a2).toNatClampNeg).toUInt64 >>> ((4 * a3).toInt64.toUInt64 &&& Int64.toUInt64 63)).toInt64).toInt32 &&& 15) σ)
-- CradleNames$Book.between(IIII)I
def wbX0_between_32 (k0 : Nat)  (post : Int32 → St → Prop) (v1 : Int32) (v2 : Int32) (v5 : Int32) (s0 : Int32) (σ : St) : Prop :=
  ((v5 ≤ s0 →
    ∀ v7_1 : Int32, v7_1 = ((v1 * 16) + v2) →
    vp_in ((((s0 - (-40)) + 1) * 112) + v7_1) 11424 ∧ (
    vp_in (((v5 - (-40)) * 112) + v7_1) 11424 ∧ (
    post ((gI σ (21 + 4 * k0 + 2) ((((s0 - (-40)) + 1) * 112) + v7_1).toNatClampNeg) - (gI σ (21 + 4 * k0 + 2) (((v5 - (-40)) * 112) + v7_1).toNatClampNeg)) σ))) ∧
  (¬ v5 ≤ s0 →
    post 0 σ))
def wbX0_between_12 (k0 : Nat)  (post : Int32 → St → Prop) (v1 : Int32) (v2 : Int32) (v4 : Int32) (s0 : Int32) (σ : St) : Prop :=
  ((v4 ≤ (gI σ (21 + 4 * k0) 3) →
    wbX0_between_32 k0 post v1 v2 s0 v4 σ) ∧
  (¬ v4 ≤ (gI σ (21 + 4 * k0) 3) →
    wbX0_between_32 k0 post v1 v2 s0 (gI σ (21 + 4 * k0) 3) σ))
def wpX0_between (k0 : Nat) (a1 : Int32) (a2 : Int32) (a3 : Int32) (a4 : Int32) (σ : St) (post : Int32 → St → Prop) : Prop :=
  (((-40) ≤ a3 →
    wbX0_between_12 k0 post a1 a2 a4 a3 σ) ∧
  (¬ (-40) ≤ a3 →
    wbX0_between_12 k0 post a1 a2 a4 (-40) σ))
-- CradleNames$Book.groupTotal(III)I
def wbX0_groupTotal_6 (k0 : Nat)  (post : Int32 → St → Prop) : Nat → Int32 → Int32 → Int32 → Int32 → Int32 → St → Prop
  | 0, _, _, _, _, _, _ => False
  | n + 1, v1, v2, v3, v4, v5, σ =>
    ((16 ≤ v5 →
      post v4 σ) ∧
    (¬ 16 ≤ v5 →
      wpX0_between k0 v1 v5 v2 v3 σ (fun r_1 σ_2 =>
      ∀ v4_3 : Int32, v4_3 = (v4 + r_1) →
      ∀ v5_4 : Int32, v5_4 = v5 + 1 →
      wbX0_groupTotal_6 k0 post n v1 v2 v3 v4_3 v5_4 σ_2)))
def wpX0_groupTotal (k0 : Nat) (a1 : Int32) (a2 : Int32) (a3 : Int32) (σ : St) (post : Int32 → St → Prop) : Prop :=
  ∃ m_6, wbX0_groupTotal_6 k0 post m_6 a1 a2 a3 0 0 σ
-- CradleNames$Book.since(II)I
def wpX0_since (k0 : Nat) (a1 : Int32) (a2 : Int32) (σ : St) (post : Int32 → St → Prop) : Prop :=
  vp_in a1 16 ∧ (
  post (if 99 < (a2 - (gI σ (21 + 4 * k0 + 3) a1.toNatClampNeg)) then 99 else (a2 - (gI σ (21 + 4 * k0 + 3) a1.toNatClampNeg))) σ)
-- CradleNames$Book.reopen(I)V
def wbX0_reopen_27 (k0 : Nat) (K8 : Int32 → Int32 → St → Prop) (post : St → Prop) : Nat → Int32 → Int32 → Int32 → St → Prop
  | 0, _, _, _, _ => False
  | n + 1, v1, v2, v3, σ =>
    ((v3 < (-40) →
      ∀ v2_1 : Int32, v2_1 = v2 + 1 →
      K8 v1 v2_1 σ) ∧
    (¬ v3 < (-40) →
      vp_in v2 16 ∧ (
      ((¬ (gI σ (21 + 4 * k0 + 3) v2.toNatClampNeg) = (-1000) →
        ∀ v2_2 : Int32, v2_2 = v2 + 1 →
        K8 v1 v2_2 σ) ∧
      ((gI σ (21 + 4 * k0 + 3) v2.toNatClampNeg) = (-1000) →
        wpX0_between k0 6 v2 v3 v3 σ (fun r_3 σ_4 =>
        ((r_3 ≤ 0 →
          ∀ v3_5 : Int32, v3_5 = v3 + (-1) →
          wbX0_reopen_27 k0 K8 post n v1 v2 v3_5 σ_4) ∧
        (¬ r_3 ≤ 0 →
          vp_in v2 16 ∧ (
          ∀ σ_6 : St, σ_6 = sI σ_4 (21 + 4 * k0 + 3) v2.toNatClampNeg v3 →
          ∀ v3_7 : Int32, v3_7 = v3 + (-1) →
          wbX0_reopen_27 k0 K8 post n v1 v2 v3_7 σ_6)))))))))
def wbX0_reopen_8 (k0 : Nat)  (post : St → Prop) : Nat → Int32 → Int32 → St → Prop
  | 0, _, _, _ => False
  | n + 1, v1, v2, σ =>
    ((16 ≤ v2 →
      wpX0_open k0 v1 σ (fun σ_2 =>
      post σ_2)) ∧
    (¬ 16 ≤ v2 →
      vp_in v2 16 ∧ (
      ∀ σ_3 : St, σ_3 = sI σ (21 + 4 * k0 + 3) v2.toNatClampNeg (-1000) →
      ∀ v3_4 : Int32, v3_4 = (v1 - 1) →
      ∃ m_27, wbX0_reopen_27 k0 (wbX0_reopen_8 k0 post n) post m_27 v1 v2 v3_4 σ_3)))
def wpX0_reopen (k0 : Nat) (a1 : Int32) (σ : St) (post : St → Prop) : Prop :=
  ∀ σ_1 : St, σ_1 = sI σ (21 + 4 * k0) 3 60 →
  ∃ m_8, wbX0_reopen_8 k0 post m_8 a1 0 σ_1
-- CradleNames$Book.beginFrom(LCradleNames$Book;)V
def wpX0_beginFrom (k0 : Nat) (k1 : Nat)  (σ : St) (post : St → Prop) : Prop :=
  ¬ (0 : Int32) < 0 ∧ ¬ (0 : Int32) < 0 ∧ ¬ (4592 : Int32) < 0 ∧ (0 : Int32).toNatClampNeg + (4592 : Int32).toNatClampNeg ≤ 11424 ∧ (0 : Int32).toNatClampNeg + (4592 : Int32).toNatClampNeg ≤ 11424 ∧ (
  ∀ σ_1 : St, σ_1 = sA σ (21 + 4 * k0 + 2) (va_cpy (σ (21 + 4 * k1 + 2)).1 (σ (21 + 4 * k0 + 2)).1 (0 : Int32).toNatClampNeg (0 : Int32).toNatClampNeg (4592 : Int32).toNatClampNeg) →
  wpX0_reopen k0 0 σ_1 (fun σ_3 =>
  post σ_3))
-- CradleNames$Land.placeOf(I)I
def wpX4_placeOf  (a1 : Int32) (σ : St) (post : Int32 → St → Prop) : Prop :=
  post (a1 / 4) σ
-- CradleNames$Land.sexOf(I)I
def wpX4_sexOf  (a1 : Int32) (σ : St) (post : Int32 → St → Prop) : Prop :=
  post (a1 - a1 / 2 * 2) σ
-- CradleNames$Land.listedIn(I)I
def wbX4_listedIn_7   (post : Int32 → St → Prop) : Nat → Int32 → Int32 → St → Prop
  | 0, _, _, _ => False
  | n + 1, v1, v2, σ =>
    ((v2 < 0 →
      post 65535 σ) ∧
    (¬ v2 < 0 →
      vp_in v2 8 ∧ (
      ((v1 < (gI σ 16 v2.toNatClampNeg) →
        ∀ v2_1 : Int32, v2_1 = v2 + (-1) →
        wbX4_listedIn_7 post n v1 v2_1 σ) ∧
      (¬ v1 < (gI σ 16 v2.toNatClampNeg) →
        vp_in v2 8 ∧ (
        ((¬ (gI σ 17 v2.toNatClampNeg) = 0 →
          vp_in v2 8 ∧ (
          post (gI σ 17 v2.toNatClampNeg) σ)) ∧
        ((gI σ 17 v2.toNatClampNeg) = 0 →
          post 65535 σ))))))))
def wpX4_listedIn  (a1 : Int32) (σ : St) (post : Int32 → St → Prop) : Prop :=
  ∀ v2_1 : Int32, v2_1 = ((gI σ 9 8) - 1) →
  ∃ m_7, wbX4_listedIn_7 post m_7 a1 v2_1 σ
-- CradleNames$Judge.stand(LCradleNames$Book;IIII)V
def wpX3_stand (k1 : Nat) (a2 : Int32) (a3 : Int32) (a4 : Int32) (a5 : Int32) (σ : St) (post : St → Prop) : Prop :=
  ∀ σ_1 : St, σ_1 = sR σ 47 8 (some (21 + 4 * k1)) →
  ∀ σ_2 : St, σ_2 = sI σ_1 47 9 a2 →
  ∀ σ_3 : St, σ_3 = sI σ_2 47 10 a3 →
  ∀ σ_4 : St, σ_4 = sI σ_3 47 11 a4 →
  ∀ σ_5 : St, σ_5 = sI σ_4 47 12 a5 →
  wpX4_listedIn a2 σ_5 (fun r_6 σ_7 =>
  ∀ σ_8 : St, σ_8 = sI σ_7 47 13 r_6 →
  post σ_8)
-- CradleNames$Judge.pick()I
def wbX3_pick_4   (post : Int32 → St → Prop) : Nat → Int32 → Int32 → St → Prop
  | 0, _, _, _ => False
  | n + 1, v1, v2, σ =>
    (((gI σ 1 0) ≤ v2 →
      post v1 σ) ∧
    (¬ (gI σ 1 0) ≤ v2 →
      vp_in v2 16 ∧ (
      (((gI σ 50 v2.toNatClampNeg) = 0 →
        ∀ v2_1 : Int32, v2_1 = v2 + 1 →
        wbX3_pick_4 post n v1 v2_1 σ) ∧
      (¬ (gI σ 50 v2.toNatClampNeg) = 0 →
        ((v1 = (-1) →
          ∀ v2_2 : Int32, v2_2 = v2 + 1 →
          wbX3_pick_4 post n v2 v2_2 σ) ∧
        (¬ v1 = (-1) →
          vp_in v2 16 ∧ (
          vp_in v1 16 ∧ (
          (((gI σ 49 v2.toNatClampNeg) ≤ (gI σ 49 v1.toNatClampNeg) →
            ∀ v2_3 : Int32, v2_3 = v2 + 1 →
            wbX3_pick_4 post n v1 v2_3 σ) ∧
          (¬ (gI σ 49 v2.toNatClampNeg) ≤ (gI σ 49 v1.toNatClampNeg) →
            ∀ v2_4 : Int32, v2_4 = v2 + 1 →
            wbX3_pick_4 post n v2 v2_4 σ)))))))))))
def wpX3_pick   (σ : St) (post : Int32 → St → Prop) : Prop :=
  ∃ m_4, wbX3_pick_4 post m_4 (-1) 0 σ
-- CradleNames$Judge.give(I)V
def wpX3_give  (a1 : Int32) (σ : St) (post : St → Prop) : Prop :=
  ∃ k_1, gR σ 47 8 = some (21 + 4 * k_1) ∧ k_1 < 2 ∧ (
  wpX0_give k_1 (gI σ 47 10) (gI σ 47 11) (gI σ 47 12) a1 σ (fun σ_3 =>
  post σ_3))
-- CradleNames$Judge.bounded(J)I
def wpX3_bounded  (a1 : Int64) (σ : St) (post : Int32 → St → Prop) : Prop :=
  ((a1 ≤ 1000000000 →
    (((-1000000000) ≤ a1 →
      post a1.toInt32 σ) ∧
    (¬ (-1000000000) ≤ a1 →
      post (-1000000000) σ))) ∧
  (¬ a1 ≤ 1000000000 →
    post 1000000000 σ))
-- CradleNames$Judge.join(III)I
def wpX3_join  (a1 : Int32) (a2 : Int32) (a3 : Int32) (σ : St) (post : Int32 → St → Prop) : Prop :=
  ((a1 = 17 →
    post (a2 ||| a3) σ) ∧
  (¬ a1 = 17 →
  ((a1 = 18 →
    post (a2 &&& a3) σ) ∧
  (¬ a1 = 18 →
  ((a1 = 19 →
    post 0 σ) ∧
  (¬ a1 = 19 →
  ((a1 = 20 →
    post (if a3 < a2 then a3 else a2) σ) ∧
  (¬ a1 = 20 →
  ((a1 = 21 →
    post (if a2 < a3 then a3 else a2) σ) ∧
  (¬ a1 = 21 →
  ((a1 = 22 →
    ((a3 ≤ a2 →
      post 0 σ) ∧
    (¬ a3 ≤ a2 →
      post 1 σ))) ∧
  (¬ a1 = 22 →
  ((a1 = 23 →
    ((a3 < a2 →
      post 0 σ) ∧
    (¬ a3 < a2 →
      post 1 σ))) ∧
  (¬ a1 = 23 →
  ((a1 = 24 →
    ((a2 ≤ a3 →
      post 0 σ) ∧
    (¬ a2 ≤ a3 →
      post 1 σ))) ∧
  (¬ a1 = 24 →
  ((a1 = 25 →
    ((a2 < a3 →
      post 0 σ) ∧
    (¬ a2 < a3 →
      post 1 σ))) ∧
  (¬ a1 = 25 →
  ((a1 = 26 →
    ((¬ a2 = a3 →
      post 0 σ) ∧
    (a2 = a3 →
      post 1 σ))) ∧
  (¬ a1 = 26 →
  ((a1 = 27 →
    ((a2 = a3 →
      post 0 σ) ∧
    (¬ a2 = a3 →
      post 1 σ))) ∧
  (¬ a1 = 27 →
  ((a1 = 28 →
    wpX3_bounded (a2.toInt64 + a3.toInt64) σ (fun r_1 σ_2 =>
    post r_1 σ_2)) ∧
  (¬ a1 = 28 →
  ((a1 = 29 →
    wpX3_bounded (a2.toInt64 - a3.toInt64) σ (fun r_3 σ_4 =>
    post r_3 σ_4)) ∧
  (¬ a1 = 29 →
  ((a1 = 30 →
    wpX3_bounded (a2.toInt64 * a3.toInt64) σ (fun r_5 σ_6 =>
    post r_5 σ_6)) ∧
  (¬ a1 = 30 →
  ((a1 = 31 →
    ((¬ a3 = 0 →
      ¬ a3 = 0 ∧ (
      post (a2 / a3) σ)) ∧
    (a3 = 0 →
      post 0 σ))) ∧
  (¬ a1 = 31 →
  post 0 σ))))))))))))))))))))))))))))))
-- CradleNames$Names.sameEnding(II)Z
def wpX5_sameEnding  (a1 : Int32) (a2 : Int32) (σ : St) (post : Int32 → St → Prop) : Prop :=
  vp_in a1 16 ∧ (
  vp_in a2 16 ∧ (
  ((¬ (gL σ 6 a1.toNatClampNeg) = (gL σ 6 a2.toNatClampNeg) →
    post 0 σ) ∧
  ((gL σ 6 a1.toNatClampNeg) = (gL σ 6 a2.toNatClampNeg) →
    post 1 σ))))
-- CradleNames$Judge.heardOfEnding(I)I
def wbX3_heardOfEnding_4   (post : Int32 → St → Prop) : Nat → Int32 → Int32 → Int32 → St → Prop
  | 0, _, _, _, _ => False
  | n + 1, v1, v2, v3, σ =>
    (((gI σ 1 0) ≤ v3 →
      post v2 σ) ∧
    (¬ (gI σ 1 0) ≤ v3 →
      ((v3 = v1 →
        ∀ v3_1 : Int32, v3_1 = v3 + 1 →
        wbX3_heardOfEnding_4 post n v1 v2 v3_1 σ) ∧
      (¬ v3 = v1 →
        wpX5_sameEnding v3 v1 σ (fun r_2 σ_3 =>
        ((r_2 = 0 →
          ∀ v3_4 : Int32, v3_4 = v3 + 1 →
          wbX3_heardOfEnding_4 post n v1 v2 v3_4 σ_3) ∧
        (¬ r_2 = 0 →
          ∃ k_5, gR σ_3 47 8 = some (21 + 4 * k_5) ∧ k_5 < 2 ∧ (
          wpX0_between k_5 6 v3 ((gI σ_3 47 9) - 1) ((gI σ_3 47 9) - 1) σ_3 (fun r_6 σ_7 =>
          ∀ v2_8 : Int32, v2_8 = (v2 + r_6) →
          ∀ v3_9 : Int32, v3_9 = v3 + 1 →
          wbX3_heardOfEnding_4 post n v1 v2_8 v3_9 σ_7)))))))))
def wpX3_heardOfEnding  (a1 : Int32) (σ : St) (post : Int32 → St → Prop) : Prop :=
  ∃ m_4, wbX3_heardOfEnding_4 post m_4 a1 0 0 σ
-- CradleNames$Land.filmOf(III)I
def wbX4_filmOf_6   (post : Int32 → St → Prop) : Nat → Int32 → Int32 → Int32 → Int32 → Int32 → St → Prop
  | 0, _, _, _, _, _, _ => False
  | n + 1, v1, v2, v3, v4, v5, σ =>
    (((gI σ 9 11) ≤ v5 →
      post v4 σ) ∧
    (¬ (gI σ 9 11) ≤ v5 →
      vp_in v5 8 ∧ (
      ∀ v6_1 : Int32, v6_1 = (v2 - (gI σ 19 v5.toNatClampNeg)) →
      ((v5 = v3 →
        ∀ v5_2 : Int32, v5_2 = v5 + 1 →
        wbX4_filmOf_6 post n v1 v2 v3 v4 v5_2 σ) ∧
      (¬ v5 = v3 →
        vp_in v5 8 ∧ (
        ((¬ (gI σ 18 v5.toNatClampNeg) = v1 →
          ∀ v5_3 : Int32, v5_3 = v5 + 1 →
          wbX4_filmOf_6 post n v1 v2 v3 v4 v5_3 σ) ∧
        ((gI σ 18 v5.toNatClampNeg) = v1 →
          ((v6_1 < 0 →
            ∀ v5_4 : Int32, v5_4 = v5 + 1 →
            wbX4_filmOf_6 post n v1 v2 v3 v4 v5_4 σ) ∧
          (¬ v6_1 < 0 →
            ((10 ≤ v6_1 →
              ∀ v5_5 : Int32, v5_5 = v5 + 1 →
              wbX4_filmOf_6 post n v1 v2 v3 v4 v5_5 σ) ∧
            (¬ 10 ≤ v6_1 →
              vp_in v5 8 ∧ (
              ∀ v4_6 : Int32, v4_6 = (v4 + ((gI σ 20 v5.toNatClampNeg) >>> (v6_1 &&& 31))) →
              ∀ v5_7 : Int32, v5_7 = v5 + 1 →
              wbX4_filmOf_6 post n v1 v2 v3 v4_6 v5_7 σ)))))))))))))
def wpX4_filmOf  (a1 : Int32) (a2 : Int32) (a3 : Int32) (σ : St) (post : Int32 → St → Prop) : Prop :=
  ∃ m_6, wbX4_filmOf_6 post m_6 a1 a2 a3 0 0 σ
-- CradleNames$Judge.heard(II)I
def wpX3_heard  (a1 : Int32) (a2 : Int32) (σ : St) (post : Int32 → St → Prop) : Prop :=
  ∃ k_1, gR σ 47 5 = some (30 + 2 * k_1) ∧ k_1 < 6 ∧ (
  ∀ v3_2 : Int32, v3_2 = (((gI σ 47 9) - (gI σ (30 + 2 * k_1) 2)) + 1) →
  ∀ v4_3 : Int32, v4_3 = (((gI σ 47 9) - (gI σ 9 1)) + 1) →
  ((a1 = 0 →
    ∃ k_4, gR σ 47 8 = some (21 + 4 * k_4) ∧ k_4 < 2 ∧ (
    wpX0_between k_4 (0 + (gI σ 47 10)) a2 v3_2 (gI σ 47 9) σ (fun r_5 σ_6 =>
    post r_5 σ_6))) ∧
  (¬ a1 = 0 →
  ((a1 = 1 →
    ∃ k_7, gR σ 47 8 = some (21 + 4 * k_7) ∧ k_7 < 2 ∧ (
    wpX0_between k_7 6 a2 v3_2 (gI σ 47 9) σ (fun r_8 σ_9 =>
    ∃ k_10, gR σ_9 47 8 = some (21 + 4 * k_10) ∧ k_10 < 2 ∧ (
    wpX0_between k_10 (0 + (gI σ_9 47 10)) a2 v3_2 (gI σ_9 47 9) σ_9 (fun r_11 σ_12 =>
    post (r_8 - r_11) σ_12))))) ∧
  (¬ a1 = 1 →
  ((a1 = 2 →
    ((¬ (gI σ 47 11) = 0 →
      ∃ k_13, gR σ 47 8 = some (21 + 4 * k_13) ∧ k_13 < 2 ∧ (
      wpX0_between k_13 3 a2 v3_2 (gI σ 47 9) σ (fun r_14 σ_15 =>
      post r_14 σ_15))) ∧
    ((gI σ 47 11) = 0 →
      post 0 σ))) ∧
  (¬ a1 = 2 →
  ((a1 = 3 →
    ∃ k_16, gR σ 47 8 = some (21 + 4 * k_16) ∧ k_16 < 2 ∧ (
    wpX0_between k_16 (3 + (gI σ 47 11)) a2 v3_2 (gI σ 47 9) σ (fun r_17 σ_18 =>
    post r_17 σ_18))) ∧
  (¬ a1 = 3 →
  ((a1 = 4 →
    ∃ k_19, gR σ 47 8 = some (21 + 4 * k_19) ∧ k_19 < 2 ∧ (
    wpX0_between k_19 5 a2 v4_3 (gI σ 47 9) σ (fun r_20 σ_21 =>
    post r_20 σ_21))) ∧
  (¬ a1 = 4 →
  ((a1 = 5 →
    ∃ k_22, gR σ 47 8 = some (21 + 4 * k_22) ∧ k_22 < 2 ∧ (
    wpX0_between k_22 6 a2 v4_3 (gI σ 47 9) σ (fun r_23 σ_24 =>
    ∃ k_25, gR σ_24 47 8 = some (21 + 4 * k_25) ∧ k_25 < 2 ∧ (
    wpX0_between k_25 5 a2 v4_3 (gI σ_24 47 9) σ_24 (fun r_26 σ_27 =>
    post (r_23 - r_26) σ_27))))) ∧
  (¬ a1 = 5 →
  ((a1 = 6 →
    ∃ k_28, gR σ 47 8 = some (21 + 4 * k_28) ∧ k_28 < 2 ∧ (
    ∃ k_29, gR σ 47 5 = some (30 + 2 * k_29) ∧ k_29 < 6 ∧ (
    wpX0_between k_28 6 a2 v4_3 ((gI σ 47 9) - (gI σ (30 + 2 * k_29) 3)) σ (fun r_30 σ_31 =>
    post r_30 σ_31)))) ∧
  (¬ a1 = 6 →
  ((a1 = 7 →
    ∃ k_32, gR σ 47 8 = some (21 + 4 * k_32) ∧ k_32 < 2 ∧ (
    wpX0_between k_32 6 a2 v4_3 (gI σ 47 9) σ (fun r_33 σ_34 =>
    post r_33 σ_34))) ∧
  (¬ a1 = 7 →
  ((a1 = 8 →
    ∃ k_35, gR σ 47 8 = some (21 + 4 * k_35) ∧ k_35 < 2 ∧ (
    wpX0_since k_35 a2 (gI σ 47 9) σ (fun r_36 σ_37 =>
    post r_36 σ_37))) ∧
  (¬ a1 = 8 →
  ((a1 = 9 →
    ∃ k_38, gR σ 47 8 = some (21 + 4 * k_38) ∧ k_38 < 2 ∧ (
    wpX0_between k_38 6 a2 ((gI σ 47 9) - 1) ((gI σ 47 9) - 1) σ (fun r_39 σ_40 =>
    ∃ k_41, gR σ_40 47 8 = some (21 + 4 * k_41) ∧ k_41 < 2 ∧ (
    wpX0_between k_41 6 a2 ((gI σ_40 47 9) - 2) ((gI σ_40 47 9) - 2) σ_40 (fun r_42 σ_43 =>
    post (r_39 - r_42) σ_43))))) ∧
  (¬ a1 = 9 →
  ((a1 = 10 →
    (((gI σ 47 7) = 0 →
      wpX3_heardOfEnding a2 σ (fun r_44 σ_45 =>
      post r_44 σ_45)) ∧
    (¬ (gI σ 47 7) = 0 →
      post 0 σ))) ∧
  (¬ a1 = 10 →
  ((a1 = 11 →
    wpX4_filmOf a2 (gI σ 47 9) (gI σ 47 6) σ (fun r_46 σ_47 =>
    post r_46 σ_47)) ∧
  (¬ a1 = 11 →
  ((a1 = 12 →
    vp_in a2 16 ∧ (
    post (gI σ 3 a2.toNatClampNeg) σ)) ∧
  (¬ a1 = 12 →
  ((a1 = 13 →
    post (gI σ 47 9) σ) ∧
  (¬ a1 = 13 →
  post 0 σ)))))))))))))))))))))))))))))
-- CradleNames$Judge.fits(I)Z
def wpX3_fits  (a1 : Int32) (σ : St) (post : Int32 → St → Prop) : Prop :=
  vp_in a1 16 ∧ (
  (((gI σ 47 9) < (gI σ 5 a1.toNatClampNeg) →
    post 0 σ) ∧
  (¬ (gI σ 47 9) < (gI σ 5 a1.toNatClampNeg) →
    vp_in a1 16 ∧ (
    ((¬ (((gI σ 4 a1.toNatClampNeg) >>> ((gI σ 47 12) &&& 31)) &&& 1) = 1 →
      post 0 σ) ∧
    ((((gI σ 4 a1.toNatClampNeg) >>> ((gI σ 47 12) &&& 31)) &&& 1) = 1 →
      ((¬ (((gI σ 47 13) >>> (a1 &&& 31)) &&& 1) = 1 →
        post 0 σ) ∧
      ((((gI σ 47 13) >>> (a1 &&& 31)) &&& 1) = 1 →
        post 1 σ))))))))
-- CradleNames$Judge.weigh(I)V
def wbX3_weigh_211  (K10 : Int32 → Int32 → Int32 → Int32 → Int32 → St → Prop) (post : St → Prop) (v1 : Int32) (v2 : Int32) (v3 : Int32) (v4 : Int32) (v5 : Int32) (v6 : Int32) (σ : St) : Prop :=
  ((v2 < 2 →
    ∀ v5_1 : Int32, v5_1 = v5 + 1 →
    K10 v1 v2 v3 v4 v5_1 σ) ∧
  (¬ v2 < 2 →
    ∀ v2_2 : Int32, v2_2 = v2 + (-1) →
    vp_in (v2_2 - 1) 64 ∧ (
    vp_in v2_2 64 ∧ (
    wpX3_join v6 (gI σ 48 (v2_2 - 1).toNatClampNeg) (gI σ 48 v2_2.toNatClampNeg) σ (fun r_3 σ_4 =>
    vp_in (v2_2 - 1) 64 ∧ (
    ∀ σ_5 : St, σ_5 = sI σ_4 48 (v2_2 - 1).toNatClampNeg r_3 →
    ∀ v5_6 : Int32, v5_6 = v5 + 1 →
    K10 v1 v2_2 v3 v4 v5_6 σ_5))))))
def wbX3_weigh_172  (K10 : Int32 → Int32 → Int32 → Int32 → Int32 → St → Prop) (post : St → Prop) (v1 : Int32) (v2 : Int32) (v3 : Int32) (v4 : Int32) (v5 : Int32) (v6 : Int32) (σ : St) : Prop :=
  ((v2 < 1 →
    wbX3_weigh_211 K10 post v1 v2 v3 v4 v5 v6 σ) ∧
  (¬ v2 < 1 →
    ((¬ v6 = 15 →
      wbX3_weigh_211 K10 post v1 v2 v3 v4 v5 v6 σ) ∧
    (v6 = 15 →
      ∀ v2_1 : Int32, v2_1 = v2 + (-1) →
      ((¬ v4 = 0 →
        ∀ v5_2 : Int32, v5_2 = v5 + 1 →
        K10 v1 v2_1 v3 1 v5_2 σ) ∧
      (v4 = 0 →
        vp_in v2_1 64 ∧ (
        (((gI σ 48 v2_1.toNatClampNeg) = 0 →
          ∀ v5_3 : Int32, v5_3 = v5 + 1 →
          K10 v1 v2_1 v3 0 v5_3 σ) ∧
        (¬ (gI σ 48 v2_1.toNatClampNeg) = 0 →
          ∀ v5_4 : Int32, v5_4 = v5 + 1 →
          K10 v1 v2_1 v3 1 v5_4 σ)))))))))
def wbX3_weigh_48  (K10 : Int32 → Int32 → Int32 → Int32 → Int32 → St → Prop) (post : St → Prop) (v1 : Int32) (v2 : Int32) (v3 : Int32) (v4 : Int32) (v5 : Int32) (v6 : Int32) (σ : St) : Prop :=
  ((64 ≤ v2 →
    ∀ v5_1 : Int32, v5_1 = v5 + 1 →
    K10 v1 v2 v3 v4 v5_1 σ) ∧
  (¬ 64 ≤ v2 →
    ((v6 < 100 →
      wpX3_heard v6 v1 σ (fun r_2 σ_3 =>
      vp_in v2 64 ∧ (
      ∀ σ_4 : St, σ_4 = sI σ_3 48 v2.toNatClampNeg r_2 →
      ∀ v2_5 : Int32, v2_5 = v2 + 1 →
      ∀ v5_6 : Int32, v5_6 = v5 + 1 →
      K10 v1 v2_5 v3 v4 v5_6 σ_4))) ∧
    (¬ v6 < 100 →
      vp_in v2 64 ∧ (
      ∀ σ_7 : St, σ_7 = sI σ 48 v2.toNatClampNeg (v6 - 100) →
      ∀ v2_8 : Int32, v2_8 = v2 + 1 →
      ∀ v5_9 : Int32, v5_9 = v5 + 1 →
      K10 v1 v2_8 v3 v4 v5_9 σ_7)))))
def wbX3_weigh_107  (K10 : Int32 → Int32 → Int32 → Int32 → Int32 → St → Prop) (post : St → Prop) (v1 : Int32) (v2 : Int32) (v3 : Int32) (v4 : Int32) (v5 : Int32) (v6 : Int32) (σ : St) : Prop :=
  ((¬ v6 = 40 →
    vp_in (v2 - 1) 64 ∧ (
    vp_in (v2 - 1) 64 ∧ (
    ∀ σ_1 : St, σ_1 = sI σ 48 (v2 - 1).toNatClampNeg (1 - (gI σ 48 (v2 - 1).toNatClampNeg)) →
    ∀ v5_2 : Int32, v5_2 = v5 + 1 →
    K10 v1 v2 v3 v4 v5_2 σ_1))) ∧
  (v6 = 40 →
    vp_in (v2 - 1) 64 ∧ (
    vp_in (v2 - 1) 64 ∧ (
    ∀ σ_3 : St, σ_3 = sI σ 48 (v2 - 1).toNatClampNeg (-(gI σ 48 (v2 - 1).toNatClampNeg)) →
    ∀ v5_4 : Int32, v5_4 = v5 + 1 →
    K10 v1 v2 v3 v4 v5_4 σ_3))))
def wbX3_weigh_147  (K10 : Int32 → Int32 → Int32 → Int32 → Int32 → St → Prop) (post : St → Prop) (v1 : Int32) (v2 : Int32) (v3 : Int32) (v4 : Int32) (v5 : Int32) (v6 : Int32) (σ : St) : Prop :=
  ((v2 < 1 →
    wbX3_weigh_172 K10 post v1 v2 v3 v4 v5 v6 σ) ∧
  (¬ v2 < 1 →
    ((¬ v6 = 14 →
      wbX3_weigh_172 K10 post v1 v2 v3 v4 v5 v6 σ) ∧
    (v6 = 14 →
      ∀ v2_1 : Int32, v2_1 = v2 + (-1) →
      vp_in v2_1 64 ∧ (
      ∀ v3_2 : Int32, v3_2 = (gI σ 48 v2_1.toNatClampNeg) →
      ∀ v5_3 : Int32, v5_3 = v5 + 1 →
      K10 v1 v2_1 v3_2 v4 v5_3 σ)))))
def wbX3_weigh_10   (post : St → Prop) : Nat → Int32 → Int32 → Int32 → Int32 → Int32 → St → Prop
  | 0, _, _, _, _, _, _ => False
  | n + 1, v1, v2, v3, v4, v5, σ =>
    ∃ k_1, gR σ 47 5 = some (30 + 2 * k_1) ∧ k_1 < 6 ∧ (
    (((gI σ (30 + 2 * k_1) 1) ≤ v5 →
      vp_in v1 16 ∧ (
      ∀ σ_2 : St, σ_2 = sI σ 49 v1.toNatClampNeg v3 →
      ((¬ v4 = 0 →
        vp_in v1 16 ∧ (
        ∀ σ_3 : St, σ_3 = sI σ_2 50 v1.toNatClampNeg (vp_nar .boolean 0) →
        post σ_3)) ∧
      (v4 = 0 →
        wpX3_fits v1 σ_2 (fun r_4 σ_5 =>
        ((r_4 = 0 →
          vp_in v1 16 ∧ (
          ∀ σ_6 : St, σ_6 = sI σ_5 50 v1.toNatClampNeg (vp_nar .boolean 0) →
          post σ_6)) ∧
        (¬ r_4 = 0 →
          vp_in v1 16 ∧ (
          ∀ σ_7 : St, σ_7 = sI σ_5 50 v1.toNatClampNeg (vp_nar .boolean 1) →
          post σ_7)))))))) ∧
    (¬ (gI σ (30 + 2 * k_1) 1) ≤ v5 →
      ∃ k_8, gR σ 47 5 = some (30 + 2 * k_8) ∧ k_8 < 6 ∧ (
      vp_in v5 300 ∧ (
      ∀ v6_9 : Int32, v6_9 = (gI σ (30 + 2 * k_8 + 1) v5.toNatClampNeg) →
      ((100 ≤ v6_9 →
        wbX3_weigh_48 (wbX3_weigh_10 post n) post v1 v2 v3 v4 v5 v6_9 σ) ∧
      (¬ 100 ≤ v6_9 →
        ((14 ≤ v6_9 →
          ((v2 < 1 →
            wbX3_weigh_147 (wbX3_weigh_10 post n) post v1 v2 v3 v4 v5 v6_9 σ) ∧
          (¬ v2 < 1 →
            ((v6_9 = 40 →
              wbX3_weigh_107 (wbX3_weigh_10 post n) post v1 v2 v3 v4 v5 v6_9 σ) ∧
            (¬ v6_9 = 40 →
              ((¬ v6_9 = 19 →
                wbX3_weigh_147 (wbX3_weigh_10 post n) post v1 v2 v3 v4 v5 v6_9 σ) ∧
              (v6_9 = 19 →
                wbX3_weigh_107 (wbX3_weigh_10 post n) post v1 v2 v3 v4 v5 v6_9 σ))))))) ∧
        (¬ 14 ≤ v6_9 →
          wbX3_weigh_48 (wbX3_weigh_10 post n) post v1 v2 v3 v4 v5 v6_9 σ)))))))))
def wpX3_weigh  (a1 : Int32) (σ : St) (post : St → Prop) : Prop :=
  ∃ m_10, wbX3_weigh_10 post m_10 a1 0 0 0 0 σ
-- CradleNames$Course.fill(I)I
def wbX1_fill_50   (post : Int32 → St → Prop) : Nat → Int32 → Int32 → St → Prop
  | 0, _, _, _ => False
  | n + 1, v1, v2, σ =>
    ((v1 ≤ v2 →
      post v1 σ) ∧
    (¬ v1 ≤ v2 →
      wpX3_pick  σ (fun r_1 σ_2 =>
      ((¬ r_1 = (-1) →
        wpX3_give r_1 σ_2 (fun σ_4 =>
        wpX3_weigh r_1 σ_4 (fun σ_6 =>
        ∀ v2_7 : Int32, v2_7 = v2 + 1 →
        wbX1_fill_50 post n v1 v2_7 σ_6))) ∧
      (r_1 = (-1) →
        post v2 σ_2)))))
def wbX1_fill_2   (post : Int32 → St → Prop) : Nat → Int32 → Int32 → St → Prop
  | 0, _, _, _ => False
  | n + 1, v1, v2, σ =>
    (((gI σ 1 0) ≤ v2 →
      ∃ m_50, wbX1_fill_50 post m_50 v1 0 σ) ∧
    (¬ (gI σ 1 0) ≤ v2 →
      vp_in v2 16 ∧ (
      ∀ σ_1 : St, σ_1 = sI σ 50 v2.toNatClampNeg (vp_nar .boolean 0) →
      wpX3_fits v2 σ_1 (fun r_2 σ_3 =>
      ((r_2 = 0 →
        ∀ v2_4 : Int32, v2_4 = v2 + 1 →
        wbX1_fill_2 post n v1 v2_4 σ_3) ∧
      (¬ r_2 = 0 →
        wpX3_weigh v2 σ_3 (fun σ_6 =>
        ∀ v2_7 : Int32, v2_7 = v2 + 1 →
        wbX1_fill_2 post n v1 v2_7 σ_6)))))))
def wpX1_fill  (a1 : Int32) (σ : St) (post : Int32 → St → Prop) : Prop :=
  ∃ m_2, wbX1_fill_2 post m_2 a1 0 σ
-- CradleNames$Land.wentBy(I)Z
def wpX4_wentBy  (a1 : Int32) (σ : St) (post : Int32 → St → Prop) : Prop :=
  ((a1 < 0 →
    post 0 σ) ∧
  (¬ a1 < 0 →
    (((gI σ 9 0) ≤ a1 →
      post 0 σ) ∧
    (¬ (gI σ 9 0) ≤ a1 →
      post 1 σ))))
-- CradleNames$Land.cradlesIn(II)I
def wpX4_cradlesIn  (a1 : Int32) (a2 : Int32) (σ : St) (post : Int32 → St → Prop) : Prop :=
  wpX4_wentBy a1 σ (fun r_1 σ_2 =>
  ((r_1 = 0 →
    vp_in a2 12 ∧ (
    post (gI σ_2 11 a2.toNatClampNeg) σ_2)) ∧
  (¬ r_1 = 0 →
    vp_in ((a1 * 12) + a2) 732 ∧ (
    post (gI σ_2 12 ((a1 * 12) + a2).toNatClampNeg) σ_2))))
-- CradleNames$Land.standingOf(I)I
def wpX4_standingOf  (a1 : Int32) (σ : St) (post : Int32 → St → Prop) : Prop :=
  post ((a1 / 2) - (a1 / 2) / 2 * 2) σ
-- CradleNames$Land.heldIn(II)I
def wpX4_heldIn  (a1 : Int32) (a2 : Int32) (σ : St) (post : Int32 → St → Prop) : Prop :=
  wpX4_wentBy a1 σ (fun r_1 σ_2 =>
  ((r_1 = 0 →
    vp_in a2 2 ∧ (
    post (gI σ_2 13 a2.toNatClampNeg) σ_2)) ∧
  (¬ r_1 = 0 →
    vp_in ((a1 * 2) + a2) 122 ∧ (
    post (gI σ_2 14 ((a1 * 2) + a2).toNatClampNeg) σ_2))))
-- CradleNames$Course.pass(LCradleNames$Book;II)I
def wbX1_pass_56 (k1 : Nat) (K11 : Int32 → Int32 → Int32 → Int32 → St → Prop) (post : Int32 → St → Prop) (v2 : Int32) (v3 : Int32) (v4 : Int32) (v5 : Int32) (v6 : Int32) (v7 : Int32) (s0 : Int32) (σ : St) : Prop :=
  ((¬ s0 = (-1) →
    ((v6 ≤ 0 →
      ∀ v5_1 : Int32, v5_1 = v5 + 1 →
      K11 v2 v3 v4 v5_1 σ) ∧
    (¬ v6 ≤ 0 →
      wpX4_placeOf v5 σ (fun r_2 σ_3 =>
      wpX4_sexOf v5 σ_3 (fun r_4 σ_5 =>
      wpX3_stand k1 v2 r_2 v7 r_4 σ_5 (fun σ_7 =>
      vp_in s0 6 ∧ (
      ∀ σ_9 : St, σ_9 = sR σ_7 47 5 (some (30 + 2 * s0.toNatClampNeg)) →
      wpX1_fill v6 σ_9 (fun r_10 σ_11 =>
      ∀ v4_12 : Int32, v4_12 = (v4 + (v6 - r_10)) →
      ∀ v5_13 : Int32, v5_13 = v5 + 1 →
      K11 v2 v3 v4_12 v5_13 σ_11)))))))) ∧
  (s0 = (-1) →
    ∀ v4_14 : Int32, v4_14 = (v4 + v6) →
    ∀ v5_15 : Int32, v5_15 = v5 + 1 →
    K11 v2 v3 v4_14 v5_15 σ))
def wbX1_pass_11 (k1 : Nat)  (post : Int32 → St → Prop) : Nat → Int32 → Int32 → Int32 → Int32 → St → Prop
  | 0, _, _, _, _, _ => False
  | n + 1, v2, v3, v4, v5, σ =>
    ((12 ≤ v5 →
      post v4 σ) ∧
    (¬ 12 ≤ v5 →
      wpX4_cradlesIn v2 v5 σ (fun r_1 σ_2 =>
      wpX4_standingOf v5 σ_2 (fun r_3 σ_4 =>
      ((¬ v3 = (-1) →
        wbX1_pass_56 k1 (wbX1_pass_11 k1 post n) post v2 v3 v4 v5 r_1 r_3 v3 σ_4) ∧
      (v3 = (-1) →
        wpX4_heldIn v2 r_3 σ_4 (fun r_5 σ_6 =>
        wbX1_pass_56 k1 (wbX1_pass_11 k1 post n) post v2 v3 v4 v5 r_1 r_3 r_5 σ_6)))))))
def wpX1_pass (k1 : Nat) (a2 : Int32) (a3 : Int32) (σ : St) (post : Int32 → St → Prop) : Prop :=
  wpX0_open k1 a2 σ (fun σ_2 =>
  ∃ m_11, wbX1_pass_11 k1 post m_11 a2 a3 0 0 σ_2)
-- CradleNames$Image.keep(LCradleNames$Land;LCradleNames$Book;)V
def wpX2_keep (k2 : Nat)  (σ : St) (post : St → Prop) : Prop :=
  ∀ σ_1 : St, σ_1 = sI σ 70 3 (gI σ 9 0) →
  ∀ σ_2 : St, σ_2 = sI σ_1 70 4 (gI σ_1 9 1) →
  ∀ σ_3 : St, σ_3 = sI σ_2 70 5 (gI σ_2 9 8) →
  ∀ σ_4 : St, σ_4 = sI σ_3 70 6 (gI σ_3 9 11) →
  ¬ (0 : Int32) < 0 ∧ ¬ (0 : Int32) < 0 ∧ ¬ (12 : Int32) < 0 ∧ (0 : Int32).toNatClampNeg + (12 : Int32).toNatClampNeg ≤ 12 ∧ (0 : Int32).toNatClampNeg + (12 : Int32).toNatClampNeg ≤ 12 ∧ (
  ∀ σ_5 : St, σ_5 = sA σ_4 71 (va_cpy (σ_4 11).1 (σ_4 71).1 (0 : Int32).toNatClampNeg (0 : Int32).toNatClampNeg (12 : Int32).toNatClampNeg) →
  ¬ (0 : Int32) < 0 ∧ ¬ (0 : Int32) < 0 ∧ ¬ (2 : Int32) < 0 ∧ (0 : Int32).toNatClampNeg + (2 : Int32).toNatClampNeg ≤ 2 ∧ (0 : Int32).toNatClampNeg + (2 : Int32).toNatClampNeg ≤ 2 ∧ (
  ∀ σ_6 : St, σ_6 = sA σ_5 72 (va_cpy (σ_5 13).1 (σ_5 72).1 (0 : Int32).toNatClampNeg (0 : Int32).toNatClampNeg (2 : Int32).toNatClampNeg) →
  ¬ (0 : Int32) < 0 ∧ ¬ (0 : Int32) < 0 ∧ ¬ (7680 : Int32) < 0 ∧ (0 : Int32).toNatClampNeg + (7680 : Int32).toNatClampNeg ≤ 7680 ∧ (0 : Int32).toNatClampNeg + (7680 : Int32).toNatClampNeg ≤ 7680 ∧ (
  ∀ σ_7 : St, σ_7 = sA σ_6 73 (va_cpy (σ_6 10).1 (σ_6 73).1 (0 : Int32).toNatClampNeg (0 : Int32).toNatClampNeg (7680 : Int32).toNatClampNeg) →
  ¬ (0 : Int32) < 0 ∧ ¬ (0 : Int32) < 0 ∧ ¬ (4592 : Int32) < 0 ∧ (0 : Int32).toNatClampNeg + (4592 : Int32).toNatClampNeg ≤ 11424 ∧ (0 : Int32).toNatClampNeg + (4592 : Int32).toNatClampNeg ≤ 4592 ∧ (
  ∀ σ_8 : St, σ_8 = sA σ_7 74 (va_cpy (σ_7 (21 + 4 * k2 + 2)).1 (σ_7 74).1 (0 : Int32).toNatClampNeg (0 : Int32).toNatClampNeg (4592 : Int32).toNatClampNeg) →
  post σ_8))))
-- CradleNames$Image.restore(LCradleNames$Land;LCradleNames$Book;)V
def wpX2_restore (k2 : Nat)  (σ : St) (post : St → Prop) : Prop :=
  ∀ σ_1 : St, σ_1 = sI σ 9 0 (gI σ 70 3) →
  ∀ σ_2 : St, σ_2 = sI σ_1 9 1 (gI σ_1 70 4) →
  ∀ σ_3 : St, σ_3 = sI σ_2 9 8 (gI σ_2 70 5) →
  ∀ σ_4 : St, σ_4 = sI σ_3 9 11 (gI σ_3 70 6) →
  ¬ (0 : Int32) < 0 ∧ ¬ (0 : Int32) < 0 ∧ ¬ (12 : Int32) < 0 ∧ (0 : Int32).toNatClampNeg + (12 : Int32).toNatClampNeg ≤ 12 ∧ (0 : Int32).toNatClampNeg + (12 : Int32).toNatClampNeg ≤ 12 ∧ (
  ∀ σ_5 : St, σ_5 = sA σ_4 11 (va_cpy (σ_4 71).1 (σ_4 11).1 (0 : Int32).toNatClampNeg (0 : Int32).toNatClampNeg (12 : Int32).toNatClampNeg) →
  ¬ (0 : Int32) < 0 ∧ ¬ (0 : Int32) < 0 ∧ ¬ (2 : Int32) < 0 ∧ (0 : Int32).toNatClampNeg + (2 : Int32).toNatClampNeg ≤ 2 ∧ (0 : Int32).toNatClampNeg + (2 : Int32).toNatClampNeg ≤ 2 ∧ (
  ∀ σ_6 : St, σ_6 = sA σ_5 13 (va_cpy (σ_5 72).1 (σ_5 13).1 (0 : Int32).toNatClampNeg (0 : Int32).toNatClampNeg (2 : Int32).toNatClampNeg) →
  ¬ (0 : Int32) < 0 ∧ ¬ (0 : Int32) < 0 ∧ ¬ (7680 : Int32) < 0 ∧ (0 : Int32).toNatClampNeg + (7680 : Int32).toNatClampNeg ≤ 7680 ∧ (0 : Int32).toNatClampNeg + (7680 : Int32).toNatClampNeg ≤ 7680 ∧ (
  ∀ σ_7 : St, σ_7 = sA σ_6 10 (va_cpy (σ_6 73).1 (σ_6 10).1 (0 : Int32).toNatClampNeg (0 : Int32).toNatClampNeg (7680 : Int32).toNatClampNeg) →
  ¬ (0 : Int32) < 0 ∧ ¬ (0 : Int32) < 0 ∧ ¬ (4592 : Int32) < 0 ∧ (0 : Int32).toNatClampNeg + (4592 : Int32).toNatClampNeg ≤ 4592 ∧ (0 : Int32).toNatClampNeg + (4592 : Int32).toNatClampNeg ≤ 11424 ∧ (
  ∀ σ_8 : St, σ_8 = sA σ_7 (21 + 4 * k2 + 2) (va_cpy (σ_7 74).1 (σ_7 (21 + 4 * k2 + 2)).1 (0 : Int32).toNatClampNeg (0 : Int32).toNatClampNeg (4592 : Int32).toNatClampNeg) →
  wpX0_reopen k2 (gI σ_8 70 3) σ_8 (fun σ_10 =>
  post σ_10)))))
-- CradleNames$Land.toldCell(III)I
def wpX4_toldCell  (a1 : Int32) (a2 : Int32) (a3 : Int32) (σ : St) (post : Int32 → St → Prop) : Prop :=
  post (((((a1 - (-40)) * 12) + a2) * 16) + a3) σ
-- CradleNames$Land.addList(II)I
def wpX4_addList  (a1 : Int32) (a2 : Int32) (σ : St) (post : Int32 → St → Prop) : Prop :=
  ((8 ≤ (gI σ 9 8) →
    post (gI σ 9 8) σ) ∧
  (¬ 8 ≤ (gI σ 9 8) →
    vp_in (gI σ 9 8) 8 ∧ (
    ∀ σ_1 : St, σ_1 = sI σ 16 (gI σ 9 8).toNatClampNeg a1 →
    vp_in (gI σ_1 9 8) 8 ∧ (
    ∀ σ_2 : St, σ_2 = sI σ_1 17 (gI σ_1 9 8).toNatClampNeg a2 →
    ∀ σ_3 : St, σ_3 = sI σ_2 9 8 ((gI σ_2 9 8) + 1) →
    post (gI σ_3 9 8) σ_3))))
-- CradleNames$Land.addFilm(III)I
def wpX4_addFilm  (a1 : Int32) (a2 : Int32) (a3 : Int32) (σ : St) (post : Int32 → St → Prop) : Prop :=
  (((gI σ 9 11) < 8 →
    vp_in (gI σ 9 11) 8 ∧ (
    ∀ σ_1 : St, σ_1 = sI σ 18 (gI σ 9 11).toNatClampNeg a1 →
    vp_in (gI σ_1 9 11) 8 ∧ (
    ∀ σ_2 : St, σ_2 = sI σ_1 19 (gI σ_1 9 11).toNatClampNeg a2 →
    vp_in (gI σ_2 9 11) 8 ∧ (
    ∀ σ_3 : St, σ_3 = sI σ_2 20 (gI σ_2 9 11).toNatClampNeg a3 →
    ∀ σ_4 : St, σ_4 = sI σ_3 9 11 ((gI σ_3 9 11) + 1) →
    post ((gI σ_4 9 11) - 1) σ_4)))) ∧
  (¬ (gI σ 9 11) < 8 →
    post (-1) σ))
-- CradleNames$Land.closeYear(I)V
def wpX4_closeYear  (a1 : Int32) (σ : St) (post : St → Prop) : Prop :=
  (((gI σ 9 0) ≤ 60 →
    ¬ (0 : Int32) < 0 ∧ ¬ ((gI σ 9 0) * 12) < 0 ∧ ¬ (12 : Int32) < 0 ∧ (0 : Int32).toNatClampNeg + (12 : Int32).toNatClampNeg ≤ 12 ∧ ((gI σ 9 0) * 12).toNatClampNeg + (12 : Int32).toNatClampNeg ≤ 732 ∧ (
    ∀ σ_1 : St, σ_1 = sA σ 12 (va_cpy (σ 11).1 (σ 12).1 (0 : Int32).toNatClampNeg ((gI σ 9 0) * 12).toNatClampNeg (12 : Int32).toNatClampNeg) →
    ¬ (0 : Int32) < 0 ∧ ¬ ((gI σ_1 9 0) * 2) < 0 ∧ ¬ (2 : Int32) < 0 ∧ (0 : Int32).toNatClampNeg + (2 : Int32).toNatClampNeg ≤ 2 ∧ ((gI σ_1 9 0) * 2).toNatClampNeg + (2 : Int32).toNatClampNeg ≤ 122 ∧ (
    ∀ σ_2 : St, σ_2 = sA σ_1 14 (va_cpy (σ_1 13).1 (σ_1 14).1 (0 : Int32).toNatClampNeg ((gI σ_1 9 0) * 2).toNatClampNeg (2 : Int32).toNatClampNeg) →
    vp_in (gI σ_2 9 0) 61 ∧ (
    ∀ σ_3 : St, σ_3 = sI σ_2 15 (gI σ_2 9 0).toNatClampNeg a1 →
    ∀ σ_4 : St, σ_4 = sI σ_3 9 0 ((gI σ_3 9 0) + 1) →
    post σ_4)))) ∧
  (¬ (gI σ 9 0) ≤ 60 →
    post σ))
-- CradleNames$Names.lengthOf(J)I
def wbX5_lengthOf_59   (post : Int32 → St → Prop) (v2 : Int64) (v4 : Int32) (σ : St) : Prop :=
  ((¬ v2 = 0 →
    post 0 σ) ∧
  (v2 = 0 →
    ((v4 < 2 →
      post 0 σ) ∧
    (¬ v4 < 2 →
      post v4 σ))))
def wbX5_lengthOf_8   (post : Int32 → St → Prop) : Nat → Int64 → Int32 → Int32 → St → Prop
  | 0, _, _, _, _ => False
  | n + 1, v2, v4, v5, σ =>
    ((10 ≤ v5 →
      wbX5_lengthOf_59 post v2 v4 σ) ∧
    (¬ 10 ≤ v5 →
      ((v2 = 0 →
        wbX5_lengthOf_59 post v2 v4 σ) ∧
      (¬ v2 = 0 →
        ∀ v6_1 : Int64, v6_1 = (v2 &&& 31) →
        ((v6_1 < 1 →
          post 0 σ) ∧
        (¬ v6_1 < 1 →
          ((v6_1 ≤ 26 →
            ∀ v2_2 : Int64, v2_2 = (v2.toUInt64 >>> ((5 : Int32).toInt64.toUInt64 &&& Int64.toUInt64 63)).toInt64 →
            ∀ v4_3 : Int32, v4_3 = v4 + 1 →
            ∀ v5_4 : Int32, v5_4 = v5 + 1 →
            wbX5_lengthOf_8 post n v2_2 v4_3 v5_4 σ) ∧
          (¬ v6_1 ≤ 26 →
            post 0 σ))))))))
def wpX5_lengthOf  (a1 : Int64) (σ : St) (post : Int32 → St → Prop) : Prop :=
  ∃ m_8, wbX5_lengthOf_8 post m_8 a1 0 0 σ
-- CradleNames$Names.has(I)Z
def wpX5_has  (a1 : Int32) (σ : St) (post : Int32 → St → Prop) : Prop :=
  ((a1 < 0 →
    post 0 σ) ∧
  (¬ a1 < 0 →
    (((gI σ 1 0) ≤ a1 →
      post 0 σ) ∧
    (¬ (gI σ 1 0) ≤ a1 →
      post 1 σ))))
-- CradleNames$Names.knows(J)Z
def wbX5_knows_2   (post : Int32 → St → Prop) : Nat → Int64 → Int32 → St → Prop
  | 0, _, _, _ => False
  | n + 1, v1, v3, σ =>
    (((gI σ 1 0) ≤ v3 →
      post 0 σ) ∧
    (¬ (gI σ 1 0) ≤ v3 →
      vp_in v3 16 ∧ (
      ((¬ (gL σ 2 v3.toNatClampNeg) = v1 →
        ∀ v3_1 : Int32, v3_1 = v3 + 1 →
        wbX5_knows_2 post n v1 v3_1 σ) ∧
      ((gL σ 2 v3.toNatClampNeg) = v1 →
        post 1 σ)))))
def wpX5_knows  (a1 : Int64) (σ : St) (post : Int32 → St → Prop) : Prop :=
  ∃ m_2, wbX5_knows_2 post m_2 a1 0 σ
-- CradleNames$Names.letterAt(JI)C
def wpX5_letterAt  (a1 : Int64) (a2 : Int32) (σ : St) (post : Int32 → St → Prop) : Prop :=
  post (((96 + ((a1.toUInt64 >>> ((5 * a2).toInt64.toUInt64 &&& Int64.toUInt64 63)).toInt64 &&& 31).toInt32).toUInt32 % 65536).toInt32) σ
-- java/lang/String.isLatin1()Z
def wpJ0_isLatin1_aae02 (j0 : Nat)  (σ : St) (post : Int32 → St → Prop) : Prop :=
  (((1 : Int32) = 0 →
    post 0 σ) ∧
  (¬ (1 : Int32) = 0 →
    ((¬ (0 : Int32) = 0 →
      post 0 σ) ∧
    ((0 : Int32) = 0 →
      post 1 σ))))
-- java/lang/String.coder()B
def wpJ0_coder_7d493 (j0 : Nat)  (σ : St) (post : Int32 → St → Prop) : Prop :=
  (((1 : Int32) = 0 →
    narrow .byte (.int 1) = .int 1 ∧ post 1 σ) ∧
  (¬ (1 : Int32) = 0 →
    narrow .byte (.int 0) = .int 0 ∧ post 0 σ))
-- java/lang/String.length()I
def wpJ0_length_8abf5 (j0 : Nat)  (σ : St) (post : Int32 → St → Prop) : Prop :=
  wpJ0_coder_7d493 j0 σ (fun r_1 σ_2 =>
  post ((Int32.ofNat (sLen.getD j0 0)) >>> (r_1 &&& 31)) σ_2)
-- java/lang/StringLatin1.canEncode(I)Z
def wpJ1_canEncode_9a6ad  (a1 : Int32) (σ : St) (post : Int32 → St → Prop) : Prop :=
  ((a1 < 0 →
    post 0 σ) ∧
  (¬ a1 < 0 →
    ((255 < a1 →
      post 0 σ) ∧
    (¬ 255 < a1 →
      post 1 σ))))
-- java/lang/StringLatin1.indexOfChar([BIII)I
def wbJ1_indexOfChar_4cfef_7 (j1 : Nat)  (post : Int32 → St → Prop) : Nat → Int32 → Int32 → Int32 → St → Prop
  | 0, _, _, _, _ => False
  | n + 1, v3, v4, v5, σ =>
    ((v3 ≤ v5 →
      post (-1) σ) ∧
    (¬ v3 ≤ v5 →
      vp_in v5 (sLen.getD j1 0) ∧ (
      ((¬ ((sByt.getD j1 []).getD v5.toNatClampNeg 0) = v4 →
        ∀ v5_1 : Int32, v5_1 = v5 + 1 →
        wbJ1_indexOfChar_4cfef_7 j1 post n v3 v4 v5_1 σ) ∧
      (((sByt.getD j1 []).getD v5.toNatClampNeg 0) = v4 →
        post v5 σ)))))
def wpJ1_indexOfChar_4cfef (j1 : Nat) (a2 : Int32) (a3 : Int32) (a4 : Int32) (σ : St) (post : Int32 → St → Prop) : Prop :=
  ∀ v4_1 : Int32, v4_1 = a2.toInt8.toInt32 →
  ∃ m_7, wbJ1_indexOfChar_4cfef_7 j1 post m_7 a4 v4_1 a3 σ
-- java/lang/StringLatin1.indexOf([BIII)I
def wpJ1_indexOf_4cfef (j1 : Nat) (a2 : Int32) (a3 : Int32) (a4 : Int32) (σ : St) (post : Int32 → St → Prop) : Prop :=
  wpJ1_canEncode_9a6ad a2 σ (fun r_1 σ_2 =>
  ((¬ r_1 = 0 →
    ∀ v2_3 : Int32, v2_3 = (if a3 < 0 then 0 else a3) →
    ∀ v3_4 : Int32, v3_4 = (if (Int32.ofNat (sLen.getD j1 0)) < a4 then (Int32.ofNat (sLen.getD j1 0)) else a4) →
    ((v2_3 < v3_4 →
      wpJ1_indexOfChar_4cfef j1 a2 v2_3 v3_4 σ_2 (fun r_5 σ_6 =>
      post r_5 σ_6)) ∧
    (¬ v2_3 < v3_4 →
      post (-1) σ_2))) ∧
  (r_1 = 0 →
    post (-1) σ_2)))
-- java/lang/String.indexOf(II)I
def wpJ0_indexOf_7cf53 (j0 : Nat) (a1 : Int32) (a2 : Int32) (σ : St) (post : Int32 → St → Prop) : Prop :=
  wpJ0_isLatin1_aae02 j0 σ (fun r_1 σ_2 =>
  ((r_1 = 0 →
    wpJ0_length_8abf5 j0 σ_2 (fun r_3 σ_4 =>
    False)) ∧
  (¬ r_1 = 0 →
    wpJ0_length_8abf5 j0 σ_2 (fun r_5 σ_6 =>
    wpJ1_indexOf_4cfef j0 a1 a2 r_5 σ_6 (fun r_7 σ_8 =>
    post r_7 σ_8)))))
-- java/lang/String.indexOf(I)I
def wpJ0_indexOf_0f7a4 (j0 : Nat) (a1 : Int32) (σ : St) (post : Int32 → St → Prop) : Prop :=
  wpJ0_indexOf_7cf53 j0 a1 0 σ (fun r_1 σ_2 =>
  post r_1 σ_2)
-- CradleNames$Names.endingOf(JI)J
def wbX5_endingOf_4   (post : Int64 → St → Prop) : Nat → Int64 → Int32 → St → Prop
  | 0, _, _, _ => False
  | n + 1, v0, v3, σ =>
    ((v3 < 0 →
      post v0 σ) ∧
    (¬ v3 < 0 →
      wpX5_letterAt v0 v3 σ (fun r_1 σ_2 =>
      wpJ0_indexOf_0f7a4 0 r_1 σ_2 (fun r_3 σ_4 =>
      ((r_3 < 0 →
        ∀ v3_5 : Int32, v3_5 = v3 + (-1) →
        wbX5_endingOf_4 post n v0 v3_5 σ_4) ∧
      (¬ r_3 < 0 →
        post ((v0.toUInt64 >>> ((5 * v3).toInt64.toUInt64 &&& Int64.toUInt64 63)).toInt64) σ_4))))))
def wpX5_endingOf  (a1 : Int64) (a2 : Int32) (σ : St) (post : Int64 → St → Prop) : Prop :=
  ∀ v3_1 : Int32, v3_1 = (a2 - 1) →
  ∃ m_4, wbX5_endingOf_4 post m_4 a1 v3_1 σ
-- java/lang/StringLatin1.charAt([BI)C
def wpJ1_charAt_3b067 (j1 : Nat) (a2 : Int32) (σ : St) (post : Int32 → St → Prop) : Prop :=
  wpJ0_checkIndex_df160 a2 (Int32.ofNat (sLen.getD j1 0)) σ (fun σ_2 =>
  vp_in a2 (sLen.getD j1 0) ∧ (
  post (((((sByt.getD j1 []).getD a2.toNatClampNeg 0) &&& 255).toUInt32 % 65536).toInt32) σ_2))
-- java/lang/String.charAt(I)C
def wpJ0_charAt_5068e (j0 : Nat) (a1 : Int32) (σ : St) (post : Int32 → St → Prop) : Prop :=
  wpJ0_isLatin1_aae02 j0 σ (fun r_1 σ_2 =>
  ((r_1 = 0 →
    False) ∧
  (¬ r_1 = 0 →
    wpJ1_charAt_3b067 j0 a1 σ_2 (fun r_3 σ_4 =>
    narrow .char (.int r_3) = .int r_3 ∧ post r_3 σ_4))))
-- CradleNames$Names.hear(I)V
def wbX5_hear_7   (post : St → Prop) : Nat → Int32 → Int32 → Int32 → Int32 → St → Prop
  | 0, _, _, _, _, _ => False
  | n + 1, v1, v2, v3, v4, σ =>
    vp_in v1 16 ∧ (
    (((gI σ 3 v1.toNatClampNeg) ≤ v4 →
      vp_in v1 16 ∧ (
      ∀ σ_1 : St, σ_1 = sI σ 8 v1.toNatClampNeg v2 →
      post σ_1)) ∧
    (¬ (gI σ 3 v1.toNatClampNeg) ≤ v4 →
      vp_in v1 16 ∧ (
      wpX5_letterAt (gL σ 2 v1.toNatClampNeg) v4 σ (fun r_2 σ_3 =>
      ∀ v5_4 : Int32, v5_4 = (r_2 - 97) →
      ((v5_4 < 0 →
        ∀ v4_5 : Int32, v4_5 = v4 + 1 →
        wbX5_hear_7 post n v1 v2 v3 v4_5 σ_3) ∧
      (¬ v5_4 < 0 →
        wpJ0_length_8abf5 1 σ_3 (fun r_6 σ_7 =>
        ((r_6 ≤ v5_4 →
          ∀ v4_8 : Int32, v4_8 = v4 + 1 →
          wbX5_hear_7 post n v1 v2 v3 v4_8 σ_7) ∧
        (¬ r_6 ≤ v5_4 →
          wpJ0_charAt_5068e 1 v5_4 σ_7 (fun r_9 σ_10 =>
          ((r_9 = v3 →
            ∀ v4_11 : Int32, v4_11 = v4 + 1 →
            wbX5_hear_7 post n v1 v2 v3 v4_11 σ_10) ∧
          (¬ r_9 = v3 →
            vp_in ((v1 * 10) + v2) 160 ∧ (
            ∀ σ_12 : St, σ_12 = sI σ_10 7 ((v1 * 10) + v2).toNatClampNeg r_9 →
            ∀ v2_13 : Int32, v2_13 = v2 + 1 →
            ∀ v4_14 : Int32, v4_14 = v4 + 1 →
            wbX5_hear_7 post n v1 v2_13 r_9 v4_14 σ_12))))))))))))))
def wpX5_hear  (a1 : Int32) (σ : St) (post : St → Prop) : Prop :=
  ∃ m_7, wbX5_hear_7 post m_7 a1 0 0 0 σ
-- CradleNames$Names.add(JIII)I
def wpX5_add  (a1 : Int64) (a2 : Int32) (a3 : Int32) (a4 : Int32) (σ : St) (post : Int32 → St → Prop) : Prop :=
  (((gI σ 1 0) < 16 →
    vp_in (gI σ 1 0) 16 ∧ (
    ∀ σ_1 : St, σ_1 = sL σ 2 (gI σ 1 0).toNatClampNeg a1 →
    vp_in (gI σ_1 1 0) 16 ∧ (
    ∀ σ_2 : St, σ_2 = sI σ_1 3 (gI σ_1 1 0).toNatClampNeg a2 →
    vp_in (gI σ_2 1 0) 16 ∧ (
    ∀ σ_3 : St, σ_3 = sI σ_2 4 (gI σ_2 1 0).toNatClampNeg a3 →
    vp_in (gI σ_3 1 0) 16 ∧ (
    ∀ σ_4 : St, σ_4 = sI σ_3 5 (gI σ_3 1 0).toNatClampNeg a4 →
    wpX5_endingOf a1 a2 σ_4 (fun r_5 σ_6 =>
    vp_in (gI σ_4 1 0) 16 ∧ (
    ∀ σ_7 : St, σ_7 = sL σ_6 6 (gI σ_4 1 0).toNatClampNeg r_5 →
    wpX5_hear (gI σ_7 1 0) σ_7 (fun σ_9 =>
    ∀ σ_10 : St, σ_10 = sI σ_9 1 0 ((gI σ_9 1 0) + 1) →
    post ((gI σ_10 1 0) - 1) σ_10)))))))) ∧
  (¬ (gI σ 1 0) < 16 →
    post (-1) σ))
-- CradleNames$Names.lowestOfEnding(I)I
def wbX5_lowestOfEnding_2   (post : Int32 → St → Prop) : Nat → Int32 → Int32 → St → Prop
  | 0, _, _, _ => False
  | n + 1, v1, v2, σ =>
    ((v1 ≤ v2 →
      post v1 σ) ∧
    (¬ v1 ≤ v2 →
      wpX5_sameEnding v2 v1 σ (fun r_1 σ_2 =>
      ((r_1 = 0 →
        ∀ v2_3 : Int32, v2_3 = v2 + 1 →
        wbX5_lowestOfEnding_2 post n v1 v2_3 σ_2) ∧
      (¬ r_1 = 0 →
        post v2 σ_2)))))
def wpX5_lowestOfEnding  (a1 : Int32) (σ : St) (post : Int32 → St → Prop) : Prop :=
  ∃ m_2, wbX5_lowestOfEnding_2 post m_2 a1 0 σ
-- CradleNames$Names.akin(II)Z
def wbX5_akin_121   (post : Int32 → St → Prop) (v3 : Int32) (v4 : Int32) (v6 : Int32) (v7 : Int32) (σ : St) : Prop :=
  ((1 < (((if v3 < v4 then v4 else v3) - v6) - v7) →
    post 0 σ) ∧
  (¬ 1 < (((if v3 < v4 then v4 else v3) - v6) - v7) →
    post 1 σ))
def wbX5_akin_69   (post : Int32 → St → Prop) : Nat → Int32 → Int32 → Int32 → Int32 → Int32 → Int32 → Int32 → St → Prop
  | 0, _, _, _, _, _, _, _, _ => False
  | n + 1, v1, v2, v3, v4, v5, v6, v7, σ =>
    (((v5 - v6) ≤ v7 →
      wbX5_akin_121 post v3 v4 v6 v7 σ) ∧
    (¬ (v5 - v6) ≤ v7 →
      vp_in ((((v1 * 10) + v3) - 1) - v7) 160 ∧ (
      vp_in ((((v2 * 10) + v4) - 1) - v7) 160 ∧ (
      ((¬ (gI σ 7 ((((v1 * 10) + v3) - 1) - v7).toNatClampNeg) = (gI σ 7 ((((v2 * 10) + v4) - 1) - v7).toNatClampNeg) →
        wbX5_akin_121 post v3 v4 v6 v7 σ) ∧
      ((gI σ 7 ((((v1 * 10) + v3) - 1) - v7).toNatClampNeg) = (gI σ 7 ((((v2 * 10) + v4) - 1) - v7).toNatClampNeg) →
        ∀ v7_1 : Int32, v7_1 = v7 + 1 →
        wbX5_akin_69 post n v1 v2 v3 v4 v5 v6 v7_1 σ))))))
def wbX5_akin_26   (post : Int32 → St → Prop) : Nat → Int32 → Int32 → Int32 → Int32 → Int32 → Int32 → St → Prop
  | 0, _, _, _, _, _, _, _ => False
  | n + 1, v1, v2, v3, v4, v5, v6, σ =>
    ((v5 ≤ v6 →
      ∃ m_69, wbX5_akin_69 post m_69 v1 v2 v3 v4 v5 v6 0 σ) ∧
    (¬ v5 ≤ v6 →
      vp_in ((v1 * 10) + v6) 160 ∧ (
      vp_in ((v2 * 10) + v6) 160 ∧ (
      ((¬ (gI σ 7 ((v1 * 10) + v6).toNatClampNeg) = (gI σ 7 ((v2 * 10) + v6).toNatClampNeg) →
        ∃ m_69, wbX5_akin_69 post m_69 v1 v2 v3 v4 v5 v6 0 σ) ∧
      ((gI σ 7 ((v1 * 10) + v6).toNatClampNeg) = (gI σ 7 ((v2 * 10) + v6).toNatClampNeg) →
        ∀ v6_1 : Int32, v6_1 = v6 + 1 →
        wbX5_akin_26 post n v1 v2 v3 v4 v5 v6_1 σ))))))
def wpX5_akin  (a1 : Int32) (a2 : Int32) (σ : St) (post : Int32 → St → Prop) : Prop :=
  vp_in a1 16 ∧ (
  ∀ v3_1 : Int32, v3_1 = (gI σ 8 a1.toNatClampNeg) →
  vp_in a2 16 ∧ (
  ∀ v4_2 : Int32, v4_2 = (gI σ 8 a2.toNatClampNeg) →
  ∀ v5_3 : Int32, v5_3 = (if v4_2 < v3_1 then v4_2 else v3_1) →
  ∃ m_26, wbX5_akin_26 post m_26 a1 a2 v3_1 v4_2 v5_3 0 σ))
-- CradleNames$Odds.setDraw(III)V
def wpX6_setDraw  (a1 : Int32) (a2 : Int32) (a3 : Int32) (σ : St) (post : St → Prop) : Prop :=
  ∀ σ_1 : St, σ_1 = sI σ 60 3 a1 →
  ∀ σ_2 : St, σ_2 = sI σ_1 60 4 a2 →
  ∀ σ_3 : St, σ_3 = sI σ_2 60 5 a3 →
  post σ_3
-- CradleNames$Odds.times([II)V
def wbX6_times_5 (q1 : Nat) (n1 : Nat)  (post : St → Prop) : Nat → Int32 → Int64 → Int32 → St → Prop
  | 0, _, _, _, _ => False
  | n + 1, v1, v2, v4, σ =>
    ((24 ≤ v4 →
      post σ) ∧
    (¬ 24 ≤ v4 →
      vp_in v4 n1 ∧ (
      ∀ v2_1 : Int64, v2_1 = (v2 + ((gI σ q1 v4.toNatClampNeg).toInt64 * v1.toInt64)) →
      vp_in v4 n1 ∧ (
      ∀ σ_2 : St, σ_2 = sI σ q1 v4.toNatClampNeg ((v2_1 &&& 16777215).toInt32) →
      ∀ v2_3 : Int64, v2_3 = (v2_1 >>> ((24 : Int32).toInt64 &&& 63)) →
      ∀ v4_4 : Int32, v4_4 = v4 + 1 →
      wbX6_times_5 q1 n1 post n v1 v2_3 v4_4 σ_2))))
def wpX6_times (q1 : Nat) (n1 : Nat) (a2 : Int32) (σ : St) (post : St → Prop) : Prop :=
  ∃ m_5, wbX6_times_5 q1 n1 post m_5 a2 0 0 σ
-- CradleNames$Odds.over([II)V
def wbX6_over_11 (q1 : Nat) (n1 : Nat)  (post : St → Prop) : Nat → Int32 → Int64 → Int32 → St → Prop
  | 0, _, _, _, _ => False
  | n + 1, v1, v2, v4, σ =>
    ((v4 < 0 →
      post σ) ∧
    (¬ v4 < 0 →
      vp_in v4 n1 ∧ (
      ∀ v2_1 : Int64, v2_1 = ((v2 <<< ((24 : Int32).toInt64 &&& 63)) + (gI σ q1 v4.toNatClampNeg).toInt64) →
      ¬ v1.toInt64 = 0 ∧ (
      vp_in v4 n1 ∧ (
      ∀ σ_2 : St, σ_2 = sI σ q1 v4.toNatClampNeg ((v2_1 / v1.toInt64).toInt32) →
      ¬ v1.toInt64 = 0 ∧ (
      ∀ v2_3 : Int64, v2_3 = (v2_1 - v2_1 / v1.toInt64 * v1.toInt64) →
      ∀ v4_4 : Int32, v4_4 = v4 + (-1) →
      wbX6_over_11 q1 n1 post n v1 v2_3 v4_4 σ_2))))))
def wpX6_over (q1 : Nat) (n1 : Nat) (a2 : Int32) (σ : St) (post : St → Prop) : Prop :=
  ((¬ a2 = 0 →
    ∃ m_11, wbX6_over_11 q1 n1 post m_11 a2 0 23 σ) ∧
  (a2 = 0 →
    post σ))
-- CradleNames$Odds.addTerm()V
def wbX6_addTerm_4   (post : St → Prop) : Nat → Int32 → Int32 → St → Prop
  | 0, _, _, _ => False
  | n + 1, v1, v2, σ =>
    ((24 ≤ v2 →
      post σ) ∧
    (¬ 24 ≤ v2 →
      vp_in v2 24 ∧ (
      vp_in v2 24 ∧ (
      ∀ v1_1 : Int32, v1_1 = (v1 + ((gI σ 62 v2.toNatClampNeg) + (gI σ 61 v2.toNatClampNeg))) →
      vp_in v2 24 ∧ (
      ∀ σ_2 : St, σ_2 = sI σ 62 v2.toNatClampNeg (v1_1 &&& 16777215) →
      ∀ v1_3 : Int32, v1_3 = (v1_1 >>> (24 &&& 31)) →
      ∀ v2_4 : Int32, v2_4 = v2 + 1 →
      wbX6_addTerm_4 post n v1_3 v2_4 σ_2)))))
def wpX6_addTerm   (σ : St) (post : St → Prop) : Prop :=
  ∃ m_4, wbX6_addTerm_4 post m_4 0 0 σ
-- java/util/Arrays.fill([II)V
def wbJ7_fill_53178_5 (q1 : Nat) (n1 : Nat)  (post : St → Prop) : Nat → Int32 → Int32 → Int32 → St → Prop
  | 0, _, _, _, _ => False
  | n + 1, v1, v2, v3, σ =>
    ((v3 ≤ v2 →
      post σ) ∧
    (¬ v3 ≤ v2 →
      vp_in v2 n1 ∧ (
      ∀ σ_1 : St, σ_1 = sI σ q1 v2.toNatClampNeg v1 →
      ∀ v2_2 : Int32, v2_2 = v2 + 1 →
      wbJ7_fill_53178_5 q1 n1 post n v1 v2_2 v3 σ_1)))
def wpJ7_fill_53178 (q1 : Nat) (n1 : Nat) (a2 : Int32) (σ : St) (post : St → Prop) : Prop :=
  ∀ v3_1 : Int32, v3_1 = (Int32.ofNat n1) →
  ∃ m_5, wbJ7_fill_53178_5 q1 n1 post m_5 a2 0 v3_1 σ
-- CradleNames$Odds.power([II)V
def wbX6_power_11 (q1 : Nat) (n1 : Nat)  (post : St → Prop) : Nat → Int32 → Int32 → St → Prop
  | 0, _, _, _ => False
  | n + 1, v2, v3, σ =>
    (((gI σ 60 3) ≤ v3 →
      post σ) ∧
    (¬ (gI σ 60 3) ≤ v3 →
      wpX6_times q1 n1 v2 σ (fun σ_2 =>
      ∀ v3_3 : Int32, v3_3 = v3 + 1 →
      wbX6_power_11 q1 n1 post n v2 v3_3 σ_2)))
def wpX6_power (q1 : Nat) (n1 : Nat) (a2 : Int32) (σ : St) (post : St → Prop) : Prop :=
  wpJ7_fill_53178 q1 n1 0 σ (fun σ_2 =>
  vp_in 0 n1 ∧ (
  ∀ σ_3 : St, σ_3 = sI σ_2 q1 (0 : Int32).toNatClampNeg 1 →
  ∃ m_11, wbX6_power_11 q1 n1 post m_11 a2 0 σ_3))
-- CradleNames$Odds.sumIsAtMostWhole()Z
def wbX6_sumIsAtMostWhole_3   (post : Int32 → St → Prop) : Nat → Int32 → St → Prop
  | 0, _, _ => False
  | n + 1, v1, σ =>
    ((v1 < 0 →
      post 1 σ) ∧
    (¬ v1 < 0 →
      vp_in v1 24 ∧ (
      vp_in v1 24 ∧ (
      (((gI σ 62 v1.toNatClampNeg) = (gI σ 63 v1.toNatClampNeg) →
        ∀ v1_1 : Int32, v1_1 = v1 + (-1) →
        wbX6_sumIsAtMostWhole_3 post n v1_1 σ) ∧
      (¬ (gI σ 62 v1.toNatClampNeg) = (gI σ 63 v1.toNatClampNeg) →
        vp_in v1 24 ∧ (
        vp_in v1 24 ∧ (
        (((gI σ 63 v1.toNatClampNeg) ≤ (gI σ 62 v1.toNatClampNeg) →
          post 0 σ) ∧
        (¬ (gI σ 63 v1.toNatClampNeg) ≤ (gI σ 62 v1.toNatClampNeg) →
          post 1 σ))))))))))
def wpX6_sumIsAtMostWhole   (σ : St) (post : Int32 → St → Prop) : Prop :=
  ∃ m_3, wbX6_sumIsAtMostWhole_3 post m_3 23 σ
-- CradleNames$Odds.isRare(III)Z
def wbX6_isRare_90  (K65 : Int32 → Int32 → Int32 → Int32 → St → Prop) (post : Int32 → St → Prop) (v1 : Int32) (v2 : Int32) (v3 : Int32) (v4 : Int32) (σ : St) : Prop :=
  wpX6_times 61 24 (((gI σ 60 3) - v4) * (gI σ 60 4)) σ (fun σ_2 =>
  wpX6_over 61 24 ((v4 + 1) * (gI σ_2 60 5)) σ_2 (fun σ_4 =>
  ∀ v4_5 : Int32, v4_5 = v4 + 1 →
  K65 v1 v2 v3 v4_5 σ_4))
def wbX6_isRare_65  (K131 : Int32 → St → Prop) (post : Int32 → St → Prop) : Nat → Int32 → Int32 → Int32 → Int32 → St → Prop
  | 0, _, _, _, _, _ => False
  | n + 1, v1, v2, v3, v4, σ =>
    ((v2 < v4 →
      K131 v3 σ) ∧
    (¬ v2 < v4 →
      (((gI σ 60 3) < v4 →
        K131 v3 σ) ∧
      (¬ (gI σ 60 3) < v4 →
        ((v4 < v1 →
          wbX6_isRare_90 (wbX6_isRare_65 K131 post n) post v1 v2 v3 v4 σ) ∧
        (¬ v4 < v1 →
          wpX6_addTerm  σ (fun σ_2 =>
          wbX6_isRare_90 (wbX6_isRare_65 K131 post n) post v1 v2 v3 v4 σ_2)))))))
def wbX6_isRare_131   (post : Int32 → St → Prop) (v3 : Int32) (σ : St) : Prop :=
  wpX6_times 62 24 v3 σ (fun σ_2 =>
  wpX6_power 63 24 ((gI σ_2 60 4) + (gI σ_2 60 5)) σ_2 (fun σ_4 =>
  wpX6_sumIsAtMostWhole  σ_4 (fun r_5 σ_6 =>
  (r_5 = 0 ∨ r_5 = 1) ∧ post r_5 σ_6)))
def wpX6_isRare  (a1 : Int32) (a2 : Int32) (a3 : Int32) (σ : St) (post : Int32 → St → Prop) : Prop :=
  wpJ7_fill_53178 62 24 0 σ (fun σ_2 =>
  ((¬ (gI σ_2 60 5) = 0 →
    wpX6_power 61 24 (gI σ_2 60 5) σ_2 (fun σ_4 =>
    ∃ m_65, wbX6_isRare_65 (wbX6_isRare_131 post) post m_65 a1 a2 a3 0 σ_4)) ∧
  ((gI σ_2 60 5) = 0 →
    wpX6_power 61 24 (gI σ_2 60 4) σ_2 (fun σ_6 =>
    (((gI σ_6 60 3) < a1 →
      wbX6_isRare_131 post a3 σ_6) ∧
    (¬ (gI σ_6 60 3) < a1 →
      ((a2 < (gI σ_6 60 3) →
        wbX6_isRare_131 post a3 σ_6) ∧
      (¬ a2 < (gI σ_6 60 3) →
        wpX6_addTerm  σ_6 (fun σ_8 =>
        wbX6_isRare_131 post a3 σ_8)))))))))
-- CradleNames$Press.spot(III)I
def wpX7_spot  (a1 : Int32) (a2 : Int32) (a3 : Int32) (σ : St) (post : Int32 → St → Prop) : Prop :=
  post ((((a1 * 2) + a2) * 16) + a3) σ
-- CradleNames$Press.add(IIII)I
def wpX7_add  (a1 : Int32) (a2 : Int32) (a3 : Int32) (a4 : Int32) (σ : St) (post : Int32 → St → Prop) : Prop :=
  ((150 ≤ (gI σ 64 0) →
    post (gI σ 64 0) σ) ∧
  (¬ 150 ≤ (gI σ 64 0) →
    vp_in (gI σ 64 0) 150 ∧ (
    ∀ σ_1 : St, σ_1 = sI σ 65 (gI σ 64 0).toNatClampNeg a1 →
    vp_in (gI σ_1 64 0) 150 ∧ (
    ∀ σ_2 : St, σ_2 = sI σ_1 66 (gI σ_1 64 0).toNatClampNeg a2 →
    vp_in (gI σ_2 64 0) 150 ∧ (
    ∀ σ_3 : St, σ_3 = sI σ_2 67 (gI σ_2 64 0).toNatClampNeg a3 →
    vp_in (gI σ_3 64 0) 150 ∧ (
    ∀ σ_4 : St, σ_4 = sI σ_3 68 (gI σ_3 64 0).toNatClampNeg a4 →
    ∀ σ_5 : St, σ_5 = sI σ_4 64 0 ((gI σ_4 64 0) + 1) →
    post (gI σ_5 64 0) σ_5))))))
-- CradleNames$Press.forgetRuns()V
def wpX7_forgetRuns   (σ : St) (post : St → Prop) : Prop :=
  ∀ σ_1 : St, σ_1 = sI σ 64 6 0 →
  post σ_1
-- CradleNames$Press.hasRun(I)Z
def wpX7_hasRun  (a1 : Int32) (σ : St) (post : Int32 → St → Prop) : Prop :=
  ((¬ (((gI σ 64 6) >>> (a1 &&& 31)) &&& 1) = 1 →
    post 0 σ) ∧
  ((((gI σ 64 6) >>> (a1 &&& 31)) &&& 1) = 1 →
    post 1 σ))
-- CradleNames$Press.keepRun(ILCradleNames$Book;)V
def wbX7_keepRun_11 (k2 : Nat) (K2 : Int32 → Int32 → St → Prop) (post : St → Prop) : Nat → Int32 → Int32 → Int32 → St → Prop
  | 0, _, _, _, _ => False
  | n + 1, v1, v3, v4, σ =>
    ((6 ≤ v4 →
      ∀ v3_1 : Int32, v3_1 = v3 + 1 →
      K2 v1 v3_1 σ) ∧
    (¬ 6 ≤ v4 →
      ∀ v5_2 : Int32, v5_2 = (v4 / 2) →
      ∀ v6_3 : Int32, v6_3 = (v4 - v4 / 2 * 2) →
      wpX4_row v5_2 0 v6_3 σ (fun r_4 σ_5 =>
      vp_in ((v3 * 12) + r_4) 732 ∧ (
      wpX4_row v5_2 1 v6_3 σ_5 (fun r_6 σ_7 =>
      vp_in ((v3 * 12) + r_6) 732 ∧ (
      vp_in ((((v1 * 61) + v3) * 6) + v4) 2196 ∧ (
      ∀ σ_8 : St, σ_8 = sL σ_7 69 ((((v1 * 61) + v3) * 6) + v4).toNatClampNeg ((gL σ_5 (21 + 4 * k2 + 1) ((v3 * 12) + r_4).toNatClampNeg) + (gL σ_7 (21 + 4 * k2 + 1) ((v3 * 12) + r_6).toNatClampNeg)) →
      ∀ v4_9 : Int32, v4_9 = v4 + 1 →
      wbX7_keepRun_11 k2 K2 post n v1 v3 v4_9 σ_8)))))))
def wbX7_keepRun_2 (k2 : Nat)  (post : St → Prop) : Nat → Int32 → Int32 → St → Prop
  | 0, _, _, _ => False
  | n + 1, v1, v3, σ =>
    ((61 ≤ v3 →
      ∀ σ_1 : St, σ_1 = sI σ 64 6 ((gI σ 64 6) ||| (1 <<< (v1 &&& 31))) →
      post σ_1) ∧
    (¬ 61 ≤ v3 →
      ∃ m_11, wbX7_keepRun_11 k2 (wbX7_keepRun_2 k2 post n) post m_11 v1 v3 0 σ))
def wpX7_keepRun (k2 : Nat) (a1 : Int32) (σ : St) (post : St → Prop) : Prop :=
  ∃ m_2, wbX7_keepRun_2 k2 post m_2 a1 0 σ
-- CradleNames$Press.brought(III)I
def wpX7_brought  (a1 : Int32) (a2 : Int32) (a3 : Int32) (σ : St) (post : Int32 → St → Prop) : Prop :=
  vp_in ((((a1 * 61) + a2) * 6) + (a3 / 16)) 2196 ∧ (
  ∀ v4_1 : Int64, v4_1 = (gL σ 69 ((((a1 * 61) + a2) * 6) + (a3 / 16)).toNatClampNeg) →
  post (((v4_1.toUInt64 >>> ((4 * (a3 - a3 / 16 * 16)).toInt64.toUInt64 &&& Int64.toUInt64 63)).toInt64).toInt32 &&& 15) σ)
-- CradleNames$Press.agreeing(III)I
def wbX7_agreeing_86  (K6 : Int32 → Int32 → Int32 → Int32 → St → Prop) (post : Int32 → St → Prop) (v2 : Int32) (v3 : Int32) (v4 : Int32) (v5 : Int32) (v6 : Int32) (σ : St) : Prop :=
  ((v6 = 0 →
    ∀ v4_1 : Int32, v4_1 = (v4 ||| 0) →
    ∀ v5_2 : Int32, v5_2 = v5 + 1 →
    K6 v2 v3 v4_1 v5_2 σ) ∧
  (¬ v6 = 0 →
    ∀ v4_3 : Int32, v4_3 = (v4 ||| (1 <<< (v5 &&& 31))) →
    ∀ v5_4 : Int32, v5_4 = v5 + 1 →
    K6 v2 v3 v4_3 v5_4 σ))
def wbX7_agreeing_18  (K6 : Int32 → Int32 → Int32 → Int32 → St → Prop) (post : Int32 → St → Prop) : Nat → Int32 → Int32 → Int32 → Int32 → Int32 → Int32 → St → Prop
  | 0, _, _, _, _, _, _, _ => False
  | n + 1, v2, v3, v4, v5, v6, v7, σ =>
    (((gI σ 64 0) ≤ v7 →
      wbX7_agreeing_86 K6 post v2 v3 v4 v5 v6 σ) ∧
    (¬ (gI σ 64 0) ≤ v7 →
      ((v6 = 0 →
        wbX7_agreeing_86 K6 post v2 v3 v4 v5 v6 σ) ∧
      (¬ v6 = 0 →
        vp_in v7 150 ∧ (
        ((v3 < (gI σ 68 v7.toNatClampNeg) →
          ∀ v7_1 : Int32, v7_1 = v7 + 1 →
          wbX7_agreeing_18 K6 post n v2 v3 v4 v5 1 v7_1 σ) ∧
        (¬ v3 < (gI σ 68 v7.toNatClampNeg) →
          vp_in v7 150 ∧ (
          vp_in v7 150 ∧ (
          wpX7_brought v5 (gI σ 65 v7.toNatClampNeg) (gI σ 66 v7.toNatClampNeg) σ (fun r_2 σ_3 =>
          vp_in v7 150 ∧ (
          ((¬ r_2 = (gI σ_3 67 v7.toNatClampNeg) →
            ∀ v7_4 : Int32, v7_4 = v7 + 1 →
            wbX7_agreeing_18 K6 post n v2 v3 v4 v5 0 v7_4 σ_3) ∧
          (r_2 = (gI σ_3 67 v7.toNatClampNeg) →
            ∀ v7_5 : Int32, v7_5 = v7 + 1 →
            wbX7_agreeing_18 K6 post n v2 v3 v4 v5 1 v7_5 σ_3)))))))))))))
def wbX7_agreeing_6   (post : Int32 → St → Prop) : Nat → Int32 → Int32 → Int32 → Int32 → St → Prop
  | 0, _, _, _, _, _ => False
  | n + 1, v2, v3, v4, v5, σ =>
    ((v2 < v5 →
      post v4 σ) ∧
    (¬ v2 < v5 →
      ∃ m_18, wbX7_agreeing_18 (wbX7_agreeing_6 post n) post m_18 v2 v3 v4 v5 1 0 σ))
def wpX7_agreeing  (a1 : Int32) (a2 : Int32) (a3 : Int32) (σ : St) (post : Int32 → St → Prop) : Prop :=
  ∃ m_6, wbX7_agreeing_6 post m_6 a2 a3 0 a1 σ
-- CradleNames$Press.bound(IIIZ)I
def wbX7_bound_6   (post : Int32 → St → Prop) : Nat → Int32 → Int32 → Int32 → Int32 → Int32 → Int32 → St → Prop
  | 0, _, _, _, _, _, _, _ => False
  | n + 1, v1, v2, v3, v4, v5, v6, σ =>
    ((6 ≤ v6 →
      post v5 σ) ∧
    (¬ 6 ≤ v6 →
      ((¬ ((v1 >>> (v6 &&& 31)) &&& 1) = 1 →
        ∀ v6_1 : Int32, v6_1 = v6 + 1 →
        wbX7_bound_6 post n v1 v2 v3 v4 v5 v6_1 σ) ∧
      (((v1 >>> (v6 &&& 31)) &&& 1) = 1 →
        wpX7_brought v6 v2 v3 σ (fun r_2 σ_3 =>
        ((v5 = (-1) →
          ∀ v6_4 : Int32, v6_4 = v6 + 1 →
          wbX7_bound_6 post n v1 v2 v3 v4 r_2 v6_4 σ_3) ∧
        (¬ v5 = (-1) →
          ((v4 = 0 →
            ((v5 ≤ r_2 →
              ∀ v6_5 : Int32, v6_5 = v6 + 1 →
              wbX7_bound_6 post n v1 v2 v3 v4 v5 v6_5 σ_3) ∧
            (¬ v5 ≤ r_2 →
              ∀ v6_6 : Int32, v6_6 = v6 + 1 →
              wbX7_bound_6 post n v1 v2 v3 v4 r_2 v6_6 σ_3))) ∧
          (¬ v4 = 0 →
            ((r_2 ≤ v5 →
              ∀ v6_7 : Int32, v6_7 = v6 + 1 →
              wbX7_bound_6 post n v1 v2 v3 v4 v5 v6_7 σ_3) ∧
            (¬ r_2 ≤ v5 →
              ∀ v6_8 : Int32, v6_8 = v6 + 1 →
              wbX7_bound_6 post n v1 v2 v3 v4 r_2 v6_8 σ_3)))))))))))
def wpX7_bound  (a1 : Int32) (a2 : Int32) (a3 : Int32) (a4 : Int32) (σ : St) (post : Int32 → St → Prop) : Prop :=
  ∃ m_6, wbX7_bound_6 post m_6 a1 a2 a3 a4 (-1) 0 σ
-- CradleNames$Press.width(III)I
def wpX7_width  (a1 : Int32) (a2 : Int32) (a3 : Int32) (σ : St) (post : Int32 → St → Prop) : Prop :=
  wpX7_bound a1 a2 a3 1 σ (fun r_1 σ_2 =>
  wpX7_bound a1 a2 a3 0 σ_2 (fun r_3 σ_4 =>
  post (r_1 - r_3) σ_4))
-- CradleNames$Press.widestSpot(II)I
def wbX7_widestSpot_8   (post : Int32 → St → Prop) : Nat → Int32 → Int32 → Int32 → Int32 → Int32 → St → Prop
  | 0, _, _, _, _, _, _ => False
  | n + 1, v1, v2, v3, v4, v5, σ =>
    ((96 ≤ v5 →
      post v3 σ) ∧
    (¬ 96 ≤ v5 →
      wpX7_width v1 v2 v5 σ (fun r_1 σ_2 =>
      ((r_1 ≤ v4 →
        ∀ v5_3 : Int32, v5_3 = v5 + 1 →
        wbX7_widestSpot_8 post n v1 v2 v3 v4 v5_3 σ_2) ∧
      (¬ r_1 ≤ v4 →
        ∀ v5_4 : Int32, v5_4 = v5 + 1 →
        wbX7_widestSpot_8 post n v1 v2 v5 r_1 v5_4 σ_2)))))
def wpX7_widestSpot  (a1 : Int32) (a2 : Int32) (σ : St) (post : Int32 → St → Prop) : Prop :=
  ∃ m_8, wbX7_widestSpot_8 post m_8 a1 a2 (-1) 0 0 σ
-- CradleNames$Reader.hasRoom()Z
def wpX8_hasRoom   (σ : St) (post : Int32 → St → Prop) : Prop :=
  ((300 < ((gI σ 42 1) + 20) →
    post 0 σ) ∧
  (¬ 300 < ((gI σ 42 1) + 20) →
    post 1 σ))
-- CradleNames$Reader.put(I)V
def wbX8_put_3   (post : St → Prop) : Nat → Int32 → Int32 → St → Prop
  | 0, _, _, _ => False
  | n + 1, v1, v2, σ =>
    ((v2 < 0 →
      post σ) ∧
    (¬ v2 < 0 →
      ((300 ≤ (gI σ 42 1) →
        post σ) ∧
      (¬ 300 ≤ (gI σ 42 1) →
        vp_in (gI σ 42 1) 300 ∧ (
        ∀ σ_1 : St, σ_1 = sI σ 43 (gI σ 42 1).toNatClampNeg ((v1.toUInt32 >>> (v2.toUInt32 &&& Int32.toUInt32 31)).toInt32 &&& 255) →
        ∀ σ_2 : St, σ_2 = sI σ_1 42 1 ((gI σ_1 42 1) + 1) →
        ∀ v2_3 : Int32, v2_3 = v2 + (-8) →
        wbX8_put_3 post n v1 v2_3 σ_2)))))
def wpX8_put  (a1 : Int32) (σ : St) (post : St → Prop) : Prop :=
  ∃ m_3, wbX8_put_3 post m_3 a1 24 σ
-- CradleNames$Reader.fail(I)V
def wpX8_fail  (a1 : Int32) (σ : St) (post : St → Prop) : Prop :=
  (((gI σ 42 8) = 39 →
    post σ) ∧
  (¬ (gI σ 42 8) = 39 →
    ∀ σ_1 : St, σ_1 = sI σ 42 2 a1 →
    vp_in (gI σ_1 42 7) 301 ∧ (
    ∀ σ_2 : St, σ_2 = sI σ_1 42 3 (gI σ_1 45 (gI σ_1 42 7).toNatClampNeg) →
    ∀ σ_3 : St, σ_3 = sI σ_2 42 8 39 →
    post σ_3)))
-- CradleNames$Reader.advance()V
def wpX8_advance   (σ : St) (post : St → Prop) : Prop :=
  (((gI σ 42 8) = 39 →
    post σ) ∧
  (¬ (gI σ 42 8) = 39 →
    (((gI σ 42 8) = 37 →
      post σ) ∧
    (¬ (gI σ 42 8) = 37 →
      ∀ σ_1 : St, σ_1 = sI σ 42 7 ((gI σ 42 7) + 1) →
      vp_in (gI σ_1 42 7) 301 ∧ (
      ∀ σ_2 : St, σ_2 = sI σ_1 42 8 (gI σ_1 44 (gI σ_1 42 7).toNatClampNeg) →
      post σ_2)))))
-- CradleNames$Reader.expect(I)V
def wpX8_expect  (a1 : Int32) (σ : St) (post : St → Prop) : Prop :=
  ((¬ (gI σ 42 8) = a1 →
    wpX8_fail 1 σ (fun σ_2 =>
    post σ_2)) ∧
  ((gI σ 42 8) = a1 →
    wpX8_advance  σ (fun σ_4 =>
    post σ_4)))
-- CradleNames$Reader.window(I)V
def wbX8_window_44  (K47 : St → Prop) (K78 : St → Prop) (post : St → Prop) (v1 : Int32) (v2 : Int32) (s0 : Int32) (s1 : Int32) (σ : St) : Prop :=
  ((s1 ≤ s0 →
    ((¬ v1 = 0 →
      ∃ k_1, gR σ 42 9 = some (30 + 2 * k_1) ∧ k_1 < 6 ∧ (
      ∀ σ_2 : St, σ_2 = sI σ (30 + 2 * k_1) 3 v2 →
      K78 σ_2)) ∧
    (v1 = 0 →
      ∃ k_3, gR σ 42 9 = some (30 + 2 * k_3) ∧ k_3 < 6 ∧ (
      ∀ σ_4 : St, σ_4 = sI σ (30 + 2 * k_3) 2 v2 →
      K78 σ_4)))) ∧
  (¬ s1 ≤ s0 →
    K47 σ))
def wbX8_window_47  (K78 : St → Prop) (post : St → Prop)  (σ : St) : Prop :=
  wpX8_fail 2 σ (fun σ_2 =>
  K78 σ_2)
def wbX8_window_78   (post : St → Prop)  (σ : St) : Prop :=
  wpX8_advance  σ (fun σ_2 =>
  post σ_2)
def wpX8_window  (a1 : Int32) (σ : St) (post : St → Prop) : Prop :=
  vp_in (gI σ 42 7) 301 ∧ (
  ∀ v2_1 : Int32, v2_1 = (gI σ 46 (gI σ 42 7).toNatClampNeg) →
  (((gI σ 42 8) = 36 →
    ((v2_1 < 1 →
      wbX8_window_47 (wbX8_window_78 post) post σ) ∧
    (¬ v2_1 < 1 →
      ((¬ a1 = 0 →
        wbX8_window_44 (wbX8_window_47 (wbX8_window_78 post) post) (wbX8_window_78 post) post a1 v2_1 60 v2_1 σ) ∧
      (a1 = 0 →
        wbX8_window_44 (wbX8_window_47 (wbX8_window_78 post) post) (wbX8_window_78 post) post a1 v2_1 20 v2_1 σ))))) ∧
  (¬ (gI σ 42 8) = 36 →
    wpX8_fail 1 σ (fun σ_3 =>
    wbX8_window_78 post σ_3))))
-- CradleNames$Taste.put(I)V
def wpX9_put (k0 : Nat) (a1 : Int32) (σ : St) (post : St → Prop) : Prop :=
  ((300 ≤ (gI σ (30 + 2 * k0) 1) →
    post σ) ∧
  (¬ 300 ≤ (gI σ (30 + 2 * k0) 1) →
    vp_in (gI σ (30 + 2 * k0) 1) 300 ∧ (
    ∀ σ_1 : St, σ_1 = sI σ (30 + 2 * k0 + 1) (gI σ (30 + 2 * k0) 1).toNatClampNeg a1 →
    ∀ σ_2 : St, σ_2 = sI σ_1 (30 + 2 * k0) 1 ((gI σ_1 (30 + 2 * k0) 1) + 1) →
    post σ_2)))
-- CradleNames$Reader.one(I)V
def wbX8_one_106 (FX8_around : Int32 → Int32 → St → (St → Prop) → Prop)  (post : St → Prop) (v1 : Int32) (v2 : Int32) (σ : St) : Prop :=
  FX8_around v2 v1 σ (fun σ_2 =>
  post σ_2)
def wbX8_one_31 (FX8_around : Int32 → Int32 → St → (St → Prop) → Prop)  (post : St → Prop)  (σ : St) : Prop :=
  ∃ k_1, gR σ 42 9 = some (30 + 2 * k_1) ∧ k_1 < 6 ∧ (
  vp_in (gI σ 42 7) 301 ∧ (
  wpX9_put k_1 (100 + (gI σ 46 (gI σ 42 7).toNatClampNeg)) σ (fun σ_3 =>
  wpX8_advance  σ_3 (fun σ_5 =>
  post σ_5))))
def wbX8_one_82 (FX8_around : Int32 → Int32 → St → (St → Prop) → Prop)  (post : St → Prop) (v1 : Int32) (v2 : Int32) (σ : St) : Prop :=
  ((v2 = 29 →
    wbX8_one_106 FX8_around post v1 v2 σ) ∧
  (¬ v2 = 29 →
    ((v2 = 32 →
      wbX8_one_106 FX8_around post v1 v2 σ) ∧
    (¬ v2 = 32 →
      ((v2 = 20 →
        wbX8_one_106 FX8_around post v1 v2 σ) ∧
      (¬ v2 = 20 →
        ((¬ v2 = 21 →
          wpX8_fail 1 σ (fun σ_2 =>
          post σ_2)) ∧
        (v2 = 21 →
          wbX8_one_106 FX8_around post v1 v2 σ))))))))
def wpX8_one (FX8_around : Int32 → Int32 → St → (St → Prop) → Prop) (a1 : Int32) (σ : St) (post : St → Prop) : Prop :=
  ∀ v2_1 : Int32, v2_1 = (gI σ 42 8) →
  ((¬ v2_1 = 36 →
    ((v2_1 < 0 →
      wbX8_one_82 FX8_around post a1 v2_1 σ) ∧
    (¬ v2_1 < 0 →
      ((14 ≤ v2_1 →
        wbX8_one_82 FX8_around post a1 v2_1 σ) ∧
      (¬ 14 ≤ v2_1 →
        ∃ k_2, gR σ 42 9 = some (30 + 2 * k_2) ∧ k_2 < 6 ∧ (
        wpX9_put k_2 v2_1 σ (fun σ_4 =>
        wpX8_advance  σ_4 (fun σ_6 =>
        post σ_6)))))))) ∧
  (v2_1 = 36 →
    vp_in (gI σ 42 7) 301 ∧ (
    (((gI σ 46 (gI σ 42 7).toNatClampNeg) ≤ 9999 →
      wbX8_one_31 FX8_around post σ) ∧
    (¬ (gI σ 46 (gI σ 42 7).toNatClampNeg) ≤ 9999 →
      wpX8_fail 2 σ (fun σ_8 =>
      wbX8_one_31 FX8_around post σ_8))))))
-- CradleNames$Reader.product(I)V
def wbX8_product_32 (FX8_around : Int32 → Int32 → St → (St → Prop) → Prop) (K7 : Int32 → Int32 → St → Prop) (post : St → Prop) (v1 : Int32) (v2 : Int32) (σ : St) : Prop :=
  ∀ v3_1 : Int32, v3_1 = (gI σ 42 8) →
  wpX8_advance  σ (fun σ_3 =>
  wpX8_one FX8_around v1 σ_3 (fun σ_5 =>
  ∃ k_6, gR σ_5 42 9 = some (30 + 2 * k_6) ∧ k_6 < 6 ∧ (
  wpX9_put k_6 v3_1 σ_5 (fun σ_8 =>
  ∀ v2_9 : Int32, v2_9 = v2 + 1 →
  K7 v1 v2_9 σ_8))))
def wbX8_product_7 (FX8_around : Int32 → Int32 → St → (St → Prop) → Prop)  (post : St → Prop) : Nat → Int32 → Int32 → St → Prop
  | 0, _, _, _ => False
  | n + 1, v1, v2, σ =>
    ((300 ≤ v2 →
      post σ) ∧
    (¬ 300 ≤ v2 →
      (((gI σ 42 8) = 30 →
        wbX8_product_32 FX8_around (wbX8_product_7 FX8_around post n) post v1 v2 σ) ∧
      (¬ (gI σ 42 8) = 30 →
        ((¬ (gI σ 42 8) = 31 →
          post σ) ∧
        ((gI σ 42 8) = 31 →
          wbX8_product_32 FX8_around (wbX8_product_7 FX8_around post n) post v1 v2 σ))))))
def wpX8_product (FX8_around : Int32 → Int32 → St → (St → Prop) → Prop) (a1 : Int32) (σ : St) (post : St → Prop) : Prop :=
  wpX8_one FX8_around a1 σ (fun σ_2 =>
  ∃ m_7, wbX8_product_7 FX8_around post m_7 a1 0 σ_2)
-- CradleNames$Reader.sum(I)V
def wbX8_sum_32 (FX8_around : Int32 → Int32 → St → (St → Prop) → Prop) (K7 : Int32 → Int32 → St → Prop) (post : St → Prop) (v1 : Int32) (v2 : Int32) (σ : St) : Prop :=
  ∀ v3_1 : Int32, v3_1 = (gI σ 42 8) →
  wpX8_advance  σ (fun σ_3 =>
  wpX8_product FX8_around v1 σ_3 (fun σ_5 =>
  ∃ k_6, gR σ_5 42 9 = some (30 + 2 * k_6) ∧ k_6 < 6 ∧ (
  wpX9_put k_6 v3_1 σ_5 (fun σ_8 =>
  ∀ v2_9 : Int32, v2_9 = v2 + 1 →
  K7 v1 v2_9 σ_8))))
def wbX8_sum_7 (FX8_around : Int32 → Int32 → St → (St → Prop) → Prop)  (post : St → Prop) : Nat → Int32 → Int32 → St → Prop
  | 0, _, _, _ => False
  | n + 1, v1, v2, σ =>
    ((300 ≤ v2 →
      post σ) ∧
    (¬ 300 ≤ v2 →
      (((gI σ 42 8) = 28 →
        wbX8_sum_32 FX8_around (wbX8_sum_7 FX8_around post n) post v1 v2 σ) ∧
      (¬ (gI σ 42 8) = 28 →
        ((¬ (gI σ 42 8) = 29 →
          post σ) ∧
        ((gI σ 42 8) = 29 →
          wbX8_sum_32 FX8_around (wbX8_sum_7 FX8_around post n) post v1 v2 σ))))))
def wpX8_sum (FX8_around : Int32 → Int32 → St → (St → Prop) → Prop) (a1 : Int32) (σ : St) (post : St → Prop) : Prop :=
  wpX8_product FX8_around a1 σ (fun σ_2 =>
  ∃ m_7, wbX8_sum_7 FX8_around post m_7 a1 0 σ_2)
-- CradleNames$Reader.around(II)V
def wbX8_around_112 (FX8_around : Int32 → Int32 → St → (St → Prop) → Prop)  (post : St → Prop)  (σ : St) : Prop :=
  wpX8_expect 33 σ (fun σ_2 =>
  post σ_2)
def wbX8_around_41 (FX8_around : Int32 → Int32 → St → (St → Prop) → Prop)  (post : St → Prop) (v1 : Int32) (v2 : Int32) (σ : St) : Prop :=
  ((¬ (gI σ 42 8) = 39 →
    wpX8_advance  σ (fun σ_2 =>
    ((¬ v1 = 29 →
      wpX8_sum FX8_around (v2 + 1) σ_2 (fun σ_4 =>
      ((v1 = 32 →
        wbX8_around_112 FX8_around post σ_4) ∧
      (¬ v1 = 32 →
        wpX8_expect 34 σ_4 (fun σ_6 =>
        wpX8_sum FX8_around (v2 + 1) σ_6 (fun σ_8 =>
        ∃ k_9, gR σ_8 42 9 = some (30 + 2 * k_9) ∧ k_9 < 6 ∧ (
        wpX9_put k_9 v1 σ_8 (fun σ_11 =>
        wbX8_around_112 FX8_around post σ_11)))))))) ∧
    (v1 = 29 →
      wpX8_one FX8_around (v2 + 1) σ_2 (fun σ_13 =>
      ∃ k_14, gR σ_13 42 9 = some (30 + 2 * k_14) ∧ k_14 < 6 ∧ (
      wpX9_put k_14 40 σ_13 (fun σ_16 =>
      post σ_16))))))) ∧
  ((gI σ 42 8) = 39 →
    post σ))
def wbX8_around_12 (FX8_around : Int32 → Int32 → St → (St → Prop) → Prop) (K30 : Int32 → Int32 → St → Prop) (post : St → Prop) (v1 : Int32) (v2 : Int32) (σ : St) : Prop :=
  wpX8_advance  σ (fun σ_2 =>
  (((gI σ_2 42 8) = 32 →
    K30 v1 v2 σ_2) ∧
  (¬ (gI σ_2 42 8) = 32 →
    wpX8_fail 1 σ_2 (fun σ_4 =>
    K30 v1 v2 σ_4))))
def wbX8_around_30 (FX8_around : Int32 → Int32 → St → (St → Prop) → Prop)  (post : St → Prop) (v1 : Int32) (v2 : Int32) (σ : St) : Prop :=
  ((v2 < 8 →
    wbX8_around_41 FX8_around post v1 v2 σ) ∧
  (¬ v2 < 8 →
    wpX8_fail 3 σ (fun σ_2 =>
    wbX8_around_41 FX8_around post v1 v2 σ_2)))
def wpX8_around (FX8_around : Int32 → Int32 → St → (St → Prop) → Prop) (a1 : Int32) (a2 : Int32) (σ : St) (post : St → Prop) : Prop :=
  ((a1 = 20 →
    wbX8_around_12 FX8_around (wbX8_around_30 FX8_around post) post a1 a2 σ) ∧
  (¬ a1 = 20 →
    ((¬ a1 = 21 →
      wbX8_around_30 FX8_around post a1 a2 σ) ∧
    (a1 = 21 →
      wbX8_around_12 FX8_around (wbX8_around_30 FX8_around post) post a1 a2 σ))))
def wrX8_around : Nat → Int32 → Int32 → St → (St → Prop) → Prop
  | 0, _, _, _, _ => False
  | n + 1, a1, a2, σ, post => wpX8_around (wrX8_around n) a1 a2 σ post
-- CradleNames$Reader.ask()V
def wbX8_ask_89   (post : St → Prop) : Nat → Int32 → Int32 → St → Prop
  | 0, _, _, _ => False
  | n + 1, v1, v3, σ =>
    ((v1 ≤ v3 →
      post σ) ∧
    (¬ v1 ≤ v3 →
      ∃ k_1, gR σ 42 9 = some (30 + 2 * k_1) ∧ k_1 < 6 ∧ (
      wpX9_put k_1 19 σ (fun σ_3 =>
      ∀ v3_4 : Int32, v3_4 = v3 + 1 →
      wbX8_ask_89 post n v1 v3_4 σ_3))))
def wbX8_ask_65  (K70 : Int32 → Int32 → St → Prop) (post : St → Prop) (v1 : Int32) (v2 : Int32) (σ : St) : Prop :=
  wpX8_fail 1 σ (fun σ_2 =>
  K70 v1 v2 σ_2)
def wbX8_ask_70   (post : St → Prop) (v1 : Int32) (v2 : Int32) (σ : St) : Prop :=
  wpX8_advance  σ (fun σ_2 =>
  wpX8_sum (wrX8_around 12) v1 σ_2 (fun σ_4 =>
  ∃ k_5, gR σ_4 42 9 = some (30 + 2 * k_5) ∧ k_5 < 6 ∧ (
  wpX9_put k_5 v2 σ_4 (fun σ_7 =>
  ∃ m_89, wbX8_ask_89 post m_89 v1 0 σ_7))))
def wbX8_ask_30  (K4 : Int32 → Int32 → St → Prop) (post : St → Prop) (v1 : Int32) (v2 : Int32) (σ : St) : Prop :=
  wpX8_advance  σ (fun σ_2 =>
  ∀ v1_3 : Int32, v1_3 = v1 + 1 →
  ∀ v2_4 : Int32, v2_4 = v2 + 1 →
  K4 v1_3 v2_4 σ_2)
def wbX8_ask_43   (post : St → Prop) (v1 : Int32) (σ : St) : Prop :=
  wpX8_sum (wrX8_around 12) v1 σ (fun σ_2 =>
  ∀ v2_3 : Int32, v2_3 = (gI σ_2 42 8) →
  ((v2_3 < 22 →
    wbX8_ask_65 (wbX8_ask_70 post) post v1 v2_3 σ_2) ∧
  (¬ v2_3 < 22 →
    ((v2_3 ≤ 27 →
      wbX8_ask_70 post v1 v2_3 σ_2) ∧
    (¬ v2_3 ≤ 27 →
      wbX8_ask_65 (wbX8_ask_70 post) post v1 v2_3 σ_2)))))
def wbX8_ask_4   (post : St → Prop) : Nat → Int32 → Int32 → St → Prop
  | 0, _, _, _ => False
  | n + 1, v1, v2, σ =>
    ((8 < v2 →
      wbX8_ask_43 post v1 σ) ∧
    (¬ 8 < v2 →
      ((¬ (gI σ 42 8) = 19 →
        wbX8_ask_43 post v1 σ) ∧
      ((gI σ 42 8) = 19 →
        ((v1 < 8 →
          wbX8_ask_30 (wbX8_ask_4 post n) post v1 v2 σ) ∧
        (¬ v1 < 8 →
          wpX8_fail 3 σ (fun σ_2 =>
          wbX8_ask_30 (wbX8_ask_4 post n) post v1 v2 σ_2)))))))
def wpX8_ask   (σ : St) (post : St → Prop) : Prop :=
  ∃ m_4, wbX8_ask_4 post m_4 0 0 σ
-- CradleNames$Reader.either()V
def wbX8_either_77  (K4 : Int32 → Int32 → St → Prop) (post : St → Prop) (v1 : Int32) (v2 : Int32) (σ : St) : Prop :=
  ((v1 = 0 →
    ∀ v2_1 : Int32, v2_1 = v2 + 1 →
    K4 1 v2_1 σ) ∧
  (¬ v1 = 0 →
    ∃ k_2, gR σ 42 9 = some (30 + 2 * k_2) ∧ k_2 < 6 ∧ (
    wpX9_put k_2 17 σ (fun σ_4 =>
    ∀ v2_5 : Int32, v2_5 = v2 + 1 →
    K4 1 v2_5 σ_4))))
def wbX8_either_38  (K4 : Int32 → Int32 → St → Prop) (post : St → Prop) : Nat → Int32 → Int32 → Int32 → St → Prop
  | 0, _, _, _, _ => False
  | n + 1, v1, v2, v3, σ =>
    ((300 ≤ v3 →
      wbX8_either_77 K4 post v1 v2 σ) ∧
    (¬ 300 ≤ v3 →
      ((¬ (gI σ 42 8) = 18 →
        wbX8_either_77 K4 post v1 v2 σ) ∧
      ((gI σ 42 8) = 18 →
        wpX8_advance  σ (fun σ_2 =>
        wpX8_ask  σ_2 (fun σ_4 =>
        ∃ k_5, gR σ_4 42 9 = some (30 + 2 * k_5) ∧ k_5 < 6 ∧ (
        wpX9_put k_5 18 σ_4 (fun σ_7 =>
        ∀ v3_8 : Int32, v3_8 = v3 + 1 →
        wbX8_either_38 K4 post n v1 v2 v3_8 σ_7))))))))
def wbX8_either_32  (K4 : Int32 → Int32 → St → Prop) (post : St → Prop) (v1 : Int32) (v2 : Int32) (σ : St) : Prop :=
  wpX8_ask  σ (fun σ_2 =>
  ∃ m_38, wbX8_either_38 K4 post m_38 v1 v2 0 σ_2)
def wbX8_either_24  (K4 : Int32 → Int32 → St → Prop) (post : St → Prop) (v1 : Int32) (v2 : Int32) (σ : St) : Prop :=
  ((v1 = 0 →
    wbX8_either_32 K4 post v1 v2 σ) ∧
  (¬ v1 = 0 →
    wpX8_advance  σ (fun σ_2 =>
    wbX8_either_32 K4 post v1 v2 σ_2)))
def wbX8_either_4   (post : St → Prop) : Nat → Int32 → Int32 → St → Prop
  | 0, _, _, _ => False
  | n + 1, v1, v2, σ =>
    ((300 ≤ v2 →
      post σ) ∧
    (¬ 300 ≤ v2 →
      ((v2 = 0 →
        wbX8_either_24 (wbX8_either_4 post n) post v1 v2 σ) ∧
      (¬ v2 = 0 →
        ((¬ (gI σ 42 8) = 17 →
          post σ) ∧
        ((gI σ 42 8) = 17 →
          wbX8_either_24 (wbX8_either_4 post n) post v1 v2 σ))))))
def wpX8_either   (σ : St) (post : St → Prop) : Prop :=
  ∃ m_4, wbX8_either_4 post m_4 0 0 σ
-- CradleNames$Reader.clause(I)V
def wbX8_clause_151   (post : St → Prop)  (σ : St) : Prop :=
  wpX8_expect 35 σ (fun σ_2 =>
  post σ_2)
def wbX8_clause_93   (post : St → Prop) (v2 : Int32) (s0 : Int32) (s1 : Int32) (σ : St) : Prop :=
  ∀ σ_1 : St, σ_1 = sI σ 42 10 (s1 ||| s0) →
  wpX8_advance  σ_1 (fun σ_3 =>
  ((¬ v2 = 14 →
    ((¬ v2 = 15 →
      wpX8_window v2 σ_3 (fun σ_5 =>
      wbX8_clause_151 post σ_5)) ∧
    (v2 = 15 →
      wpX8_either  σ_3 (fun σ_7 =>
      ∃ k_8, gR σ_7 42 9 = some (30 + 2 * k_8) ∧ k_8 < 6 ∧ (
      wpX9_put k_8 15 σ_7 (fun σ_10 =>
      wbX8_clause_151 post σ_10)))))) ∧
  (v2 = 14 →
    wpX8_sum (wrX8_around 12) 0 σ_3 (fun σ_12 =>
    ∃ k_13, gR σ_12 42 9 = some (30 + 2 * k_13) ∧ k_13 < 6 ∧ (
    wpX9_put k_13 14 σ_12 (fun σ_15 =>
    wbX8_clause_151 post σ_15))))))
def wbX8_clause_35  (K66 : Int32 → St → Prop) (post : St → Prop) (v1 : Int32) (v2 : Int32) (σ : St) : Prop :=
  ((¬ (((gI σ 42 10) >>> (v2 &&& 31)) &&& 1) = 1 →
    ((v1 < 12 →
      K66 v2 σ) ∧
    (¬ v1 < 12 →
      wpX8_fail 5 σ (fun σ_2 =>
      K66 v2 σ_2)))) ∧
  ((((gI σ 42 10) >>> (v2 &&& 31)) &&& 1) = 1 →
    wpX8_fail 4 σ (fun σ_4 =>
    K66 v2 σ_4)))
def wbX8_clause_66   (post : St → Prop) (v2 : Int32) (σ : St) : Prop :=
  ((v2 = 15 →
    wbX8_clause_93 post v2 0 (gI σ 42 10) σ) ∧
  (¬ v2 = 15 →
    ((¬ (gI σ 42 8) = 39 →
      wbX8_clause_93 post v2 (1 <<< (v2 &&& 31)) (gI σ 42 10) σ) ∧
    ((gI σ 42 8) = 39 →
      wbX8_clause_93 post v2 0 (gI σ 42 10) σ))))
def wpX8_clause  (a1 : Int32) (σ : St) (post : St → Prop) : Prop :=
  ∀ v2_1 : Int32, v2_1 = (gI σ 42 8) →
  ((v2_1 = 14 →
    wbX8_clause_35 (wbX8_clause_66 post) post a1 v2_1 σ) ∧
  (¬ v2_1 = 14 →
    ((v2_1 = 15 →
      wbX8_clause_35 (wbX8_clause_66 post) post a1 v2_1 σ) ∧
    (¬ v2_1 = 15 →
      ((v2_1 = 0 →
        wbX8_clause_35 (wbX8_clause_66 post) post a1 v2_1 σ) ∧
      (¬ v2_1 = 0 →
        ((v2_1 = 16 →
          wbX8_clause_35 (wbX8_clause_66 post) post a1 v2_1 σ) ∧
        (¬ v2_1 = 16 →
          wpX8_fail 1 σ (fun σ_3 =>
          wbX8_clause_66 post v2_1 σ_3)))))))))
-- CradleNames$Taste.clear()V
def wpX9_clear (k0 : Nat)  (σ : St) (post : St → Prop) : Prop :=
  ∀ σ_1 : St, σ_1 = sI σ (30 + 2 * k0) 1 0 →
  ∀ σ_2 : St, σ_2 = sI σ_1 (30 + 2 * k0) 2 5 →
  ∀ σ_3 : St, σ_3 = sI σ_2 (30 + 2 * k0) 3 50 →
  post σ_3
-- CradleNames$Reader.wordOf(II)I
def wbX8_wordOf_52  (K24 : Int32 → Int32 → Int32 → Int32 → Int32 → St → Prop) (post : Int32 → St → Prop) (v1 : Int32) (v2 : Int32) (v3 : Int32) (v4 : Int32) (v5 : Int32) (s0 : Int32) (σ : St) : Prop :=
  wpJ0_charAt_5068e 2 ((v3 * 5) + v5) σ (fun r_1 σ_2 =>
  ((¬ r_1 = s0 →
    ∀ v4_3 : Int32, v4_3 = (v4 + 0) →
    ∀ v5_4 : Int32, v5_4 = v5 + 1 →
    K24 v1 v2 v3 v4_3 v5_4 σ_2) ∧
  (r_1 = s0 →
    ∀ v4_5 : Int32, v4_5 = (v4 + 1) →
    ∀ v5_6 : Int32, v5_6 = v5 + 1 →
    K24 v1 v2 v3 v4_5 v5_6 σ_2)))
def wbX8_wordOf_24  (K12 : Int32 → Int32 → Int32 → St → Prop) (post : Int32 → St → Prop) : Nat → Int32 → Int32 → Int32 → Int32 → Int32 → St → Prop
  | 0, _, _, _, _, _, _ => False
  | n + 1, v1, v2, v3, v4, v5, σ =>
    ((5 ≤ v5 →
      ((¬ v4 = 5 →
        ∀ v3_1 : Int32, v3_1 = v3 + 1 →
        K12 v1 v2 v3_1 σ) ∧
      (v4 = 5 →
        post v3 σ))) ∧
    (¬ 5 ≤ v5 →
      ((v2 ≤ (v1 + v5) →
        wbX8_wordOf_52 (wbX8_wordOf_24 K12 post n) post v1 v2 v3 v4 v5 32 σ) ∧
      (¬ v2 ≤ (v1 + v5) →
        vp_in (v1 + v5) 300 ∧ (
        wbX8_wordOf_52 (wbX8_wordOf_24 K12 post n) post v1 v2 v3 v4 v5 (gI σ 43 (v1 + v5).toNatClampNeg) σ)))))
def wbX8_wordOf_12   (post : Int32 → St → Prop) : Nat → Int32 → Int32 → Int32 → St → Prop
  | 0, _, _, _, _ => False
  | n + 1, v1, v2, v3, σ =>
    ((22 ≤ v3 →
      post 38 σ) ∧
    (¬ 22 ≤ v3 →
      ∃ m_24, wbX8_wordOf_24 (wbX8_wordOf_12 post n) post m_24 v1 v2 v3 0 0 σ))
def wpX8_wordOf  (a1 : Int32) (a2 : Int32) (σ : St) (post : Int32 → St → Prop) : Prop :=
  (((a2 - a1) ≤ 5 →
    ∃ m_12, wbX8_wordOf_12 post m_12 a1 a2 0 σ) ∧
  (¬ (a2 - a1) ≤ 5 →
    post 38 σ))
-- CradleNames$Reader.isLetter(I)Z
def wbX8_isLetter_12   (post : Int32 → St → Prop) (v0 : Int32) (σ : St) : Prop :=
  ((v0 < 65 →
    post 0 σ) ∧
  (¬ v0 < 65 →
    ((90 < v0 →
      post 0 σ) ∧
    (¬ 90 < v0 →
      post 1 σ))))
def wpX8_isLetter  (a1 : Int32) (σ : St) (post : Int32 → St → Prop) : Prop :=
  ((a1 < 97 →
    wbX8_isLetter_12 post a1 σ) ∧
  (¬ a1 < 97 →
    ((a1 ≤ 122 →
      post 1 σ) ∧
    (¬ a1 ≤ 122 →
      wbX8_isLetter_12 post a1 σ))))
-- CradleNames$Reader.isDigit(I)Z
def wpX8_isDigit  (a1 : Int32) (σ : St) (post : Int32 → St → Prop) : Prop :=
  ((a1 < 48 →
    post 0 σ) ∧
  (¬ a1 < 48 →
    ((57 < a1 →
      post 0 σ) ∧
    (¬ 57 < a1 →
      post 1 σ))))
-- CradleNames$Reader.cutOne(II)I
def wbX8_cutOne_215   (post : Int32 → St → Prop) (v4 : Int32) (v5 : Int32) (s0 : Int32) (s1 : Int32) (s2 : Int32) (σ : St) : Prop :=
  vp_in s2 301 ∧ (
  ∀ σ_1 : St, σ_1 = sI σ 44 s2.toNatClampNeg (s1 + s0) →
  ((v5 = 0 →
    ∀ v4_2 : Int32, v4_2 = (v4 + 0) →
    post v4_2 σ_1) ∧
  (¬ v5 = 0 →
    ∀ v4_3 : Int32, v4_3 = (v4 + 1) →
    post v4_3 σ_1)))
def wbX8_cutOne_205   (post : Int32 → St → Prop) (v4 : Int32) (v5 : Int32) (s0 : Int32) (s1 : Int32) (σ : St) : Prop :=
  ((v5 = 0 →
    wbX8_cutOne_215 post v4 v5 0 s0 s1 σ) ∧
  (¬ v5 = 0 →
    wbX8_cutOne_215 post v4 v5 1 s0 s1 σ))
def wbX8_cutOne_47   (post : Int32 → St → Prop) (v1 : Int32) (v2 : Int32) (v4 : Int32) (σ : St) : Prop :=
  wpX8_wordOf v2 v4 σ (fun r_1 σ_2 =>
  vp_in v1 301 ∧ (
  ∀ σ_3 : St, σ_3 = sI σ_2 44 v1.toNatClampNeg r_1 →
  post v4 σ_3))
def wbX8_cutOne_128   (post : Int32 → St → Prop) (v1 : Int32) (v4 : Int32) (v5 : Int32) (σ : St) : Prop :=
  vp_in v1 301 ∧ (
  ∀ σ_1 : St, σ_1 = sI σ 44 v1.toNatClampNeg 36 →
  vp_in v1 301 ∧ (
  ∀ σ_2 : St, σ_2 = sI σ_1 46 v1.toNatClampNeg v5 →
  post v4 σ_2))
def wbX8_cutOne_185   (post : Int32 → St → Prop) (v1 : Int32) (v3 : Int32) (v4 : Int32) (s0 : Int32) (σ : St) : Prop :=
  ((¬ v3 = 60 →
    wbX8_cutOne_205 post v4 s0 24 v1 σ) ∧
  (v3 = 60 →
    wbX8_cutOne_205 post v4 s0 22 v1 σ))
def wbX8_cutOne_19   (post : Int32 → St → Prop) : Nat → Int32 → Int32 → Int32 → St → Prop
  | 0, _, _, _, _ => False
  | n + 1, v1, v2, v4, σ =>
    (((gI σ 42 1) ≤ v4 →
      wbX8_cutOne_47 post v1 v2 v4 σ) ∧
    (¬ (gI σ 42 1) ≤ v4 →
      vp_in v4 300 ∧ (
      wpX8_isLetter (gI σ 43 v4.toNatClampNeg) σ (fun r_1 σ_2 =>
      ((r_1 = 0 →
        wbX8_cutOne_47 post v1 v2 v4 σ_2) ∧
      (¬ r_1 = 0 →
        ∀ v4_3 : Int32, v4_3 = v4 + 1 →
        wbX8_cutOne_19 post n v1 v2 v4_3 σ_2))))))
def wbX8_cutOne_76   (post : Int32 → St → Prop) : Nat → Int32 → Int32 → Int32 → St → Prop
  | 0, _, _, _, _ => False
  | n + 1, v1, v4, v5, σ =>
    (((gI σ 42 1) ≤ v4 →
      wbX8_cutOne_128 post v1 v4 v5 σ) ∧
    (¬ (gI σ 42 1) ≤ v4 →
      vp_in v4 300 ∧ (
      wpX8_isDigit (gI σ 43 v4.toNatClampNeg) σ (fun r_1 σ_2 =>
      ((r_1 = 0 →
        wbX8_cutOne_128 post v1 v4 v5 σ_2) ∧
      (¬ r_1 = 0 →
        vp_in v4 300 ∧ (
        ∀ v5_3 : Int32, v5_3 = (if 10000 < (((v5 * 10) + (gI σ_2 43 v4.toNatClampNeg)) - 48) then 10000 else (((v5 * 10) + (gI σ_2 43 v4.toNatClampNeg)) - 48)) →
        ∀ v4_4 : Int32, v4_4 = v4 + 1 →
        wbX8_cutOne_76 post n v1 v4_4 v5_3 σ_2)))))))
def wbX8_cutOne_159   (post : Int32 → St → Prop) (v1 : Int32) (v3 : Int32) (v4 : Int32) (σ : St) : Prop :=
  (((gI σ 42 1) ≤ v4 →
    wbX8_cutOne_185 post v1 v3 v4 0 σ) ∧
  (¬ (gI σ 42 1) ≤ v4 →
    vp_in v4 300 ∧ (
    ((¬ (gI σ 43 v4.toNatClampNeg) = 61 →
      wbX8_cutOne_185 post v1 v3 v4 0 σ) ∧
    ((gI σ 43 v4.toNatClampNeg) = 61 →
      wbX8_cutOne_185 post v1 v3 v4 1 σ)))))
def wpX8_cutOne  (a1 : Int32) (a2 : Int32) (σ : St) (post : Int32 → St → Prop) : Prop :=
  vp_in a2 300 ∧ (
  ∀ v3_1 : Int32, v3_1 = (gI σ 43 a2.toNatClampNeg) →
  ∀ v4_2 : Int32, v4_2 = (a2 + 1) →
  wpX8_isLetter v3_1 σ (fun r_3 σ_4 =>
  ((r_3 = 0 →
    wpX8_isDigit v3_1 σ_4 (fun r_5 σ_6 =>
    ((r_5 = 0 →
      ((v3_1 = 60 →
        wbX8_cutOne_159 post a1 v3_1 v4_2 σ_6) ∧
      (¬ v3_1 = 60 →
        ((¬ v3_1 = 62 →
          wpJ0_indexOf_0f7a4 3 ((v3_1.toUInt32 % 65536).toInt32) σ_6 (fun r_7 σ_8 =>
          ((0 ≤ r_7 →
            vp_in a1 301 ∧ (
            ∀ σ_9 : St, σ_9 = sI σ_8 44 a1.toNatClampNeg (26 + r_7) →
            post v4_2 σ_9)) ∧
          (¬ 0 ≤ r_7 →
            vp_in a1 301 ∧ (
            ∀ σ_10 : St, σ_10 = sI σ_8 44 a1.toNatClampNeg 38 →
            post v4_2 σ_10))))) ∧
        (v3_1 = 62 →
          wbX8_cutOne_159 post a1 v3_1 v4_2 σ_6))))) ∧
    (¬ r_5 = 0 →
      ∀ v5_11 : Int32, v5_11 = (v3_1 - 48) →
      ∃ m_76, wbX8_cutOne_76 post m_76 a1 v4_2 v5_11 σ_6)))) ∧
  (¬ r_3 = 0 →
    ∃ m_19, wbX8_cutOne_19 post m_19 a1 a2 v4_2 σ_4))))
-- CradleNames$Reader.cut()V
def wbX8_cut_72   (post : St → Prop) (v1 : Int32) (σ : St) : Prop :=
  vp_in v1 301 ∧ (
  ∀ σ_1 : St, σ_1 = sI σ 44 v1.toNatClampNeg 37 →
  vp_in v1 301 ∧ (
  ∀ σ_2 : St, σ_2 = sI σ_1 45 v1.toNatClampNeg (gI σ_1 42 1) →
  post σ_2))
def wbX8_cut_6   (post : St → Prop) : Nat → Int32 → Int32 → Int32 → St → Prop
  | 0, _, _, _, _ => False
  | n + 1, v1, v2, v3, σ =>
    ((300 ≤ v3 →
      wbX8_cut_72 post v1 σ) ∧
    (¬ 300 ≤ v3 →
      (((gI σ 42 1) ≤ v2 →
        wbX8_cut_72 post v1 σ) ∧
      (¬ (gI σ 42 1) ≤ v2 →
        vp_in v2 300 ∧ (
        (((gI σ 43 v2.toNatClampNeg) = 32 →
          ∀ v2_1 : Int32, v2_1 = v2 + 1 →
          ∀ v3_2 : Int32, v3_2 = v3 + 1 →
          wbX8_cut_6 post n v1 v2_1 v3_2 σ) ∧
        (¬ (gI σ 43 v2.toNatClampNeg) = 32 →
          vp_in v2 300 ∧ (
          ((¬ (gI σ 43 v2.toNatClampNeg) = 10 →
            vp_in v1 301 ∧ (
            ∀ σ_3 : St, σ_3 = sI σ 45 v1.toNatClampNeg v2 →
            wpX8_cutOne v1 v2 σ_3 (fun r_4 σ_5 =>
            ∀ v1_6 : Int32, v1_6 = v1 + 1 →
            ∀ v3_7 : Int32, v3_7 = v3 + 1 →
            wbX8_cut_6 post n v1_6 r_4 v3_7 σ_5))) ∧
          ((gI σ 43 v2.toNatClampNeg) = 10 →
            ∀ v2_8 : Int32, v2_8 = v2 + 1 →
            ∀ v3_9 : Int32, v3_9 = v3 + 1 →
            wbX8_cut_6 post n v1 v2_8 v3_9 σ))))))))))
def wpX8_cut   (σ : St) (post : St → Prop) : Prop :=
  ∃ m_6, wbX8_cut_6 post m_6 0 0 0 σ
-- CradleNames$Reader.read(LCradleNames$Taste;)Z
def wbX8_read_83 (k1 : Nat)  (post : Int32 → St → Prop)  (σ : St) : Prop :=
  ∀ σ_1 : St, σ_1 = sI σ 42 1 0 →
  ((¬ (gI σ_1 42 2) = 0 →
    post 0 σ_1) ∧
  ((gI σ_1 42 2) = 0 →
    post 1 σ_1))
def wbX8_read_48 (k1 : Nat)  (post : Int32 → St → Prop) : Nat → Int32 → St → Prop
  | 0, _, _ => False
  | n + 1, v2, σ =>
    ((12 < v2 →
      wbX8_read_83 k1 post σ) ∧
    (¬ 12 < v2 →
      (((gI σ 42 8) = 37 →
        wbX8_read_83 k1 post σ) ∧
      (¬ (gI σ 42 8) = 37 →
        (((gI σ 42 8) = 39 →
          wbX8_read_83 k1 post σ) ∧
        (¬ (gI σ 42 8) = 39 →
          wpX8_clause v2 σ (fun σ_2 =>
          ∀ v2_3 : Int32, v2_3 = v2 + 1 →
          wbX8_read_48 k1 post n v2_3 σ_2)))))))
def wpX8_read (k1 : Nat)  (σ : St) (post : Int32 → St → Prop) : Prop :=
  ∀ σ_1 : St, σ_1 = sR σ 42 9 (some (30 + 2 * k1)) →
  ∃ k_2, gR σ_1 42 9 = some (30 + 2 * k_2) ∧ k_2 < 6 ∧ (
  wpX9_clear k_2 σ_1 (fun σ_4 =>
  ∀ σ_5 : St, σ_5 = sI σ_4 42 2 0 →
  ∀ σ_6 : St, σ_6 = sI σ_5 42 3 (-1) →
  ∀ σ_7 : St, σ_7 = sI σ_6 42 10 0 →
  wpX8_cut  σ_7 (fun σ_9 =>
  ∀ σ_10 : St, σ_10 = sI σ_9 42 7 0 →
  vp_in 0 301 ∧ (
  ∀ σ_11 : St, σ_11 = sI σ_10 42 8 (gI σ_10 44 (0 : Int32).toNatClampNeg) →
  ∃ m_48, wbX8_read_48 k1 post m_48 0 σ_11))))
-- CradleNames$Trails.in(II)I
def wpX10_in  (a1 : Int32) (a2 : Int32) (σ : St) (post : Int32 → St → Prop) : Prop :=
  wpX0_between 0 6 a1 a2 a2 σ (fun r_1 σ_2 =>
  post r_1 σ_2)
-- CradleNames$Trails.livingAt(II)I
def wpX10_livingAt  (a1 : Int32) (a2 : Int32) (σ : St) (post : Int32 → St → Prop) : Prop :=
  wpX0_between 0 6 a1 ((a2 - (gI σ 9 1)) + 1) a2 σ (fun r_1 σ_2 =>
  post r_1 σ_2)
-- CradleNames$Trails.peak(I)I
def wbX10_peak_7   (post : Int32 → St → Prop) : Nat → Int32 → Int32 → Int32 → Int32 → St → Prop
  | 0, _, _, _, _, _ => False
  | n + 1, v1, v2, v3, v4, σ =>
    (((gI σ 9 0) ≤ v4 →
      post v2 σ) ∧
    (¬ (gI σ 9 0) ≤ v4 →
      wpX10_in v1 v4 σ (fun r_1 σ_2 =>
      ((r_1 ≤ v3 →
        ∀ v4_3 : Int32, v4_3 = v4 + 1 →
        wbX10_peak_7 post n v1 v2 v3 v4_3 σ_2) ∧
      (¬ r_1 ≤ v3 →
        ∀ v4_4 : Int32, v4_4 = v4 + 1 →
        wbX10_peak_7 post n v1 v4 r_1 v4_4 σ_2)))))
def wpX10_peak  (a1 : Int32) (σ : St) (post : Int32 → St → Prop) : Prop :=
  ∃ m_7, wbX10_peak_7 post m_7 a1 (-1) 0 0 σ
-- CradleNames$Trails.slope(III)I
def wbX10_slope_11   (post : Int32 → St → Prop) : Nat → Int32 → Int32 → Int32 → Int32 → Int32 → St → Prop
  | 0, _, _, _, _, _, _ => False
  | n + 1, v1, v2, v3, v4, v5, σ =>
    ((61 ≤ v5 →
      post 61 σ) ∧
    (¬ 61 ≤ v5 →
      ∀ v6_1 : Int32, v6_1 = (v2 + ((v5 + 1) * v3)) →
      wpX4_wentBy v6_1 σ (fun r_2 σ_3 =>
      ((r_2 = 0 →
        post v5 σ_3) ∧
      (¬ r_2 = 0 →
        wpX10_in v1 v6_1 σ_3 (fun r_4 σ_5 =>
        ((v4 ≤ (2 * r_4) →
          ∀ v5_6 : Int32, v5_6 = v5 + 1 →
          wbX10_slope_11 post n v1 v2 v3 v4 v5_6 σ_5) ∧
        (¬ v4 ≤ (2 * r_4) →
          post v5 σ_5))))))))
def wpX10_slope  (a1 : Int32) (a2 : Int32) (a3 : Int32) (σ : St) (post : Int32 → St → Prop) : Prop :=
  wpX10_in a1 a2 σ (fun r_1 σ_2 =>
  ∃ m_11, wbX10_slope_11 post m_11 a1 a2 a3 r_1 0 σ_2)
-- java/lang/Integer.compare(II)I
def wpJ6_compare_7cf53  (a1 : Int32) (a2 : Int32) (σ : St) (post : Int32 → St → Prop) : Prop :=
  ((a2 ≤ a1 →
    ((¬ a1 = a2 →
      post 1 σ) ∧
    (a1 = a2 →
      post 0 σ))) ∧
  (¬ a2 ≤ a1 →
    post (-1) σ))
-- CradleNames$Trails.pairs(Z)I
def wbX10_pairs_146  (K73 : Int32 → Int32 → Int32 → Int32 → Int32 → St → Prop) (post : Int32 → St → Prop) (v1 : Int32) (v2 : Int32) (v3 : Int32) (v4 : Int32) (v5 : Int32) (s0 : Int32) (s1 : Int32) (σ : St) : Prop :=
  ((¬ s1 = s0 →
    ∀ v5_1 : Int32, v5_1 = v5 + 1 →
    K73 v1 v2 v3 v4 v5_1 σ) ∧
  (s1 = s0 →
    ∀ v2_2 : Int32, v2_2 = v2 + 1 →
    ∀ v5_3 : Int32, v5_3 = v5 + 1 →
    K73 v1 v2_2 v3 v4 v5_3 σ))
def wbX10_pairs_73  (K4 : Int32 → Int32 → Int32 → St → Prop) (post : Int32 → St → Prop) : Nat → Int32 → Int32 → Int32 → Int32 → Int32 → St → Prop
  | 0, _, _, _, _, _, _ => False
  | n + 1, v1, v2, v3, v4, v5, σ =>
    ((v3 ≤ v5 →
      ∀ v3_1 : Int32, v3_1 = v3 + 1 →
      K4 v1 v2 v3_1 σ) ∧
    (¬ v3 ≤ v5 →
      ((v4 = (-1) →
        ∀ v3_2 : Int32, v3_2 = v3 + 1 →
        K4 v1 v2 v3_2 σ) ∧
      (¬ v4 = (-1) →
        vp_in v3 16 ∧ (
        vp_in v5 16 ∧ (
        wpJ6_compare_7cf53 (gI σ 53 v3.toNatClampNeg) (gI σ 53 v5.toNatClampNeg) σ (fun r_3 σ_4 =>
        vp_in v3 16 ∧ (
        vp_in v5 16 ∧ (
        wpJ6_compare_7cf53 (gI σ_4 54 v3.toNatClampNeg) (gI σ_4 54 v5.toNatClampNeg) σ_4 (fun r_5 σ_6 =>
        vp_in v5 16 ∧ (
        (((gI σ_6 53 v5.toNatClampNeg) = (-1) →
          ∀ v5_7 : Int32, v5_7 = v5 + 1 →
          wbX10_pairs_73 K4 post n v1 v2 v3 v4 v5_7 σ_6) ∧
        (¬ (gI σ_6 53 v5.toNatClampNeg) = (-1) →
          ((v1 = 0 →
            wbX10_pairs_146 (wbX10_pairs_73 K4 post n) post v1 v2 v3 v4 v5 (-1) (r_3 * r_5) σ_6) ∧
          (¬ v1 = 0 →
            wbX10_pairs_146 (wbX10_pairs_73 K4 post n) post v1 v2 v3 v4 v5 1 (r_3 * r_5) σ_6)))))))))))))))
def wbX10_pairs_45  (K4 : Int32 → Int32 → Int32 → St → Prop) (post : Int32 → St → Prop) (v1 : Int32) (v2 : Int32) (v3 : Int32) (v4 : Int32) (s0 : Int32) (s1 : Int32) (σ : St) : Prop :=
  vp_in s1 16 ∧ (
  ∀ σ_1 : St, σ_1 = sI σ 53 s1.toNatClampNeg s0 →
  ((¬ v4 = (-1) →
    wpX10_slope v3 v4 1 σ_1 (fun r_2 σ_3 =>
    vp_in v3 16 ∧ (
    ∀ σ_4 : St, σ_4 = sI σ_3 54 v3.toNatClampNeg r_2 →
    ∃ m_73, wbX10_pairs_73 K4 post m_73 v1 v2 v3 v4 0 σ_4))) ∧
  (v4 = (-1) →
    vp_in v3 16 ∧ (
    ∀ σ_5 : St, σ_5 = sI σ_1 54 v3.toNatClampNeg (-1) →
    ∃ m_73, wbX10_pairs_73 K4 post m_73 v1 v2 v3 v4 0 σ_5))))
def wbX10_pairs_4   (post : Int32 → St → Prop) : Nat → Int32 → Int32 → Int32 → St → Prop
  | 0, _, _, _, _ => False
  | n + 1, v1, v2, v3, σ =>
    (((gI σ 1 0) ≤ v3 →
      post v2 σ) ∧
    (¬ (gI σ 1 0) ≤ v3 →
      wpX10_peak v3 σ (fun r_1 σ_2 =>
      ((¬ r_1 = (-1) →
        wpX10_slope v3 r_1 (-1) σ_2 (fun r_3 σ_4 =>
        wbX10_pairs_45 (wbX10_pairs_4 post n) post v1 v2 v3 r_1 r_3 v3 σ_4)) ∧
      (r_1 = (-1) →
        wbX10_pairs_45 (wbX10_pairs_4 post n) post v1 v2 v3 r_1 (-1) v3 σ_2)))))
def wpX10_pairs  (a1 : Int32) (σ : St) (post : Int32 → St → Prop) : Prop :=
  ∃ m_4, wbX10_pairs_4 post m_4 a1 0 0 σ
-- CradleNames$Trails.findThousandths()V
def wbX10_findThousandths_86  (K38 : Int32 → Int32 → Int32 → Int32 → St → Prop) (post : St → Prop) (v1 : Int32) (v2 : Int32) (v3 : Int32) (v4 : Int32) (v5 : Int32) (s0 : Int32) (s1 : Int32) (σ : St) : Prop :=
  vp_in s1 976 ∧ (
  ∀ σ_1 : St, σ_1 = sI σ 55 s1.toNatClampNeg s0 →
  ((¬ v3 = 0 →
    wpX0_between 0 4 v4 v1 v1 σ_1 (fun r_2 σ_3 =>
    ¬ v3 = 0 ∧ (
    vp_in v5 976 ∧ (
    ∀ σ_4 : St, σ_4 = sI σ_3 56 v5.toNatClampNeg ((r_2 * 1000) / v3) →
    ∀ v4_5 : Int32, v4_5 = v4 + 1 →
    K38 v1 v2 v3 v4_5 σ_4)))) ∧
  (v3 = 0 →
    vp_in v5 976 ∧ (
    ∀ σ_6 : St, σ_6 = sI σ_1 56 v5.toNatClampNeg 0 →
    ∀ v4_7 : Int32, v4_7 = v4 + 1 →
    K38 v1 v2 v3 v4_7 σ_6))))
