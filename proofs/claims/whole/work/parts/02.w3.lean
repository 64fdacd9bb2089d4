def wbX12_lays_172  (K3 : Int32 → Int32 → Int32 → Int32 → St → Prop) (post : St → Prop) (v1 : Int32) (v2 : Int32) (v3 : Int32) (v4 : Int32) (s0 : Int32) (s1 : Int32) (σ : St) : Prop :=
  vp_in s1 16 ∧ (
  ∀ σ_1 : St, σ_1 = sI σ 109 s1.toNatClampNeg s0 →
  wpX12_all (v1 - 1) v4 σ_1 (fun r_2 σ_3 =>
  wpX12_all (v1 - 2) v4 σ_3 (fun r_4 σ_5 =>
  vp_in v4 16 ∧ (
  ∀ σ_6 : St, σ_6 = sI σ_5 110 v4.toNatClampNeg (r_2 - r_4) →
  vp_in v4 16 ∧ (
  ∀ σ_7 : St, σ_7 = sI σ_6 111 v4.toNatClampNeg 0 →
  ∃ m_210, wbX12_lays_210 K3 post m_210 v1 v2 v3 v4 0 σ_7)))))
def wbX12_lays_145  (K3 : Int32 → Int32 → Int32 → Int32 → St → Prop) (post : St → Prop) (v1 : Int32) (v2 : Int32) (v3 : Int32) (v4 : Int32) (v7 : Int32) (σ : St) : Prop :=
  (((-40) ≤ v7 →
    wpX12_lesser 99 (v1 - v7) σ (fun r_1 σ_2 =>
    wbX12_lays_172 K3 post v1 v2 v3 v4 r_1 v4 σ_2)) ∧
  (¬ (-40) ≤ v7 →
    wbX12_lays_172 K3 post v1 v2 v3 v4 99 v4 σ))
def wbX12_lays_121  (K3 : Int32 → Int32 → Int32 → Int32 → St → Prop) (post : St → Prop) : Nat → Int32 → Int32 → Int32 → Int32 → Int32 → St → Prop
  | 0, _, _, _, _, _, _ => False
  | n + 1, v1, v2, v3, v4, v7, σ =>
    ((v7 < (-40) →
      wbX12_lays_145 K3 post v1 v2 v3 v4 v7 σ) ∧
    (¬ v7 < (-40) →
      wpX12_all v7 v4 σ (fun r_1 σ_2 =>
      ((¬ r_1 = 0 →
        wbX12_lays_145 K3 post v1 v2 v3 v4 v7 σ_2) ∧
      (r_1 = 0 →
        ∀ v7_3 : Int32, v7_3 = v7 + (-1) →
        wbX12_lays_121 K3 post n v1 v2 v3 v4 v7_3 σ_2)))))
def wbX12_lays_38  (K3 : Int32 → Int32 → Int32 → Int32 → St → Prop) (post : St → Prop) : Nat → Int32 → Int32 → Int32 → Int32 → Int32 → Int32 → Int32 → St → Prop
  | 0, _, _, _, _, _, _, _, _ => False
  | n + 1, v1, v2, v3, v4, v5, v6, v7, σ =>
    ((v1 ≤ v7 →
      vp_in v4 32 ∧ (
      ∀ σ_1 : St, σ_1 = sI σ 108 v4.toNatClampNeg v5 →
      vp_in (16 + v4) 32 ∧ (
      ∀ σ_2 : St, σ_2 = sI σ_1 108 (16 + v4).toNatClampNeg v6 →
      ∀ v7_3 : Int32, v7_3 = (v1 - 1) →
      ∃ m_121, wbX12_lays_121 K3 post m_121 v1 v2 v3 v4 v7_3 σ_2))) ∧
    (¬ v1 ≤ v7 →
      vp_in ((32 * (v7 + 40)) + v4) 3232 ∧ (
      ∀ v5_4 : Int32, v5_4 = (v5 + (gI σ 102 ((32 * (v7 + 40)) + v4).toNatClampNeg)) →
      vp_in (((32 * (v7 + 40)) + 16) + v4) 3232 ∧ (
      ∀ v6_5 : Int32, v6_5 = (v6 + (gI σ 102 (((32 * (v7 + 40)) + 16) + v4).toNatClampNeg)) →
      ∀ v7_6 : Int32, v7_6 = v7 + 1 →
      wbX12_lays_38 K3 post n v1 v2 v3 v4 v5_4 v6_5 v7_6 σ))))
def wbX12_lays_349   (post : St → Prop) : Nat → Int32 → Int32 → St → Prop
  | 0, _, _, _ => False
  | n + 1, v1, v4, σ =>
    vp_in 2 9680 ∧ (
    (((gI σ 76 (2 : Int32).toNatClampNeg) ≤ v4 →
      post σ) ∧
    (¬ (gI σ 76 (2 : Int32).toNatClampNeg) ≤ v4 →
      vp_in (50 + (2 * v4)) 9680 ∧ (
      ((v1 < (gI σ 76 (50 + (2 * v4)).toNatClampNeg) →
        ∀ σ_1 : St, σ_1 = sI σ 75 55 (gI σ 75 55) →
        ∀ v4_2 : Int32, v4_2 = v4 + 1 →
        wbX12_lays_349 post n v1 v4_2 σ_1) ∧
      (¬ v1 < (gI σ 76 (50 + (2 * v4)).toNatClampNeg) →
        vp_in ((50 + (2 * v4)) + 1) 9680 ∧ (
        ∀ σ_3 : St, σ_3 = sI σ 75 55 (gI σ 76 ((50 + (2 * v4)) + 1).toNatClampNeg) →
        ∀ v4_4 : Int32, v4_4 = v4 + 1 →
        wbX12_lays_349 post n v1 v4_4 σ_3)))))))
def wbX12_lays_3   (post : St → Prop) : Nat → Int32 → Int32 → Int32 → Int32 → St → Prop
  | 0, _, _, _, _, _ => False
  | n + 1, v1, v2, v3, v4, σ =>
    vp_in 1 9680 ∧ (
    (((gI σ 76 (1 : Int32).toNatClampNeg) ≤ v4 →
      ∀ σ_1 : St, σ_1 = sI σ 75 55 0 →
      ∃ m_349, wbX12_lays_349 post m_349 v1 0 σ_1) ∧
    (¬ (gI σ 76 (1 : Int32).toNatClampNeg) ≤ v4 →
      vp_in 6 9680 ∧ (
      wpX12_greater (-40) ((v1 - (gI σ 76 (6 : Int32).toNatClampNeg)) + 1) σ (fun r_2 σ_3 =>
      ∃ m_38, wbX12_lays_38 (wbX12_lays_3 post n) post m_38 v1 v2 v3 v4 0 0 r_2 σ_3)))))
def wpX12_lays  (a1 : Int32) (a2 : Int32) (a3 : Int32) (σ : St) (post : St → Prop) : Prop :=
  ∃ m_3, wbX12_lays_3 post m_3 a1 a2 a3 0 σ
-- CradleNamesModel.clears()V
def wbX12_clears_97   (post : St → Prop) : Nat → Int32 → St → Prop
  | 0, _, _ => False
  | n + 1, v1, σ =>
    ((61 ≤ v1 →
      post σ) ∧
    (¬ 61 ≤ v1 →
      vp_in v1 61 ∧ (
      ∀ σ_1 : St, σ_1 = sI σ 103 v1.toNatClampNeg 0 →
      ∀ v1_2 : Int32, v1_2 = v1 + 1 →
      wbX12_clears_97 post n v1_2 σ_1)))
def wbX12_clears_68   (post : St → Prop) : Nat → Int32 → St → Prop
  | 0, _, _ => False
  | n + 1, v1, σ =>
    ((3232 ≤ v1 →
      ∃ m_97, wbX12_clears_97 post m_97 0 σ) ∧
    (¬ 3232 ≤ v1 →
      vp_in v1 3232 ∧ (
      ∀ σ_1 : St, σ_1 = sI σ 101 v1.toNatClampNeg 0 →
      vp_in v1 3232 ∧ (
      ∀ σ_2 : St, σ_2 = sI σ_1 102 v1.toNatClampNeg 0 →
      ∀ v1_3 : Int32, v1_3 = v1 + 1 →
      wbX12_clears_68 post n v1_3 σ_2))))
def wbX12_clears_46   (post : St → Prop) : Nat → Int32 → St → Prop
  | 0, _, _ => False
  | n + 1, v1, σ =>
    ((4848 ≤ v1 →
      ∃ m_68, wbX12_clears_68 post m_68 0 σ) ∧
    (¬ 4848 ≤ v1 →
      vp_in v1 4848 ∧ (
      ∀ σ_1 : St, σ_1 = sI σ 100 v1.toNatClampNeg 0 →
      ∀ v1_2 : Int32, v1_2 = v1 + 1 →
      wbX12_clears_46 post n v1_2 σ_1)))
def wbX12_clears_24   (post : St → Prop) : Nat → Int32 → St → Prop
  | 0, _, _ => False
  | n + 1, v1, σ =>
    ((1616 ≤ v1 →
      ∃ m_46, wbX12_clears_46 post m_46 0 σ) ∧
    (¬ 1616 ≤ v1 →
      vp_in v1 1616 ∧ (
      ∀ σ_1 : St, σ_1 = sI σ 99 v1.toNatClampNeg 0 →
      ∀ v1_2 : Int32, v1_2 = v1 + 1 →
      wbX12_clears_24 post n v1_2 σ_1)))
def wbX12_clears_2   (post : St → Prop) : Nat → Int32 → St → Prop
  | 0, _, _ => False
  | n + 1, v1, σ =>
    ((19392 ≤ v1 →
      ∃ m_24, wbX12_clears_24 post m_24 0 σ) ∧
    (¬ 19392 ≤ v1 →
      vp_in v1 19392 ∧ (
      ∀ σ_1 : St, σ_1 = sI σ 98 v1.toNatClampNeg 0 →
      ∀ v1_2 : Int32, v1_2 = v1 + 1 →
      wbX12_clears_2 post n v1_2 σ_1)))
def wpX12_clears   (σ : St) (post : St → Prop) : Prop :=
  ∃ m_2, wbX12_clears_2 post m_2 0 σ
-- CradleNamesModel.runs(IIZI)V
def wbX12_runs_261  (K214 : Int32 → Int32 → Int32 → Int32 → Int32 → Int32 → Int32 → St → Prop) (post : St → Prop) : Nat → Int32 → Int32 → Int32 → Int32 → Int32 → Int32 → Int32 → Int32 → Int32 → St → Prop
  | 0, _, _, _, _, _, _, _, _, _, _ => False
  | n + 1, v1, v2, v3, v4, v5, v6, v7, v8, v9, σ =>
    ((v8 ≤ v9 →
      ∀ v7_1 : Int32, v7_1 = v7 + 1 →
      K214 v1 v2 v3 v4 v5 v6 v7_1 σ) ∧
    (¬ v8 ≤ v9 →
      wpX12_rocks v5 (v7 / 4) ((v7 / 2) - (v7 / 2) / 2 * 2) (v7 - v7 / 2 * 2) σ (fun σ_3 =>
      ∀ v9_4 : Int32, v9_4 = v9 + 1 →
      wbX12_runs_261 K214 post n v1 v2 v3 v4 v5 v6 v7 v8 v9_4 σ_3)))
def wbX12_runs_214  (K108 : Int32 → Int32 → Int32 → Int32 → Int32 → St → Prop) (post : St → Prop) : Nat → Int32 → Int32 → Int32 → Int32 → Int32 → Int32 → Int32 → St → Prop
  | 0, _, _, _, _, _, _, _, _ => False
  | n + 1, v1, v2, v3, v4, v5, v6, v7, σ =>
    ((12 ≤ v7 →
      ∀ v5_1 : Int32, v5_1 = v5 + 1 →
      K108 v1 v2 v3 v4 v5_1 σ) ∧
    (¬ 12 ≤ v7 →
      ((v6 = 0 →
        vp_in (10 + v7) 9680 ∧ (
        ∀ v8_2 : Int32, v8_2 = (gI σ 76 (10 + v7).toNatClampNeg) →
        ∃ m_261, wbX12_runs_261 (wbX12_runs_214 K108 post n) post m_261 v1 v2 v3 v4 v5 v6 v7 v8_2 0 σ)) ∧
      (¬ v6 = 0 →
        vp_in ((1000 + (14 * v5)) + v7) 9680 ∧ (
        ∀ v8_3 : Int32, v8_3 = (gI σ 76 ((1000 + (14 * v5)) + v7).toNatClampNeg) →
        ∃ m_261, wbX12_runs_261 (wbX12_runs_214 K108 post n) post m_261 v1 v2 v3 v4 v5 v6 v7 v8_3 0 σ)))))
def wbX12_runs_27  (K17 : Int32 → Int32 → Int32 → Int32 → Int32 → Int32 → St → Prop) (post : St → Prop) : Nat → Int32 → Int32 → Int32 → Int32 → Int32 → Int32 → Int32 → St → Prop
  | 0, _, _, _, _, _, _, _, _ => False
  | n + 1, v1, v2, v3, v4, v5, v6, v7, σ =>
    vp_in 1 9680 ∧ (
    (((gI σ 76 (1 : Int32).toNatClampNeg) ≤ v7 →
      ∀ v6_1 : Int32, v6_1 = v6 + 1 →
      K17 v1 v2 v3 v4 v5 v6_1 σ) ∧
    (¬ (gI σ 76 (1 : Int32).toNatClampNeg) ≤ v7 →
      vp_in (((2000 + ((v5 - 1) * 192)) + (v6 * 16)) + v7) 9680 ∧ (
      wpX12_gives (-v5) (v6 / 4) ((v6 / 2) - (v6 / 2) / 2 * 2) (v6 - v6 / 2 * 2) v7 (gI σ 76 (((2000 + ((v5 - 1) * 192)) + (v6 * 16)) + v7).toNatClampNeg) σ (fun σ_3 =>
      ∀ v7_4 : Int32, v7_4 = v7 + 1 →
      wbX12_runs_27 K17 post n v1 v2 v3 v4 v5 v6 v7_4 σ_3)))))
def wbX12_runs_135  (K108 : Int32 → Int32 → Int32 → Int32 → Int32 → St → Prop) (post : St → Prop) : Nat → Int32 → Int32 → Int32 → Int32 → Int32 → Int32 → Int32 → St → Prop
  | 0, _, _, _, _, _, _, _, _ => False
  | n + 1, v1, v2, v3, v4, v5, v6, v7, σ =>
    ((2 ≤ v7 →
      wpX12_lays v5 v2 v3 σ (fun σ_2 =>
      ∃ m_214, wbX12_runs_214 K108 post m_214 v1 v2 v3 v4 v5 v6 0 σ_2)) ∧
    (¬ 2 ≤ v7 →
      ((v4 = (-1) →
        ((v6 = 0 →
          vp_in (7 + v7) 9680 ∧ (
          vp_in v7 2 ∧ (
          ∀ σ_3 : St, σ_3 = sI σ 104 v7.toNatClampNeg (gI σ 76 (7 + v7).toNatClampNeg) →
          ∀ v7_4 : Int32, v7_4 = v7 + 1 →
          wbX12_runs_135 K108 post n v1 v2 v3 v4 v5 v6 v7_4 σ_3))) ∧
        (¬ v6 = 0 →
          vp_in (((1000 + (14 * v5)) + 12) + v7) 9680 ∧ (
          vp_in v7 2 ∧ (
          ∀ σ_5 : St, σ_5 = sI σ 104 v7.toNatClampNeg (gI σ 76 (((1000 + (14 * v5)) + 12) + v7).toNatClampNeg) →
          ∀ v7_6 : Int32, v7_6 = v7 + 1 →
          wbX12_runs_135 K108 post n v1 v2 v3 v4 v5 v6 v7_6 σ_5))))) ∧
      (¬ v4 = (-1) →
        vp_in v7 2 ∧ (
        ∀ σ_7 : St, σ_7 = sI σ 104 v7.toNatClampNeg v4 →
        ∀ v7_8 : Int32, v7_8 = v7 + 1 →
        wbX12_runs_135 K108 post n v1 v2 v3 v4 v5 v6 v7_8 σ_7)))))
def wbX12_runs_17  (K7 : Int32 → Int32 → Int32 → Int32 → Int32 → St → Prop) (post : St → Prop) : Nat → Int32 → Int32 → Int32 → Int32 → Int32 → Int32 → St → Prop
  | 0, _, _, _, _, _, _, _ => False
  | n + 1, v1, v2, v3, v4, v5, v6, σ =>
    ((12 ≤ v6 →
      ∀ v5_1 : Int32, v5_1 = v5 + 1 →
      K7 v1 v2 v3 v4 v5_1 σ) ∧
    (¬ 12 ≤ v6 →
      ∃ m_27, wbX12_runs_27 (wbX12_runs_17 K7 post n) post m_27 v1 v2 v3 v4 v5 v6 0 σ))
def wbX12_runs_108   (post : St → Prop) : Nat → Int32 → Int32 → Int32 → Int32 → Int32 → St → Prop
  | 0, _, _, _, _, _, _ => False
  | n + 1, v1, v2, v3, v4, v5, σ =>
    ((v1 ≤ v5 →
      post σ) ∧
    (¬ v1 ≤ v5 →
      vp_in 0 9680 ∧ (
      (((gI σ 76 (0 : Int32).toNatClampNeg) ≤ v5 →
        ∃ m_135, wbX12_runs_135 (wbX12_runs_108 post n) post m_135 v1 v2 v3 v4 v5 0 0 σ) ∧
      (¬ (gI σ 76 (0 : Int32).toNatClampNeg) ≤ v5 →
        ∃ m_135, wbX12_runs_135 (wbX12_runs_108 post n) post m_135 v1 v2 v3 v4 v5 1 0 σ)))))
def wbX12_runs_7   (post : St → Prop) : Nat → Int32 → Int32 → Int32 → Int32 → Int32 → St → Prop
  | 0, _, _, _, _, _, _ => False
  | n + 1, v1, v2, v3, v4, v5, σ =>
    ((40 < v5 →
      ∃ m_108, wbX12_runs_108 post m_108 v1 v2 v3 v4 0 σ) ∧
    (¬ 40 < v5 →
      ∃ m_17, wbX12_runs_17 (wbX12_runs_7 post n) post m_17 v1 v2 v3 v4 v5 0 σ))
def wpX12_runs  (a1 : Int32) (a2 : Int32) (a3 : Int32) (a4 : Int32) (σ : St) (post : St → Prop) : Prop :=
  wpX12_clears  σ (fun σ_2 =>
  ∃ m_7, wbX12_runs_7 post m_7 a1 a2 a3 a4 1 σ_2)
-- CradleNamesModel.living(II)I
def wbX12_living_20   (post : Int32 → St → Prop) : Nat → Int32 → Int32 → Int32 → Int32 → St → Prop
  | 0, _, _, _, _, _ => False
  | n + 1, v1, v2, v3, v4, σ =>
    ((v2 < v4 →
      post v3 σ) ∧
    (¬ v2 < v4 →
      wpX12_all v4 v1 σ (fun r_1 σ_2 =>
      ∀ v3_3 : Int32, v3_3 = (v3 + r_1) →
      ∀ v4_4 : Int32, v4_4 = v4 + 1 →
      wbX12_living_20 post n v1 v2 v3_3 v4_4 σ_2)))
def wpX12_living  (a1 : Int32) (a2 : Int32) (σ : St) (post : Int32 → St → Prop) : Prop :=
  vp_in 6 9680 ∧ (
  wpX12_greater (-40) ((a2 - (gI σ 76 (6 : Int32).toNatClampNeg)) + 1) σ (fun r_1 σ_2 =>
  ∃ m_20, wbX12_living_20 post m_20 a1 a2 0 r_1 σ_2))
-- CradleNamesModel.of(II)I
def wpX12_of  (a1 : Int32) (a2 : Int32) (σ : St) (post : Int32 → St → Prop) : Prop :=
  wpX12_isName a1 σ (fun r_1 σ_2 =>
  ((¬ r_1 = 0 →
    ((a2 = 0 →
      vp_in a1 16 ∧ (
      wpX12_size (gL σ_2 78 a1.toNatClampNeg) σ_2 (fun r_3 σ_4 =>
      post r_3 σ_4))) ∧
    (¬ a2 = 0 →
    ((a2 = 1 →
      vp_in (30 + a1) 9680 ∧ (
      post (gI σ_2 76 (30 + a1).toNatClampNeg) σ_2)) ∧
    (¬ a2 = 1 →
    ((a2 = 2 →
      wpX12_lowestOf a1 σ_2 (fun r_5 σ_6 =>
      post r_5 σ_6)) ∧
    (¬ a2 = 2 →
    ((a2 = 3 →
      vp_in a1 16 ∧ (
      wpX12_soundsOf (gL σ_2 78 a1.toNatClampNeg) σ_2 (fun r_7 σ_8 =>
      wpX12_size r_7 σ_8 (fun r_9 σ_10 =>
      post r_9 σ_10)))) ∧
    (¬ a2 = 3 →
    ((a2 = 4 →
      vp_in 0 9680 ∧ (
      wpX12_runs (gI σ_2 76 (0 : Int32).toNatClampNeg) (-1) 0 (-1) σ_2 (fun σ_12 =>
      vp_in 0 9680 ∧ (
      wpX12_living a1 ((gI σ_12 76 (0 : Int32).toNatClampNeg) - 1) σ_12 (fun r_13 σ_14 =>
      post r_13 σ_14))))) ∧
    (¬ a2 = 4 →
    post (-1) σ_2))))))))))) ∧
  (r_1 = 0 →
    post (-1) σ_2)))
-- CradleNamesModel.alike(II)I
def wpX12_alike  (a1 : Int32) (a2 : Int32) (σ : St) (post : Int32 → St → Prop) : Prop :=
  wpX12_isName a1 σ (fun r_1 σ_2 =>
  ((r_1 = 0 →
    post (-1) σ_2) ∧
  (¬ r_1 = 0 →
    wpX12_isName a2 σ_2 (fun r_3 σ_4 =>
    ((¬ r_3 = 0 →
      vp_in a1 16 ∧ (
      vp_in a2 16 ∧ (
      wpX12_areAlike (gL σ_4 78 a1.toNatClampNeg) (gL σ_4 78 a2.toNatClampNeg) σ_4 (fun r_5 σ_6 =>
      ((r_5 = 0 →
        post 0 σ_6) ∧
      (¬ r_5 = 0 →
        post 1 σ_6)))))) ∧
    (r_3 = 0 →
      post (-1) σ_4))))))
-- CradleNamesModel.born(IIIIII)I
def wpX12_born  (a1 : Int32) (a2 : Int32) (a3 : Int32) (a4 : Int32) (a5 : Int32) (a6 : Int32) (σ : St) (post : Int32 → St → Prop) : Prop :=
  wpX12_isName a1 σ (fun r_1 σ_2 =>
  ((r_1 = 0 →
    post (-1) σ_2) ∧
  (¬ r_1 = 0 →
    wpX12_isCradle a2 a3 a4 σ_2 (fun r_3 σ_4 =>
    ((r_3 = 0 →
      post (-1) σ_4) ∧
    (¬ r_3 = 0 →
      wpX12_in a5 1 40 σ_4 (fun r_5 σ_6 =>
      ((r_5 = 0 →
        post (-1) σ_6) ∧
      (¬ r_5 = 0 →
        wpX12_in a6 1 99 σ_6 (fun r_7 σ_8 =>
        ((r_7 = 0 →
          post (-1) σ_8) ∧
        (¬ r_7 = 0 →
          vp_in 0 9680 ∧ (
          (((gI σ_8 76 (0 : Int32).toNatClampNeg) ≤ 0 →
            wpX12_cell a2 a3 a4 σ_8 (fun r_9 σ_10 =>
            ∀ v7_11 : Int32, v7_11 = (((2000 + ((a5 - 1) * 192)) + (r_9 * 16)) + a1) →
            vp_in v7_11 9680 ∧ (
            ((((gI σ_10 76 v7_11.toNatClampNeg) + a6) ≤ 9999 →
              vp_in v7_11 9680 ∧ (
              vp_in v7_11 9680 ∧ (
              ∀ σ_12 : St, σ_12 = sI σ_10 76 v7_11.toNatClampNeg ((gI σ_10 76 v7_11.toNatClampNeg) + a6) →
              vp_in v7_11 9680 ∧ (
              post (gI σ_12 76 v7_11.toNatClampNeg) σ_12)))) ∧
            (¬ ((gI σ_10 76 v7_11.toNatClampNeg) + a6) ≤ 9999 →
              post (-1) σ_10))))) ∧
          (¬ (gI σ_8 76 (0 : Int32).toNatClampNeg) ≤ 0 →
            post (-1) σ_8)))))))))))))))
-- CradleNamesModel.life(I)Z
def wpX12_life  (a1 : Int32) (σ : St) (post : Int32 → St → Prop) : Prop :=
  wpX12_in a1 20 90 σ (fun r_1 σ_2 =>
  ((r_1 = 0 →
    post 0 σ_2) ∧
  (¬ r_1 = 0 →
    vp_in 0 9680 ∧ (
    (((gI σ_2 76 (0 : Int32).toNatClampNeg) ≤ 0 →
      vp_in 6 9680 ∧ (
      ∀ σ_3 : St, σ_3 = sI σ_2 76 (6 : Int32).toNatClampNeg a1 →
      post 1 σ_3)) ∧
    (¬ (gI σ_2 76 (0 : Int32).toNatClampNeg) ≤ 0 →
      post 0 σ_2))))))
-- CradleNamesModel.cradles(IIII)Z
def wpX12_cradles  (a1 : Int32) (a2 : Int32) (a3 : Int32) (a4 : Int32) (σ : St) (post : Int32 → St → Prop) : Prop :=
  wpX12_isCradle a1 a2 a3 σ (fun r_1 σ_2 =>
  ((r_1 = 0 →
    post 0 σ_2) ∧
  (¬ r_1 = 0 →
    wpX12_in a4 0 6 σ_2 (fun r_3 σ_4 =>
    ((¬ r_3 = 0 →
      wpX12_cell a1 a2 a3 σ_4 (fun r_5 σ_6 =>
      vp_in (10 + r_5) 9680 ∧ (
      ∀ σ_7 : St, σ_7 = sI σ_6 76 (10 + r_5).toNatClampNeg a4 →
      post 1 σ_7))) ∧
    (r_3 = 0 →
      post 0 σ_4))))))
-- CradleNamesModel.list(II)I
def wpX12_list  (a1 : Int32) (a2 : Int32) (σ : St) (post : Int32 → St → Prop) : Prop :=
  vp_in 0 9680 ∧ (
  wpX12_in a1 (gI σ 76 (0 : Int32).toNatClampNeg) 60 σ (fun r_1 σ_2 =>
  ((r_1 = 0 →
    post (-1) σ_2) ∧
  (¬ r_1 = 0 →
    vp_in 2 9680 ∧ (
    ((¬ (gI σ_2 76 (2 : Int32).toNatClampNeg) = 8 →
      vp_in 2 9680 ∧ (
      vp_in (50 + (2 * (gI σ_2 76 (2 : Int32).toNatClampNeg))) 9680 ∧ (
      ∀ σ_3 : St, σ_3 = sI σ_2 76 (50 + (2 * (gI σ_2 76 (2 : Int32).toNatClampNeg))).toNatClampNeg a1 →
      vp_in 2 9680 ∧ (
      vp_in 1 9680 ∧ (
      vp_in ((50 + (2 * (gI σ_3 76 (2 : Int32).toNatClampNeg))) + 1) 9680 ∧ (
      ∀ σ_4 : St, σ_4 = sI σ_3 76 ((50 + (2 * (gI σ_3 76 (2 : Int32).toNatClampNeg))) + 1).toNatClampNeg (a2 &&& ((1 <<< ((gI σ_3 76 (1 : Int32).toNatClampNeg) &&& 31)) - 1)) →
      vp_in 2 9680 ∧ (
      vp_in 2 9680 ∧ (
      ∀ σ_5 : St, σ_5 = sI σ_4 76 (2 : Int32).toNatClampNeg ((gI σ_4 76 (2 : Int32).toNatClampNeg) + 1) →
      vp_in 2 9680 ∧ (
      post (gI σ_5 76 (2 : Int32).toNatClampNeg) σ_5))))))))) ∧
    ((gI σ_2 76 (2 : Int32).toNatClampNeg) = 8 →
      post (-1) σ_2)))))))
-- CradleNamesModel.film(III)I
def wpX12_film  (a1 : Int32) (a2 : Int32) (a3 : Int32) (σ : St) (post : Int32 → St → Prop) : Prop :=
  wpX12_isName a1 σ (fun r_1 σ_2 =>
  ((r_1 = 0 →
    post (-1) σ_2) ∧
  (¬ r_1 = 0 →
    vp_in 0 9680 ∧ (
    wpX12_in a2 (gI σ_2 76 (0 : Int32).toNatClampNeg) 60 σ_2 (fun r_3 σ_4 =>
    ((r_3 = 0 →
      post (-1) σ_4) ∧
    (¬ r_3 = 0 →
      wpX12_in a3 1 999 σ_4 (fun r_5 σ_6 =>
      ((r_5 = 0 →
        post (-1) σ_6) ∧
      (¬ r_5 = 0 →
        vp_in 3 9680 ∧ (
        ((¬ (gI σ_6 76 (3 : Int32).toNatClampNeg) = 8 →
          vp_in 3 9680 ∧ (
          ∀ v4_7 : Int32, v4_7 = (70 + (3 * (gI σ_6 76 (3 : Int32).toNatClampNeg))) →
          vp_in v4_7 9680 ∧ (
          ∀ σ_8 : St, σ_8 = sI σ_6 76 v4_7.toNatClampNeg a1 →
          vp_in (v4_7 + 1) 9680 ∧ (
          ∀ σ_9 : St, σ_9 = sI σ_8 76 (v4_7 + 1).toNatClampNeg a2 →
          vp_in (v4_7 + 2) 9680 ∧ (
          ∀ σ_10 : St, σ_10 = sI σ_9 76 (v4_7 + 2).toNatClampNeg a3 →
          vp_in 3 9680 ∧ (
          vp_in 3 9680 ∧ (
          ∀ σ_11 : St, σ_11 = sI σ_10 76 (3 : Int32).toNatClampNeg ((gI σ_10 76 (3 : Int32).toNatClampNeg) + 1) →
          vp_in 3 9680 ∧ (
          post ((gI σ_11 76 (3 : Int32).toNatClampNeg) - 1) σ_11)))))))) ∧
        ((gI σ_6 76 (3 : Int32).toNatClampNeg) = 8 →
          post (-1) σ_6)))))))))))))
-- CradleNamesModel.put(I)V
def wbX12_put_3   (post : St → Prop) : Nat → Int32 → Int32 → St → Prop
  | 0, _, _, _ => False
  | n + 1, v1, v2, σ =>
    ((v2 < 0 →
      post σ) ∧
    (¬ v2 < 0 →
      vp_in (gI σ 75 4) 300 ∧ (
      ∀ σ_1 : St, σ_1 = sI σ 79 (gI σ 75 4).toNatClampNeg (vp_nar .byte ((v1 >>> (v2 &&& 31)).toInt8.toInt32)) →
      ∀ σ_2 : St, σ_2 = sI σ_1 75 4 ((gI σ_1 75 4) + 1) →
      ∀ v2_3 : Int32, v2_3 = (v2 - 8) →
      wbX12_put_3 post n v1 v2_3 σ_2)))
def wpX12_put  (a1 : Int32) (σ : St) (post : St → Prop) : Prop :=
  ∃ m_3, wbX12_put_3 post m_3 a1 24 σ
-- CradleNamesModel.feed(IIIII)I
def wpX12_feed  (a1 : Int32) (a2 : Int32) (a3 : Int32) (a4 : Int32) (a5 : Int32) (σ : St) (post : Int32 → St → Prop) : Prop :=
  ((((gI σ 75 4) + 20) ≤ 300 →
    wpX12_put a1 σ (fun σ_2 =>
    wpX12_put a2 σ_2 (fun σ_4 =>
    wpX12_put a3 σ_4 (fun σ_6 =>
    wpX12_put a4 σ_6 (fun σ_8 =>
    wpX12_put a5 σ_8 (fun σ_10 =>
    post (gI σ_10 75 4) σ_10)))))) ∧
  (¬ ((gI σ 75 4) + 20) ≤ 300 →
    post (-1) σ))
-- CradleNamesModel.end(I)I
def wpX12_end  (a1 : Int32) (σ : St) (post : Int32 → St → Prop) : Prop :=
  wpX12_in a1 0 (gI σ 75 4) σ (fun r_1 σ_2 =>
  ((¬ r_1 = 0 →
    ∀ σ_3 : St, σ_3 = sI σ_2 75 4 a1 →
    post a1 σ_3) ∧
  (r_1 = 0 →
    post (-1) σ_2)))
-- CradleNamesModel.isLetter(I)Z
def wpX12_isLetter  (a1 : Int32) (σ : St) (post : Int32 → St → Prop) : Prop :=
  wpX12_in a1 97 122 σ (fun r_1 σ_2 =>
  ((¬ r_1 = 0 →
    post 1 σ_2) ∧
  (r_1 = 0 →
    wpX12_in a1 65 90 σ_2 (fun r_3 σ_4 =>
    ((r_3 = 0 →
      post 0 σ_4) ∧
    (¬ r_3 = 0 →
      post 1 σ_4))))))
-- CradleNamesModel.wordOf(J)I
def wpX12_wordOf  (a1 : Int64) (σ : St) (post : Int32 → St → Prop) : Prop :=
  ((¬ a1 = 935275816 →
    ((¬ a1 = 141426 →
      ((¬ a1 = 12212338 →
        ((¬ a1 = 12721396 →
          ((¬ a1 = 3058 →
            ((¬ a1 = 138148 →
              ((¬ a1 = 191476 →
                ((¬ a1 = 186990 →
                  ((¬ a1 = 186488 →
                    ((¬ a1 = 157810 →
                      ((¬ a1 = 3440 →
                        ((¬ a1 = 13507429 →
                          ((¬ a1 = 665266995 →
                            ((¬ a1 = 9109107 →
                              ((¬ a1 = 195364 →
                                ((¬ a1 = 138028 →
                                  ((¬ a1 = 10419109 →
                                    ((¬ a1 = 13278437 →
                                      ((¬ a1 = 868178852 →
                                        ((¬ a1 = 10132269 →
                                          ((¬ a1 = 11729831 →
                                            ((¬ a1 = 15095922 →
                                              post (-1) σ) ∧
                                            (a1 = 15095922 →
                                              post 21 σ))) ∧
                                          (a1 = 11729831 →
                                            post 20 σ))) ∧
                                        (a1 = 10132269 →
                                          post 19 σ))) ∧
                                      (a1 = 868178852 →
                                        post 18 σ))) ∧
                                    (a1 = 13278437 →
                                      post 17 σ))) ∧
                                  (a1 = 10419109 →
                                    post 16 σ))) ∧
                                (a1 = 138028 →
                                  post 15 σ))) ∧
                              (a1 = 195364 →
                                post 14 σ))) ∧
                            (a1 = 9109107 →
                              post 13 σ))) ∧
                          (a1 = 665266995 →
                            post 12 σ))) ∧
                        (a1 = 13507429 →
                          post 11 σ))) ∧
                      (a1 = 3440 →
                        post 10 σ))) ∧
                    (a1 = 157810 →
                      post 9 σ))) ∧
                  (a1 = 186488 →
                    post 8 σ))) ∧
                (a1 = 186990 →
                  post 7 σ))) ∧
              (a1 = 191476 →
                post 6 σ))) ∧
            (a1 = 138148 →
              post 5 σ))) ∧
          (a1 = 3058 →
            post 4 σ))) ∧
        (a1 = 12721396 →
          post 3 σ))) ∧
      (a1 = 12212338 →
        post 2 σ))) ∧
    (a1 = 141426 →
      post 1 σ))) ∧
  (a1 = 935275816 →
    post 0 σ))
-- CradleNamesModel.next()V
def wbX12_next_189   (post : St → Prop) (s0 : Int32) (σ : St) : Prop :=
  ∀ σ_1 : St, σ_1 = sI σ 75 18 s0 →
  ((0 ≤ (gI σ_1 75 18) →
    ∀ σ_2 : St, σ_2 = sI σ_1 75 17 1 →
    post σ_2) ∧
  (¬ 0 ≤ (gI σ_1 75 18) →
    ∀ σ_3 : St, σ_3 = sI σ_1 75 17 4 →
    post σ_3))
def wbX12_next_427   (post : St → Prop) (s0 : Int32) (σ : St) : Prop :=
  ∀ σ_1 : St, σ_1 = sI σ 75 18 s0 →
  ∀ σ_2 : St, σ_2 = sI σ_1 75 15 ((gI σ_1 75 15) + 1) →
  post σ_2
def wbX12_next_156  (K99 : Int64 → Int32 → St → Prop) (post : St → Prop) (v4 : Int32) (s0 : Int64) (σ : St) : Prop :=
  ∀ v4_1 : Int32, v4_1 = v4 + 1 →
  ∀ σ_2 : St, σ_2 = sI σ 75 15 ((gI σ 75 15) + 1) →
  K99 s0 v4_1 σ_2
def wbX12_next_173   (post : St → Prop) (v2 : Int64) (v4 : Int32) (σ : St) : Prop :=
  ((v4 ≤ 7 →
    wpX12_wordOf v2 σ (fun r_1 σ_2 =>
    wbX12_next_189 post r_1 σ_2)) ∧
  (¬ v4 ≤ 7 →
    wbX12_next_189 post (-1) σ))
def wbX12_next_300  (K232 : St → Prop) (post : St → Prop) (s0 : Int32) (σ : St) : Prop :=
  ∀ σ_1 : St, σ_1 = sI σ 75 18 s0 →
  ∀ σ_2 : St, σ_2 = sI σ_1 75 15 ((gI σ_1 75 15) + 1) →
  K232 σ_2
def wbX12_next_386   (post : St → Prop) (v1 : Int32) (σ : St) : Prop :=
  (((gI σ 75 14) ≤ (gI σ 75 15) →
    post σ) ∧
  (¬ (gI σ 75 14) ≤ (gI σ 75 15) →
    vp_in (gI σ 75 15) 300 ∧ (
    ((¬ (gI σ 79 (gI σ 75 15).toNatClampNeg) = 61 →
      post σ) ∧
    ((gI σ 79 (gI σ 75 15).toNatClampNeg) = 61 →
      ((¬ v1 = 60 →
        wbX12_next_427 post 301 σ) ∧
      (v1 = 60 →
        wbX12_next_427 post 300 σ)))))))
def wbX12_next_99   (post : St → Prop) : Nat → Int64 → Int32 → St → Prop
  | 0, _, _, _ => False
  | n + 1, v2, v4, σ =>
    (((gI σ 75 14) ≤ (gI σ 75 15) →
      wbX12_next_173 post v2 v4 σ) ∧
    (¬ (gI σ 75 14) ≤ (gI σ 75 15) →
      vp_in (gI σ 75 15) 300 ∧ (
      wpX12_isLetter (gI σ 79 (gI σ 75 15).toNatClampNeg) σ (fun r_1 σ_2 =>
      ((r_1 = 0 →
        wbX12_next_173 post v2 v4 σ_2) ∧
      (¬ r_1 = 0 →
        ((8 ≤ v4 →
          wbX12_next_156 (wbX12_next_99 post n) post v4 v2 σ_2) ∧
        (¬ 8 ≤ v4 →
          vp_in (gI σ_2 75 15) 300 ∧ (
          wbX12_next_156 (wbX12_next_99 post n) post v4 (((64 * v2) + (gI σ_2 79 (gI σ_2 75 15).toNatClampNeg).toInt64) - 64) σ_2)))))))))
def wbX12_next_232   (post : St → Prop) : Nat → St → Prop
  | 0, _ => False
  | n + 1, σ =>
    (((gI σ 75 14) ≤ (gI σ 75 15) →
      post σ) ∧
    (¬ (gI σ 75 14) ≤ (gI σ 75 15) →
      vp_in (gI σ 75 15) 300 ∧ (
      wpX12_in (gI σ 79 (gI σ 75 15).toNatClampNeg) 48 57 σ (fun r_1 σ_2 =>
      ((r_1 = 0 →
        post σ_2) ∧
      (¬ r_1 = 0 →
        (((gI σ_2 75 18) ≤ 99999 →
          vp_in (gI σ_2 75 15) 300 ∧ (
          wbX12_next_300 (wbX12_next_232 post n) post (((10 * (gI σ_2 75 18)) + (gI σ_2 79 (gI σ_2 75 15).toNatClampNeg)) - 48) σ_2)) ∧
        (¬ (gI σ_2 75 18) ≤ 99999 →
          wbX12_next_300 (wbX12_next_232 post n) post (gI σ_2 75 18) σ_2))))))))
def wbX12_next_371   (post : St → Prop) (v1 : Int32) (s0 : Int32) (σ : St) : Prop :=
  ∀ σ_1 : St, σ_1 = sI σ 75 17 s0 →
  ((v1 = 60 →
    wbX12_next_386 post v1 σ_1) ∧
  (¬ v1 = 60 →
    ((¬ v1 = 62 →
      post σ_1) ∧
    (v1 = 62 →
      wbX12_next_386 post v1 σ_1))))
def wbX12_next_39  (K0 : St → Prop) (post : St → Prop)  (σ : St) : Prop :=
  ∀ σ_1 : St, σ_1 = sI σ 75 15 ((gI σ 75 15) + 1) →
  K0 σ_1
def wbX12_next_52   (post : St → Prop)  (σ : St) : Prop :=
  ∀ σ_1 : St, σ_1 = sI σ 75 16 (gI σ 75 15) →
  ((¬ (gI σ_1 75 15) = (gI σ_1 75 14) →
    vp_in (gI σ_1 75 15) 300 ∧ (
    ∀ v1_2 : Int32, v1_2 = (gI σ_1 79 (gI σ_1 75 15).toNatClampNeg) →
    wpX12_isLetter v1_2 σ_1 (fun r_3 σ_4 =>
    ((r_3 = 0 →
      wpX12_in v1_2 48 57 σ_4 (fun r_5 σ_6 =>
      ((r_5 = 0 →
        ∀ σ_7 : St, σ_7 = sI σ_6 75 15 ((gI σ_6 75 15) + 1) →
        ∀ σ_8 : St, σ_8 = sI σ_7 75 18 v1_2 →
        wpX12_in v1_2 59 62 σ_8 (fun r_9 σ_10 =>
        ((¬ r_9 = 0 →
          wbX12_next_371 post v1_2 3 σ_10) ∧
        (r_9 = 0 →
          wpX12_in v1_2 40 45 σ_10 (fun r_11 σ_12 =>
          ((¬ r_11 = 0 →
            wbX12_next_371 post v1_2 3 σ_12) ∧
          (r_11 = 0 →
            ((v1_2 = 47 →
              wbX12_next_371 post v1_2 3 σ_12) ∧
            (¬ v1_2 = 47 →
              ((¬ v1_2 = 35 →
                wbX12_next_371 post v1_2 4 σ_12) ∧
              (v1_2 = 35 →
                wbX12_next_371 post v1_2 3 σ_12))))))))))) ∧
      (¬ r_5 = 0 →
        ∀ σ_13 : St, σ_13 = sI σ_6 75 17 2 →
        ∀ σ_14 : St, σ_14 = sI σ_13 75 18 0 →
        ∃ m_232, wbX12_next_232 post m_232 σ_14)))) ∧
    (¬ r_3 = 0 →
      ∃ m_99, wbX12_next_99 post m_99 0 0 σ_4))))) ∧
  ((gI σ_1 75 15) = (gI σ_1 75 14) →
    ∀ σ_15 : St, σ_15 = sI σ_1 75 17 0 →
    post σ_15))
def wbX12_next_0   (post : St → Prop) : Nat → St → Prop
  | 0, _ => False
  | n + 1, σ =>
    (((gI σ 75 14) ≤ (gI σ 75 15) →
      wbX12_next_52 post σ) ∧
    (¬ (gI σ 75 14) ≤ (gI σ 75 15) →
      vp_in (gI σ 75 15) 300 ∧ (
      (((gI σ 79 (gI σ 75 15).toNatClampNeg) = 32 →
        wbX12_next_39 (wbX12_next_0 post n) post σ) ∧
      (¬ (gI σ 79 (gI σ 75 15).toNatClampNeg) = 32 →
        vp_in (gI σ 75 15) 300 ∧ (
        ((¬ (gI σ 79 (gI σ 75 15).toNatClampNeg) = 10 →
          wbX12_next_52 post σ) ∧
        ((gI σ 79 (gI σ 75 15).toNatClampNeg) = 10 →
          wbX12_next_39 (wbX12_next_0 post n) post σ))))))))
def wpX12_next   (σ : St) (post : St → Prop) : Prop :=
  ∃ m_0, wbX12_next_0 post m_0 σ
-- CradleNamesModel.isSign(I)Z
def wpX12_isSign  (a1 : Int32) (σ : St) (post : Int32 → St → Prop) : Prop :=
  ((¬ (gI σ 75 17) = 3 →
    post 0 σ) ∧
  ((gI σ 75 17) = 3 →
    ((¬ (gI σ 75 18) = a1 →
      post 0 σ) ∧
    ((gI σ 75 18) = a1 →
      post 1 σ))))
-- CradleNamesModel.isWord(I)Z
def wpX12_isWord  (a1 : Int32) (σ : St) (post : Int32 → St → Prop) : Prop :=
  ((¬ (gI σ 75 17) = 1 →
    post 0 σ) ∧
  ((gI σ 75 17) = 1 →
    ((¬ (gI σ 75 18) = a1 →
      post 0 σ) ∧
    ((gI σ 75 18) = a1 →
      post 1 σ))))
-- CradleNamesModel.errs(I)V
def wpX12_errs  (a1 : Int32) (σ : St) (post : St → Prop) : Prop :=
  ((¬ (gI σ 75 19) = 0 →
    post σ) ∧
  ((gI σ 75 19) = 0 →
    ∀ σ_1 : St, σ_1 = sI σ 75 19 a1 →
    ∀ σ_2 : St, σ_2 = sI σ_1 75 20 (gI σ_1 75 16) →
    post σ_2))
-- CradleNamesModel.emits(II)V
def wpX12_emits  (a1 : Int32) (a2 : Int32) (σ : St) (post : St → Prop) : Prop :=
  vp_in (gI σ 75 35) 400 ∧ (
  ∀ σ_1 : St, σ_1 = sI σ 94 (gI σ 75 35).toNatClampNeg a1 →
  vp_in (gI σ_1 75 35) 400 ∧ (
  ∀ σ_2 : St, σ_2 = sI σ_1 95 (gI σ_1 75 35).toNatClampNeg a2 →
  ∀ σ_3 : St, σ_3 = sI σ_2 75 35 ((gI σ_2 75 35) + 1) →
  post σ_3))
-- CradleNamesModel.opensFrame(I)V
def wpX12_opensFrame  (a1 : Int32) (σ : St) (post : St → Prop) : Prop :=
  vp_in (gI σ 75 22) 40 ∧ (
  ∀ σ_1 : St, σ_1 = sI σ 87 (gI σ 75 22).toNatClampNeg a1 →
  ∀ σ_2 : St, σ_2 = sI σ_1 75 22 ((gI σ_1 75 22) + 1) →
  post σ_2)
-- CradleNamesModel.top()I
def wpX12_top   (σ : St) (post : Int32 → St → Prop) : Prop :=
  vp_in ((gI σ 75 22) - 1) 40 ∧ (
  post (gI σ 87 ((gI σ 75 22) - 1).toNatClampNeg) σ)
-- CradleNamesModel.opensSign(I)Z
def wpX12_opensSign  (a1 : Int32) (σ : St) (post : Int32 → St → Prop) : Prop :=
  ((¬ (gI σ 75 21) = 8 →
    ∀ σ_1 : St, σ_1 = sI σ 75 21 ((gI σ 75 21) + 1) →
    wpX12_opensFrame a1 σ_1 (fun σ_3 =>
    wpX12_next  σ_3 (fun σ_5 =>
    post 1 σ_5))) ∧
  ((gI σ 75 21) = 8 →
    wpX12_errs 3 σ (fun σ_7 =>
    post 0 σ_7)))
-- CradleNamesModel.rank(I)I
def wpX12_rank  (a1 : Int32) (σ : St) (post : Int32 → St → Prop) : Prop :=
  ((¬ a1 = 407 →
    ((¬ a1 = 406 →
      ((a1 = 43 →
        post 3 σ) ∧
      (¬ a1 = 43 →
        ((¬ a1 = 45 →
          post 4 σ) ∧
        (a1 = 45 →
          post 3 σ))))) ∧
    (a1 = 406 →
      post 2 σ))) ∧
  (a1 = 407 →
    post 1 σ))
-- CradleNamesModel.works(I)V
def wbX12_works_0   (post : St → Prop) : Nat → Int32 → St → Prop
  | 0, _, _ => False
  | n + 1, v1, σ =>
    (((gI σ 75 26) ≤ 0 →
      post σ) ∧
    (¬ (gI σ 75 26) ≤ 0 →
      vp_in ((gI σ 75 26) - 1) 80 ∧ (
      ((¬ (gI σ 91 ((gI σ 75 26) - 1).toNatClampNeg) = (gI σ 75 22) →
        post σ) ∧
      ((gI σ 91 ((gI σ 75 26) - 1).toNatClampNeg) = (gI σ 75 22) →
        vp_in ((gI σ 75 26) - 1) 80 ∧ (
        wpX12_rank (gI σ 90 ((gI σ 75 26) - 1).toNatClampNeg) σ (fun r_1 σ_2 =>
        ((r_1 < v1 →
          post σ_2) ∧
        (¬ r_1 < v1 →
          ∀ σ_3 : St, σ_3 = sI σ_2 75 26 ((gI σ_2 75 26) - 1) →
          vp_in (gI σ_3 75 26) 80 ∧ (
          wpX12_emits (gI σ_3 90 (gI σ_3 75 26).toNatClampNeg) 0 σ_3 (fun σ_5 =>
          wbX12_works_0 post n v1 σ_5)))))))))))
def wpX12_works  (a1 : Int32) (σ : St) (post : St → Prop) : Prop :=
  ∃ m_0, wbX12_works_0 post m_0 a1 σ
-- CradleNamesModel.waitsFor(I)V
def wpX12_waitsFor  (a1 : Int32) (σ : St) (post : St → Prop) : Prop :=
  wpX12_rank a1 σ (fun r_1 σ_2 =>
  wpX12_works r_1 σ_2 (fun σ_4 =>
  vp_in (gI σ_4 75 26) 80 ∧ (
  ∀ σ_5 : St, σ_5 = sI σ_4 90 (gI σ_4 75 26).toNatClampNeg a1 →
  vp_in (gI σ_5 75 26) 80 ∧ (
  ∀ σ_6 : St, σ_6 = sI σ_5 91 (gI σ_5 75 26).toNatClampNeg (gI σ_5 75 22) →
  ∀ σ_7 : St, σ_7 = sI σ_6 75 26 ((gI σ_6 75 26) + 1) →
  wpX12_next  σ_7 (fun σ_9 =>
  post σ_9)))))
-- CradleNamesModel.nameOf(I)I
def wpX12_nameOf  (a1 : Int32) (σ : St) (post : Int32 → St → Prop) : Prop :=
  ((¬ a1 = 2 →
    ((a1 ≤ 8 →
      post (-1) σ) ∧
    (¬ a1 ≤ 8 →
      post (a1 - 8) σ))) ∧
  (a1 = 2 →
    post 0 σ))
-- CradleNamesModel.asks()V
def wpX12_asks   (σ : St) (post : St → Prop) : Prop :=
  wpX12_isWord 6 σ (fun r_1 σ_2 =>
  ((r_1 = 0 →
    wpX12_opensFrame 4 σ_2 (fun σ_4 =>
    ∀ σ_5 : St, σ_5 = sI σ_4 75 29 1 →
    post σ_5)) ∧
  (¬ r_1 = 0 →
    wpX12_opensSign 3 σ_2 (fun r_6 σ_7 =>
    post σ_7))))
-- CradleNamesModel.oneIsOver()V
def wbX12_oneIsOver_0   (post : St → Prop) : Nat → St → Prop
  | 0, _ => False
  | n + 1, σ =>
    wpX12_top  σ (fun r_1 σ_2 =>
    ((¬ r_1 = 7 →
      ∀ σ_3 : St, σ_3 = sI σ_2 75 29 2 →
      post σ_3) ∧
    (r_1 = 7 →
      ∀ σ_4 : St, σ_4 = sI σ_2 75 22 ((gI σ_2 75 22) - 1) →
      ∀ σ_5 : St, σ_5 = sI σ_4 75 21 ((gI σ_4 75 21) - 1) →
      wpX12_emits 402 0 σ_5 (fun σ_7 =>
      wbX12_oneIsOver_0 post n σ_7))))
def wpX12_oneIsOver   (σ : St) (post : St → Prop) : Prop :=
  ∃ m_0, wbX12_oneIsOver_0 post m_0 σ
-- CradleNamesModel.begins()V
def wbX12_begins_145   (post : St → Prop)  (σ : St) : Prop :=
  ∀ v1_1 : Int32, v1_1 = (gI σ 75 18) →
  wpX12_next  σ (fun σ_3 =>
  wpX12_isSign 40 σ_3 (fun r_4 σ_5 =>
  ((¬ r_4 = 0 →
    wpX12_opensSign 8 σ_5 (fun r_6 σ_7 =>
    ((r_6 = 0 →
      post σ_7) ∧
    (¬ r_6 = 0 →
      vp_in (gI σ_7 75 22) 41 ∧ (
      ∀ σ_8 : St, σ_8 = sI σ_7 88 (gI σ_7 75 22).toNatClampNeg v1_1 →
      post σ_8))))) ∧
  (r_4 = 0 →
    wpX12_errs 1 σ_5 (fun σ_10 =>
    post σ_10)))))
def wbX12_begins_89   (post : St → Prop)  (σ : St) : Prop :=
  wpX12_isSign 40 σ (fun r_1 σ_2 =>
  ((r_1 = 0 →
    wpX12_isSign 45 σ_2 (fun r_3 σ_4 =>
    ((r_3 = 0 →
      wpX12_isWord 7 σ_4 (fun r_5 σ_6 =>
      ((¬ r_5 = 0 →
        wbX12_begins_145 post σ_6) ∧
      (r_5 = 0 →
        wpX12_isWord 8 σ_6 (fun r_7 σ_8 =>
        ((r_7 = 0 →
          wpX12_errs 1 σ_8 (fun σ_10 =>
          post σ_10)) ∧
        (¬ r_7 = 0 →
          wbX12_begins_145 post σ_8))))))) ∧
    (¬ r_3 = 0 →
      wpX12_opensSign 7 σ_4 (fun r_11 σ_12 =>
      post σ_12))))) ∧
  (¬ r_1 = 0 →
    wpX12_opensSign 6 σ_2 (fun r_13 σ_14 =>
    post σ_14))))
def wpX12_begins   (σ : St) (post : St → Prop) : Prop :=
  ((¬ (gI σ 75 17) = 2 →
    ((¬ (gI σ 75 17) = 1 →
      wbX12_begins_89 post σ) ∧
    ((gI σ 75 17) = 1 →
      wpX12_nameOf (gI σ 75 18) σ (fun r_1 σ_2 =>
      ((r_1 < 0 →
        wbX12_begins_89 post σ_2) ∧
      (¬ r_1 < 0 →
        wpX12_nameOf (gI σ_2 75 18) σ_2 (fun r_3 σ_4 =>
        wpX12_emits 401 r_3 σ_4 (fun σ_6 =>
        wpX12_next  σ_6 (fun σ_8 =>
        wpX12_oneIsOver  σ_8 (fun σ_10 =>
        post σ_10)))))))))) ∧
  ((gI σ 75 17) = 2 →
    (((gI σ 75 18) ≤ 9999 →
      wpX12_emits 400 (gI σ 75 18) σ (fun σ_12 =>
      wpX12_next  σ_12 (fun σ_14 =>
      wpX12_oneIsOver  σ_14 (fun σ_16 =>
      post σ_16)))) ∧
    (¬ (gI σ 75 18) ≤ 9999 →
      wpX12_errs 2 σ (fun σ_18 =>
      post σ_18)))))
-- CradleNamesModel.askIsOver()V
def wbX12_askIsOver_0   (post : St → Prop) : Nat → St → Prop
  | 0, _ => False
  | n + 1, σ =>
    wpX12_top  σ (fun r_1 σ_2 =>
    ((¬ r_1 = 3 →
      ∀ σ_3 : St, σ_3 = sI σ_2 75 29 3 →
      post σ_3) ∧
    (r_1 = 3 →
      ∀ σ_4 : St, σ_4 = sI σ_2 75 22 ((gI σ_2 75 22) - 1) →
      ∀ σ_5 : St, σ_5 = sI σ_4 75 21 ((gI σ_4 75 21) - 1) →
      wpX12_emits 405 0 σ_5 (fun σ_7 =>
      wbX12_askIsOver_0 post n σ_7))))
def wpX12_askIsOver   (σ : St) (post : St → Prop) : Prop :=
  ∃ m_0, wbX12_askIsOver_0 post m_0 σ
-- CradleNamesModel.isAsking(I)Z
def wpX12_isAsking  (a1 : Int32) (σ : St) (post : Int32 → St → Prop) : Prop :=
  ((a1 = 60 →
    post 1 σ) ∧
  (¬ a1 = 60 →
    ((a1 = 62 →
      post 1 σ) ∧
    (¬ a1 = 62 →
      ((a1 = 61 →
        post 1 σ) ∧
      (¬ a1 = 61 →
        ((a1 = 35 →
          post 1 σ) ∧
        (¬ a1 = 35 →
          ((a1 = 300 →
            post 1 σ) ∧
          (¬ a1 = 300 →
            ((¬ a1 = 301 →
              post 0 σ) ∧
            (a1 = 301 →
              post 1 σ))))))))))))
-- CradleNamesModel.clauseIsOver()V
def wpX12_clauseIsOver   (σ : St) (post : St → Prop) : Prop :=
  wpX12_works 1 σ (fun σ_2 =>
  ∀ σ_3 : St, σ_3 = sI σ_2 75 22 0 →
  wpX12_emits 408 0 σ_3 (fun σ_5 =>
  ∀ σ_6 : St, σ_6 = sI σ_5 75 30 ((gI σ_5 75 30) + 1) →
  wpX12_next  σ_6 (fun σ_8 =>
  ∀ σ_9 : St, σ_9 = sI σ_8 75 29 4 →
  post σ_9)))
-- CradleNamesModel.goesOn()V
def wbX12_goesOn_332   (post : St → Prop)  (σ : St) : Prop :=
  wpX12_errs 1 σ (fun σ_2 =>
  post σ_2)
def wbX12_goesOn_268   (post : St → Prop) (v1 : Int32) (σ : St) : Prop :=
  ((¬ v1 = 5 →
    ((¬ v1 = 1 →
      wbX12_goesOn_332 post σ) ∧
    (v1 = 1 →
      wpX12_isSign 59 σ (fun r_1 σ_2 =>
      ((r_1 = 0 →
        wbX12_goesOn_332 post σ_2) ∧
      (¬ r_1 = 0 →
        wpX12_clauseIsOver  σ_2 (fun σ_4 =>
        post σ_4))))))) ∧
  (v1 = 5 →
    wpX12_works 3 σ (fun σ_6 =>
    vp_in (gI σ_6 75 22) 41 ∧ (
    ∀ v2_7 : Int32, v2_7 = (gI σ_6 89 (gI σ_6 75 22).toNatClampNeg) →
    ∀ σ_8 : St, σ_8 = sI σ_6 75 22 ((gI σ_6 75 22) - 1) →
    wpX12_emits v2_7 0 σ_8 (fun σ_10 =>
    wpX12_askIsOver  σ_10 (fun σ_12 =>
    post σ_12))))))
def wbX12_goesOn_143  (K147 : St → Prop) (post : St → Prop) (s0 : Int32) (σ : St) : Prop :=
  wpX12_emits s0 0 σ (fun σ_2 =>
  K147 σ_2)
def wbX12_goesOn_147   (post : St → Prop)  (σ : St) : Prop :=
  wpX12_next  σ (fun σ_2 =>
  wpX12_oneIsOver  σ_2 (fun σ_4 =>
  post σ_4))
def wbX12_goesOn_203   (post : St → Prop) (v1 : Int32) (σ : St) : Prop :=
  ((¬ v1 = 4 →
    wbX12_goesOn_268 post v1 σ) ∧
  (v1 = 4 →
    ((¬ (gI σ 75 17) = 3 →
      wbX12_goesOn_268 post v1 σ) ∧
    ((gI σ 75 17) = 3 →
      wpX12_isAsking (gI σ 75 18) σ (fun r_1 σ_2 =>
      ((r_1 = 0 →
        wbX12_goesOn_268 post v1 σ_2) ∧
      (¬ r_1 = 0 →
        wpX12_works 3 σ_2 (fun σ_4 =>
        vp_in (gI σ_4 75 22) 41 ∧ (
        ∀ σ_5 : St, σ_5 = sI σ_4 89 (gI σ_4 75 22).toNatClampNeg (gI σ_4 75 18) →
        vp_in ((gI σ_5 75 22) - 1) 40 ∧ (
        ∀ σ_6 : St, σ_6 = sI σ_5 87 ((gI σ_5 75 22) - 1).toNatClampNeg 5 →
        wpX12_next  σ_6 (fun σ_8 =>
        ∀ σ_9 : St, σ_9 = sI σ_8 75 29 1 →
        post σ_9)))))))))))
def wbX12_goesOn_77  (K158 : Int32 → St → Prop) (post : St → Prop) (v1 : Int32) (σ : St) : Prop :=
  wpX12_isSign 41 σ (fun r_1 σ_2 =>
  ((r_1 = 0 →
    K158 v1 σ_2) ∧
  (¬ r_1 = 0 →
    wpX12_works 3 σ_2 (fun σ_4 =>
    vp_in (gI σ_4 75 22) 41 ∧ (
    ∀ v2_5 : Int32, v2_5 = (gI σ_4 88 (gI σ_4 75 22).toNatClampNeg) →
    ∀ σ_6 : St, σ_6 = sI σ_4 75 22 ((gI σ_4 75 22) - 1) →
    ∀ σ_7 : St, σ_7 = sI σ_6 75 21 ((gI σ_6 75 21) - 1) →
    ((¬ v1 = 9 →
      wbX12_goesOn_147 post σ_7) ∧
    (v1 = 9 →
      ((¬ v2_5 = 7 →
        wbX12_goesOn_143 (wbX12_goesOn_147 post) post 404 σ_7) ∧
      (v2_5 = 7 →
        wbX12_goesOn_143 (wbX12_goesOn_147 post) post 403 σ_7)))))))))
def wbX12_goesOn_158   (post : St → Prop) (v1 : Int32) (σ : St) : Prop :=
  ((¬ v1 = 8 →
    wbX12_goesOn_203 post v1 σ) ∧
  (v1 = 8 →
    wpX12_isSign 44 σ (fun r_1 σ_2 =>
    ((r_1 = 0 →
      wbX12_goesOn_203 post v1 σ_2) ∧
    (¬ r_1 = 0 →
      wpX12_works 3 σ_2 (fun σ_4 =>
      vp_in ((gI σ_4 75 22) - 1) 40 ∧ (
      ∀ σ_5 : St, σ_5 = sI σ_4 87 ((gI σ_4 75 22) - 1).toNatClampNeg 9 →
      wpX12_next  σ_5 (fun σ_7 =>
      ∀ σ_8 : St, σ_8 = sI σ_7 75 29 1 →
      post σ_8))))))))
def wbX12_goesOn_49   (post : St → Prop)  (σ : St) : Prop :=
  wpX12_waitsFor (gI σ 75 18) σ (fun σ_2 =>
  ∀ σ_3 : St, σ_3 = sI σ_2 75 29 1 →
  post σ_3)
def wbX12_goesOn_65   (post : St → Prop) (v1 : Int32) (σ : St) : Prop :=
  ((v1 = 6 →
    wbX12_goesOn_77 (wbX12_goesOn_158 post) post v1 σ) ∧
  (¬ v1 = 6 →
    ((¬ v1 = 9 →
      wbX12_goesOn_158 post v1 σ) ∧
    (v1 = 9 →
      wbX12_goesOn_77 (wbX12_goesOn_158 post) post v1 σ))))
def wpX12_goesOn   (σ : St) (post : St → Prop) : Prop :=
  wpX12_top  σ (fun r_1 σ_2 =>
  ((¬ (gI σ_2 75 17) = 3 →
    wbX12_goesOn_65 post r_1 σ_2) ∧
  ((gI σ_2 75 17) = 3 →
    (((gI σ_2 75 18) = 43 →
      wbX12_goesOn_49 post σ_2) ∧
    (¬ (gI σ_2 75 18) = 43 →
      (((gI σ_2 75 18) = 45 →
        wbX12_goesOn_49 post σ_2) ∧
      (¬ (gI σ_2 75 18) = 45 →
        (((gI σ_2 75 18) = 42 →
          wbX12_goesOn_49 post σ_2) ∧
        (¬ (gI σ_2 75 18) = 42 →
          ((¬ (gI σ_2 75 18) = 47 →
            wbX12_goesOn_65 post r_1 σ_2) ∧
          ((gI σ_2 75 18) = 47 →
            wbX12_goesOn_49 post σ_2)))))))))))
-- CradleNamesModel.asksOn()V
def wbX12_asksOn_34   (post : St → Prop) (s0 : Int32) (σ : St) : Prop :=
  wpX12_waitsFor s0 σ (fun σ_2 =>
  ∀ σ_3 : St, σ_3 = sI σ_2 75 29 0 →
  post σ_3)
def wbX12_asksOn_16   (post : St → Prop)  (σ : St) : Prop :=
  wpX12_isWord 4 σ (fun r_1 σ_2 =>
  ((r_1 = 0 →
    wbX12_asksOn_34 post 406 σ_2) ∧
  (¬ r_1 = 0 →
    wbX12_asksOn_34 post 407 σ_2)))
def wbX12_asksOn_69   (post : St → Prop)  (σ : St) : Prop :=
  wpX12_errs 1 σ (fun σ_2 =>
  post σ_2)
def wpX12_asksOn   (σ : St) (post : St → Prop) : Prop :=
  wpX12_isWord 4 σ (fun r_1 σ_2 =>
  ((¬ r_1 = 0 →
    wbX12_asksOn_16 post σ_2) ∧
  (r_1 = 0 →
    wpX12_isWord 5 σ_2 (fun r_3 σ_4 =>
    ((r_3 = 0 →
      wpX12_top  σ_4 (fun r_5 σ_6 =>
      ((¬ r_5 = 2 →
        wbX12_asksOn_69 post σ_6) ∧
      (r_5 = 2 →
        wpX12_isSign 59 σ_6 (fun r_7 σ_8 =>
        ((r_7 = 0 →
          wbX12_asksOn_69 post σ_8) ∧
        (¬ r_7 = 0 →
          wpX12_clauseIsOver  σ_8 (fun σ_10 =>
          post σ_10)))))))) ∧
    (¬ r_3 = 0 →
      wbX12_asksOn_16 post σ_4))))))
-- CradleNamesModel.number(II)I
def wbX12_number_15   (post : Int32 → St → Prop) (v1 : Int32) (σ : St) : Prop :=
  wpX12_errs 1 σ (fun σ_2 =>
  post v1 σ_2)
def wpX12_number  (a1 : Int32) (a2 : Int32) (σ : St) (post : Int32 → St → Prop) : Prop :=
  ((0 < (gI σ 75 19) →
    wbX12_number_15 post a1 σ) ∧
  (¬ 0 < (gI σ 75 19) →
    (((gI σ 75 17) = 2 →
      wpX12_in (gI σ 75 18) a1 a2 σ (fun r_1 σ_2 =>
      ((¬ r_1 = 0 →
        ∀ v3_3 : Int32, v3_3 = (gI σ_2 75 18) →
        wpX12_next  σ_2 (fun σ_5 =>
        post v3_3 σ_5)) ∧
      (r_1 = 0 →
        wpX12_errs 2 σ_2 (fun σ_7 =>
        post a1 σ_7))))) ∧
    (¬ (gI σ 75 17) = 2 →
      wbX12_number_15 post a1 σ))))
-- CradleNamesModel.wasTold(I)Z
def wbX12_wasTold_4   (post : Int32 → St → Prop) : Nat → Int32 → Int32 → Int32 → St → Prop
  | 0, _, _, _, _ => False
  | n + 1, v1, v2, v3, σ =>
    (((gI σ 75 30) ≤ v3 →
      (v2 = 0 ∨ v2 = 1) ∧ post v2 σ) ∧
    (¬ (gI σ 75 30) ≤ v3 →
      ((¬ v2 = 0 →
        ∀ v3_1 : Int32, v3_1 = v3 + 1 →
        wbX12_wasTold_4 post n v1 1 v3_1 σ) ∧
      (v2 = 0 →
        vp_in v3 12 ∧ (
        ((¬ (gI σ 92 v3.toNatClampNeg) = v1 →
          ∀ v3_2 : Int32, v3_2 = v3 + 1 →
          wbX12_wasTold_4 post n v1 0 v3_2 σ) ∧
        ((gI σ 92 v3.toNatClampNeg) = v1 →
          ∀ v3_3 : Int32, v3_3 = v3 + 1 →
          wbX12_wasTold_4 post n v1 1 v3_3 σ)))))))
def wpX12_wasTold  (a1 : Int32) (σ : St) (post : Int32 → St → Prop) : Prop :=
  ∃ m_4, wbX12_wasTold_4 post m_4 a1 0 0 σ
-- CradleNamesModel.clause()V
def wbX12_clause_172   (post : St → Prop) (s0 : Int32) (σ : St) : Prop :=
  ∀ σ_1 : St, σ_1 = sI σ 75 32 s0 →
  wpX12_clauseIsOver  σ_1 (fun σ_3 =>
  post σ_3)
def wbX12_clause_155   (post : St → Prop) (v1 : Int32) (v2 : Int32) (s0 : Int32) (σ : St) : Prop :=
  ∀ σ_1 : St, σ_1 = sI σ 75 31 s0 →
  ((¬ v1 = 3 →
    wbX12_clause_172 post (gI σ_1 75 32) σ_1) ∧
  (v1 = 3 →
    wbX12_clause_172 post v2 σ_1))
def wbX12_clause_182   (post : St → Prop)  (σ : St) : Prop :=
  wpX12_errs 1 σ (fun σ_2 =>
  post σ_2)
def wbX12_clause_121   (post : St → Prop) (v1 : Int32) (s0 : Int32) (s1 : Int32) (σ : St) : Prop :=
  wpX12_number s1 s0 σ (fun r_1 σ_2 =>
  ((¬ (gI σ_2 75 19) = 0 →
    wbX12_clause_182 post σ_2) ∧
  ((gI σ_2 75 19) = 0 →
    wpX12_isSign 59 σ_2 (fun r_3 σ_4 =>
    ((r_3 = 0 →
      wbX12_clause_182 post σ_4) ∧
    (¬ r_3 = 0 →
      ((¬ v1 = 2 →
        wbX12_clause_155 post v1 r_1 (gI σ_4 75 31) σ_4) ∧
      (v1 = 2 →
        wbX12_clause_155 post v1 r_1 r_1 σ_4))))))))
def wbX12_clause_107   (post : St → Prop) (v1 : Int32) (σ : St) : Prop :=
  ((¬ v1 = 2 →
    wbX12_clause_121 post v1 60 1 σ) ∧
  (v1 = 2 →
    wbX12_clause_121 post v1 20 1 σ))
def wbX12_clause_198   (post : St → Prop) (v1 : Int32) (s0 : Int32) (σ : St) : Prop :=
  wpX12_opensFrame s0 σ (fun σ_2 =>
  ((¬ v1 = 0 →
    ∀ σ_3 : St, σ_3 = sI σ_2 75 29 0 →
    post σ_3) ∧
  (v1 = 0 →
    ∀ σ_4 : St, σ_4 = sI σ_2 75 29 1 →
    post σ_4)))
def wbX12_clause_16   (post : St → Prop)  (σ : St) : Prop :=
  wpX12_errs 1 σ (fun σ_2 =>
  post σ_2)
def wbX12_clause_48  (K62 : Int32 → St → Prop) (post : St → Prop) (v1 : Int32) (σ : St) : Prop :=
  ((¬ (gI σ 75 30) = 12 →
    K62 v1 σ) ∧
  ((gI σ 75 30) = 12 →
    wpX12_errs 5 σ (fun σ_2 =>
    K62 v1 σ_2)))
def wbX12_clause_62   (post : St → Prop) (v1 : Int32) (σ : St) : Prop :=
  (((gI σ 75 19) ≤ 0 →
    vp_in (gI σ 75 30) 12 ∧ (
    ∀ σ_1 : St, σ_1 = sI σ 92 (gI σ 75 30).toNatClampNeg v1 →
    vp_in (gI σ_1 75 30) 12 ∧ (
    ∀ σ_2 : St, σ_2 = sI σ_1 93 (gI σ_1 75 30).toNatClampNeg (gI σ_1 75 35) →
    wpX12_next  σ_2 (fun σ_4 =>
    ((v1 = 2 →
      wbX12_clause_107 post v1 σ_4) ∧
    (¬ v1 = 2 →
      ((¬ v1 = 3 →
        ((¬ v1 = 0 →
          wbX12_clause_198 post v1 2 σ_4) ∧
        (v1 = 0 →
          wbX12_clause_198 post v1 1 σ_4))) ∧
      (v1 = 3 →
        wbX12_clause_107 post v1 σ_4)))))))) ∧
  (¬ (gI σ 75 19) ≤ 0 →
    post σ))
def wpX12_clause   (σ : St) (post : St → Prop) : Prop :=
  ((¬ (gI σ 75 17) = 1 →
    wbX12_clause_16 post σ) ∧
  ((gI σ 75 17) = 1 →
    (((gI σ 75 18) ≤ 3 →
      ∀ v1_1 : Int32, v1_1 = (gI σ 75 18) →
      ((v1_1 = 1 →
        wbX12_clause_48 (wbX12_clause_62 post) post v1_1 σ) ∧
      (¬ v1_1 = 1 →
        wpX12_wasTold v1_1 σ (fun r_2 σ_3 =>
        ((r_2 = 0 →
          wbX12_clause_48 (wbX12_clause_62 post) post v1_1 σ_3) ∧
        (¬ r_2 = 0 →
          wpX12_errs 4 σ_3 (fun σ_5 =>
          wbX12_clause_62 post v1_1 σ_5))))))) ∧
    (¬ (gI σ 75 18) ≤ 3 →
      wbX12_clause_16 post σ))))
-- CradleNamesModel.keepsText(I)V
def wbX12_keepsText_88   (post : St → Prop) : Nat → Int32 → Int32 → St → Prop
  | 0, _, _, _ => False
  | n + 1, v1, v2, σ =>
    (((gI σ 75 35) ≤ v2 →
      post σ) ∧
    (¬ (gI σ 75 35) ≤ v2 →
      vp_in v2 400 ∧ (
      vp_in ((400 * v1) + v2) 2400 ∧ (
      ∀ σ_1 : St, σ_1 = sI σ 85 ((400 * v1) + v2).toNatClampNeg (gI σ 94 v2.toNatClampNeg) →
      vp_in v2 400 ∧ (
      vp_in ((400 * v1) + v2) 2400 ∧ (
      ∀ σ_2 : St, σ_2 = sI σ_1 86 ((400 * v1) + v2).toNatClampNeg (gI σ_1 95 v2.toNatClampNeg) →
      ∀ v2_3 : Int32, v2_3 = v2 + 1 →
      wbX12_keepsText_88 post n v1 v2_3 σ_2))))))
def wbX12_keepsText_32   (post : St → Prop) : Nat → Int32 → Int32 → St → Prop
  | 0, _, _, _ => False
  | n + 1, v1, v2, σ =>
    (((gI σ 75 30) ≤ v2 →
      ∃ m_88, wbX12_keepsText_88 post m_88 v1 0 σ) ∧
    (¬ (gI σ 75 30) ≤ v2 →
      vp_in v2 12 ∧ (
      vp_in ((12 * v1) + v2) 72 ∧ (
      ∀ σ_1 : St, σ_1 = sI σ 81 ((12 * v1) + v2).toNatClampNeg (gI σ 92 v2.toNatClampNeg) →
      vp_in v2 12 ∧ (
      vp_in ((12 * v1) + v2) 72 ∧ (
      ∀ σ_2 : St, σ_2 = sI σ_1 82 ((12 * v1) + v2).toNatClampNeg ((400 * v1) + (gI σ_1 93 v2.toNatClampNeg)) →
      ∀ v2_3 : Int32, v2_3 = v2 + 1 →
      wbX12_keepsText_32 post n v1 v2_3 σ_2))))))
def wpX12_keepsText  (a1 : Int32) (σ : St) (post : St → Prop) : Prop :=
  vp_in a1 6 ∧ (
  ∀ σ_1 : St, σ_1 = sI σ 80 a1.toNatClampNeg (gI σ 75 30) →
  vp_in a1 6 ∧ (
  ∀ σ_2 : St, σ_2 = sI σ_1 83 a1.toNatClampNeg (gI σ_1 75 31) →
  vp_in a1 6 ∧ (
  ∀ σ_3 : St, σ_3 = sI σ_2 84 a1.toNatClampNeg (gI σ_2 75 32) →
  ∃ m_32, wbX12_keepsText_32 post m_32 a1 0 σ_3)))
-- CradleNamesModel.taste()I
def wbX12_taste_108  (K86 : St → Prop) (post : Int32 → St → Prop)  (σ : St) : Prop :=
  ∀ x_1 : Int32, x_1 = (gI σ 75 29) →
  ((x_1 = 0 →
    wpX12_asks  σ (fun σ_3 =>
    K86 σ_3)) ∧
  (¬ x_1 = 0 →
  ((x_1 = 1 →
    wpX12_begins  σ (fun σ_5 =>
    K86 σ_5)) ∧
  (¬ x_1 = 1 →
  ((x_1 = 2 →
    wpX12_goesOn  σ (fun σ_7 =>
    K86 σ_7)) ∧
  (¬ x_1 = 2 →
  ((x_1 = 3 →
    wpX12_asksOn  σ (fun σ_9 =>
    K86 σ_9)) ∧
  (¬ x_1 = 3 →
  wpX12_clause  σ (fun σ_11 =>
  K86 σ_11)))))))))
def wbX12_taste_179   (post : Int32 → St → Prop)  (σ : St) : Prop :=
  ∀ σ_1 : St, σ_1 = sI σ 75 5 (gI σ 75 19) →
  ∀ σ_2 : St, σ_2 = sI σ_1 75 6 (gI σ_1 75 20) →
  (((gI σ_2 75 19) ≤ 0 →
    vp_in 4 9680 ∧ (
    wpX12_keepsText (gI σ_2 76 (4 : Int32).toNatClampNeg) σ_2 (fun σ_4 =>
    vp_in 4 9680 ∧ (
    vp_in 4 9680 ∧ (
    ∀ σ_5 : St, σ_5 = sI σ_4 76 (4 : Int32).toNatClampNeg ((gI σ_4 76 (4 : Int32).toNatClampNeg) + 1) →
    vp_in 4 9680 ∧ (
    post ((gI σ_5 76 (4 : Int32).toNatClampNeg) - 1) σ_5)))))) ∧
  (¬ (gI σ_2 75 19) ≤ 0 →
    post (-1) σ_2))
def wbX12_taste_86   (post : Int32 → St → Prop) : Nat → St → Prop
  | 0, _ => False
  | n + 1, σ =>
    ((¬ (gI σ 75 19) = 0 →
      wbX12_taste_179 post σ) ∧
    ((gI σ 75 19) = 0 →
      ((¬ (gI σ 75 29) = 4 →
        wbX12_taste_108 (wbX12_taste_86 post n) post σ) ∧
      ((gI σ 75 29) = 4 →
        (((gI σ 75 17) = 0 →
          wbX12_taste_179 post σ) ∧
        (¬ (gI σ 75 17) = 0 →
          wbX12_taste_108 (wbX12_taste_86 post n) post σ))))))
def wpX12_taste   (σ : St) (post : Int32 → St → Prop) : Prop :=
  vp_in 4 9680 ∧ (
  ((¬ (gI σ 76 (4 : Int32).toNatClampNeg) = 6 →
    ∀ σ_1 : St, σ_1 = sI σ 75 14 (gI σ 75 4) →
    ∀ σ_2 : St, σ_2 = sI σ_1 75 4 0 →
    ∀ σ_3 : St, σ_3 = sI σ_2 75 15 0 →
    ∀ σ_4 : St, σ_4 = sI σ_3 75 19 0 →
    ∀ σ_5 : St, σ_5 = sI σ_4 75 20 (-1) →
    ∀ σ_6 : St, σ_6 = sI σ_5 75 21 0 →
    ∀ σ_7 : St, σ_7 = sI σ_6 75 22 0 →
    ∀ σ_8 : St, σ_8 = sI σ_7 75 26 0 →
    ∀ σ_9 : St, σ_9 = sI σ_8 75 29 4 →
    ∀ σ_10 : St, σ_10 = sI σ_9 75 30 0 →
    ∀ σ_11 : St, σ_11 = sI σ_10 75 35 0 →
    ∀ σ_12 : St, σ_12 = sI σ_11 75 31 5 →
    ∀ σ_13 : St, σ_13 = sI σ_12 75 32 50 →
    wpX12_next  σ_13 (fun σ_15 =>
    ∃ m_86, wbX12_taste_86 post m_86 σ_15)) ∧
  ((gI σ 76 (4 : Int32).toNatClampNeg) = 6 →
    post (-1) σ)))
-- CradleNamesModel.fault(I)I
def wpX12_fault  (a1 : Int32) (σ : St) (post : Int32 → St → Prop) : Prop :=
  ((¬ a1 = 0 →
    ((¬ a1 = 1 →
      post (-1) σ) ∧
    (a1 = 1 →
      post (gI σ 75 6) σ))) ∧
  (a1 = 0 →
    post (gI σ 75 5) σ))
-- CradleNamesModel.by(II)Z
def wbX12_by_24   (post : Int32 → St → Prop) (v1 : Int32) (v2 : Int32) (σ : St) : Prop :=
  vp_in (7 + v1) 9680 ∧ (
  ∀ σ_1 : St, σ_1 = sI σ 76 (7 + v1).toNatClampNeg v2 →
  post 1 σ_1)
def wpX12_by  (a1 : Int32) (a2 : Int32) (σ : St) (post : Int32 → St → Prop) : Prop :=
  wpX12_in a1 0 1 σ (fun r_1 σ_2 =>
  ((r_1 = 0 →
    post 0 σ_2) ∧
  (¬ r_1 = 0 →
    ((a2 = (-1) →
      wbX12_by_24 post a1 a2 σ_2) ∧
    (¬ a2 = (-1) →
      wpX12_isTaste a2 σ_2 (fun r_3 σ_4 =>
      ((¬ r_3 = 0 →
        wbX12_by_24 post a1 a2 σ_4) ∧
      (r_3 = 0 →
        post 0 σ_4))))))))
-- CradleNamesModel.years(I)I
def wbX12_years_49  (K27 : Int32 → Int32 → St → Prop) (post : Int32 → St → Prop) : Nat → Int32 → Int32 → Int32 → Int32 → St → Prop
  | 0, _, _, _, _, _ => False
  | n + 1, v1, v2, v3, v4, σ =>
    ((12 ≤ v4 →
      vp_in 7 9680 ∧ (
      vp_in (v3 + 12) 9680 ∧ (
      ∀ σ_1 : St, σ_1 = sI σ 76 (v3 + 12).toNatClampNeg (gI σ 76 (7 : Int32).toNatClampNeg) →
      vp_in 8 9680 ∧ (
      vp_in (v3 + 13) 9680 ∧ (
      ∀ σ_2 : St, σ_2 = sI σ_1 76 (v3 + 13).toNatClampNeg (gI σ_1 76 (8 : Int32).toNatClampNeg) →
      vp_in 0 9680 ∧ (
      vp_in 0 9680 ∧ (
      ∀ σ_3 : St, σ_3 = sI σ_2 76 (0 : Int32).toNatClampNeg ((gI σ_2 76 (0 : Int32).toNatClampNeg) + 1) →
      ∀ v2_4 : Int32, v2_4 = v2 + 1 →
      K27 v1 v2_4 σ_3))))))) ∧
    (¬ 12 ≤ v4 →
      vp_in (10 + v4) 9680 ∧ (
      vp_in (v3 + v4) 9680 ∧ (
      ∀ σ_5 : St, σ_5 = sI σ 76 (v3 + v4).toNatClampNeg (gI σ 76 (10 + v4).toNatClampNeg) →
      ∀ v4_6 : Int32, v4_6 = v4 + 1 →
      wbX12_years_49 K27 post n v1 v2 v3 v4_6 σ_5))))
def wbX12_years_27   (post : Int32 → St → Prop) : Nat → Int32 → Int32 → St → Prop
  | 0, _, _, _ => False
  | n + 1, v1, v2, σ =>
    ((v1 ≤ v2 →
      vp_in 0 9680 ∧ (
      post (gI σ 76 (0 : Int32).toNatClampNeg) σ)) ∧
    (¬ v1 ≤ v2 →
      vp_in 0 9680 ∧ (
      ∀ v3_1 : Int32, v3_1 = (1000 + (14 * (gI σ 76 (0 : Int32).toNatClampNeg))) →
      ∃ m_49, wbX12_years_49 (wbX12_years_27 post n) post m_49 v1 v2 v3_1 0 σ)))
def wpX12_years  (a1 : Int32) (σ : St) (post : Int32 → St → Prop) : Prop :=
  wpX12_in a1 1 20 σ (fun r_1 σ_2 =>
  ((r_1 = 0 →
    post (-1) σ_2) ∧
  (¬ r_1 = 0 →
    vp_in 0 9680 ∧ (
    ((((gI σ_2 76 (0 : Int32).toNatClampNeg) + a1) ≤ 61 →
      ∃ m_27, wbX12_years_27 post m_27 a1 0 σ_2) ∧
    (¬ ((gI σ_2 76 (0 : Int32).toNatClampNeg) + a1) ≤ 61 →
      post (-1) σ_2))))))
-- CradleNamesModel.allOf(I)I
def wbX12_allOf_4   (post : Int32 → St → Prop) : Nat → Int32 → Int32 → Int32 → St → Prop
  | 0, _, _, _, _ => False
  | n + 1, v1, v2, v3, σ =>
    vp_in 1 9680 ∧ (
    (((gI σ 76 (1 : Int32).toNatClampNeg) ≤ v3 →
      post v2 σ) ∧
    (¬ (gI σ 76 (1 : Int32).toNatClampNeg) ≤ v3 →
      wpX12_all v1 v3 σ (fun r_1 σ_2 =>
      ∀ v2_3 : Int32, v2_3 = (v2 + r_1) →
      ∀ v3_4 : Int32, v3_4 = v3 + 1 →
      wbX12_allOf_4 post n v1 v2_3 v3_4 σ_2))))
def wpX12_allOf  (a1 : Int32) (σ : St) (post : Int32 → St → Prop) : Prop :=
  ∃ m_4, wbX12_allOf_4 post m_4 a1 0 0 σ
-- CradleNamesModel.runsAll()V
def wpX12_runsAll   (σ : St) (post : St → Prop) : Prop :=
  vp_in 0 9680 ∧ (
  wpX12_runs (gI σ 76 (0 : Int32).toNatClampNeg) (-1) 0 (-1) σ (fun σ_2 =>
  post σ_2))
-- CradleNamesModel.laysNow()V
def wpX12_laysNow   (σ : St) (post : St → Prop) : Prop :=
  wpX12_runsAll  σ (fun σ_2 =>
  vp_in 7 9680 ∧ (
  vp_in 0 2 ∧ (
  ∀ σ_3 : St, σ_3 = sI σ_2 104 (0 : Int32).toNatClampNeg (gI σ_2 76 (7 : Int32).toNatClampNeg) →
  vp_in 8 9680 ∧ (
  vp_in 1 2 ∧ (
  ∀ σ_4 : St, σ_4 = sI σ_3 104 (1 : Int32).toNatClampNeg (gI σ_3 76 (8 : Int32).toNatClampNeg) →
  vp_in 0 9680 ∧ (
  wpX12_lays (gI σ_4 76 (0 : Int32).toNatClampNeg) (-1) 0 σ_4 (fun σ_6 =>
  post σ_6)))))))
-- CradleNamesModel.isPart(II)Z
def wpX12_isPart  (a1 : Int32) (a2 : Int32) (σ : St) (post : Int32 → St → Prop) : Prop :=
  ((a1 = (-1) →
    post 1 σ) ∧
  (¬ a1 = (-1) →
    wpX12_in a1 0 a2 σ (fun r_1 σ_2 =>
    ((r_1 = 0 →
      post 0 σ_2) ∧
    (¬ r_1 = 0 →
      post 1 σ_2)))))
-- CradleNamesModel.sumOf(IIIII)I
def wbX12_sumOf_41  (K66 : Int32 → Int32 → Int32 → Int32 → Int32 → Int32 → Int32 → Int32 → Int32 → St → Prop) (post : Int32 → St → Prop) (v1 : Int32) (v2 : Int32) (v3 : Int32) (v4 : Int32) (v5 : Int32) (v6 : Int32) (v7 : Int32) (σ : St) : Prop :=
  ((v4 = (-1) →
    K66 v1 v2 v3 v4 v5 v6 v7 1 0 σ) ∧
  (¬ v4 = (-1) →
    ((¬ (v7 - v7 / 2 * 2) = v4 →
      K66 v1 v2 v3 v4 v5 v6 v7 0 0 σ) ∧
    ((v7 - v7 / 2 * 2) = v4 →
      K66 v1 v2 v3 v4 v5 v6 v7 1 0 σ))))
def wbX12_sumOf_97  (K66 : Int32 → Int32 → Int32 → Int32 → Int32 → Int32 → Int32 → Int32 → Int32 → St → Prop) (post : Int32 → St → Prop) (v1 : Int32) (v2 : Int32) (v3 : Int32) (v4 : Int32) (v5 : Int32) (v7 : Int32) (v8 : Int32) (v9 : Int32) (s0 : Int32) (σ : St) : Prop :=
  vp_in (((192 * (v1 + 40)) + (16 * v7)) + v9) 19392 ∧ (
  ∀ v6_1 : Int32, v6_1 = (s0 + (gI σ 98 (((192 * (v1 + 40)) + (16 * v7)) + v9).toNatClampNeg)) →
  ∀ v9_2 : Int32, v9_2 = v9 + 1 →
  K66 v1 v2 v3 v4 v5 v6_1 v7 v8 v9_2 σ)
def wbX12_sumOf_26  (K66 : Int32 → Int32 → Int32 → Int32 → Int32 → Int32 → Int32 → Int32 → Int32 → St → Prop) (post : Int32 → St → Prop) (v1 : Int32) (v2 : Int32) (v3 : Int32) (v4 : Int32) (v5 : Int32) (v6 : Int32) (v7 : Int32) (σ : St) : Prop :=
  ((v3 = (-1) →
    wbX12_sumOf_41 K66 post v1 v2 v3 v4 v5 v6 v7 σ) ∧
  (¬ v3 = (-1) →
    ((¬ ((v7 / 2) - (v7 / 2) / 2 * 2) = v3 →
      K66 v1 v2 v3 v4 v5 v6 v7 0 0 σ) ∧
    (((v7 / 2) - (v7 / 2) / 2 * 2) = v3 →
      wbX12_sumOf_41 K66 post v1 v2 v3 v4 v5 v6 v7 σ))))
def wbX12_sumOf_66  (K6 : Int32 → Int32 → Int32 → Int32 → Int32 → Int32 → Int32 → St → Prop) (post : Int32 → St → Prop) : Nat → Int32 → Int32 → Int32 → Int32 → Int32 → Int32 → Int32 → Int32 → Int32 → St → Prop
  | 0, _, _, _, _, _, _, _, _, _, _ => False
  | n + 1, v1, v2, v3, v4, v5, v6, v7, v8, v9, σ =>
    vp_in 1 9680 ∧ (
    (((gI σ 76 (1 : Int32).toNatClampNeg) ≤ v9 →
      ∀ v7_1 : Int32, v7_1 = v7 + 1 →
      K6 v1 v2 v3 v4 v5 v6 v7_1 σ) ∧
    (¬ (gI σ 76 (1 : Int32).toNatClampNeg) ≤ v9 →
      ((v8 = 0 →
        ∀ v7_2 : Int32, v7_2 = v7 + 1 →
        K6 v1 v2 v3 v4 v5 v6 v7_2 σ) ∧
      (¬ v8 = 0 →
        ((v5 = (-1) →
          wbX12_sumOf_97 (wbX12_sumOf_66 K6 post n) post v1 v2 v3 v4 v5 v7 v8 v9 v6 σ) ∧
        (¬ v5 = (-1) →
          ((¬ v5 = v9 →
            ∀ v6_3 : Int32, v6_3 = (v6 + 0) →
            ∀ v9_4 : Int32, v9_4 = v9 + 1 →
            wbX12_sumOf_66 K6 post n v1 v2 v3 v4 v5 v6_3 v7 v8 v9_4 σ) ∧
          (v5 = v9 →
            wbX12_sumOf_97 (wbX12_sumOf_66 K6 post n) post v1 v2 v3 v4 v5 v7 v8 v9 v6 σ)))))))))
def wbX12_sumOf_6   (post : Int32 → St → Prop) : Nat → Int32 → Int32 → Int32 → Int32 → Int32 → Int32 → Int32 → St → Prop
  | 0, _, _, _, _, _, _, _, _ => False
  | n + 1, v1, v2, v3, v4, v5, v6, v7, σ =>
    ((12 ≤ v7 →
      post v6 σ) ∧
    (¬ 12 ≤ v7 →
      ((v2 = (-1) →
        wbX12_sumOf_26 (fun v1 v2 v3 v4 v5 v6 v7 v8 v9 σ => ∃ m_66, wbX12_sumOf_66 (wbX12_sumOf_6 post n) post m_66 v1 v2 v3 v4 v5 v6 v7 v8 v9 σ) post v1 v2 v3 v4 v5 v6 v7 σ) ∧
      (¬ v2 = (-1) →
        ((¬ (v7 / 4) = v2 →
          ∃ m_66, wbX12_sumOf_66 (wbX12_sumOf_6 post n) post m_66 v1 v2 v3 v4 v5 v6 v7 0 0 σ) ∧
        ((v7 / 4) = v2 →
          wbX12_sumOf_26 (fun v1 v2 v3 v4 v5 v6 v7 v8 v9 σ => ∃ m_66, wbX12_sumOf_66 (wbX12_sumOf_6 post n) post m_66 v1 v2 v3 v4 v5 v6 v7 v8 v9 σ) post v1 v2 v3 v4 v5 v6 v7 σ))))))
def wpX12_sumOf  (a1 : Int32) (a2 : Int32) (a3 : Int32) (a4 : Int32) (a5 : Int32) (σ : St) (post : Int32 → St → Prop) : Prop :=
  ∃ m_6, wbX12_sumOf_6 post m_6 a1 a2 a3 a4 a5 0 0 σ
-- CradleNamesModel.given(IIIII)I
def wbX12_given_59   (post : Int32 → St → Prop) (v1 : Int32) (v2 : Int32) (v3 : Int32) (v4 : Int32) (v5 : Int32) (σ : St) : Prop :=
  wpX12_runsAll  σ (fun σ_2 =>
  wpX12_sumOf v1 v2 v3 v4 v5 σ_2 (fun r_3 σ_4 =>
  post r_3 σ_4))
def wpX12_given  (a1 : Int32) (a2 : Int32) (a3 : Int32) (a4 : Int32) (a5 : Int32) (σ : St) (post : Int32 → St → Prop) : Prop :=
  vp_in 0 9680 ∧ (
  wpX12_in a1 (-40) ((gI σ 76 (0 : Int32).toNatClampNeg) - 1) σ (fun r_1 σ_2 =>
  ((r_1 = 0 →
    post (-1) σ_2) ∧
  (¬ r_1 = 0 →
    wpX12_isPart a2 2 σ_2 (fun r_3 σ_4 =>
    ((r_3 = 0 →
      post (-1) σ_4) ∧
    (¬ r_3 = 0 →
      wpX12_isPart a3 1 σ_4 (fun r_5 σ_6 =>
      ((r_5 = 0 →
        post (-1) σ_6) ∧
      (¬ r_5 = 0 →
        wpX12_isPart a4 1 σ_6 (fun r_7 σ_8 =>
        ((r_7 = 0 →
          post (-1) σ_8) ∧
        (¬ r_7 = 0 →
          ((a5 = (-1) →
            wbX12_given_59 post a1 a2 a3 a4 a5 σ_8) ∧
          (¬ a5 = (-1) →
            wpX12_isName a5 σ_8 (fun r_9 σ_10 =>
            ((¬ r_9 = 0 →
              wbX12_given_59 post a1 a2 a3 a4 a5 σ_10) ∧
            (r_9 = 0 →
              post (-1) σ_10))))))))))))))))))
-- CradleNamesModel.unnamed(I)I
def wbX12_unnamed_23   (post : Int32 → St → Prop) : Nat → Int32 → Int32 → Int32 → St → Prop
  | 0, _, _, _, _ => False
  | n + 1, v1, v2, v3, σ =>
    vp_in 0 9680 ∧ (
    (((gI σ 76 (0 : Int32).toNatClampNeg) ≤ v3 →
      post v2 σ) ∧
    (¬ (gI σ 76 (0 : Int32).toNatClampNeg) ≤ v3 →
      ((v1 = (-1) →
        vp_in v3 61 ∧ (
        ∀ v2_1 : Int32, v2_1 = (v2 + (gI σ 103 v3.toNatClampNeg)) →
        ∀ v3_2 : Int32, v3_2 = v3 + 1 →
        wbX12_unnamed_23 post n v1 v2_1 v3_2 σ)) ∧
      (¬ v1 = (-1) →
        ((¬ v1 = v3 →
          ∀ v2_3 : Int32, v2_3 = (v2 + 0) →
          ∀ v3_4 : Int32, v3_4 = v3 + 1 →
          wbX12_unnamed_23 post n v1 v2_3 v3_4 σ) ∧
        (v1 = v3 →
          vp_in v3 61 ∧ (
          ∀ v2_5 : Int32, v2_5 = (v2 + (gI σ 103 v3.toNatClampNeg)) →
          ∀ v3_6 : Int32, v3_6 = v3 + 1 →
          wbX12_unnamed_23 post n v1 v2_5 v3_6 σ))))))))
def wbX12_unnamed_15   (post : Int32 → St → Prop) (v1 : Int32) (σ : St) : Prop :=
  wpX12_runsAll  σ (fun σ_2 =>
  ∃ m_23, wbX12_unnamed_23 post m_23 v1 0 0 σ_2)
def wpX12_unnamed  (a1 : Int32) (σ : St) (post : Int32 → St → Prop) : Prop :=
  ((a1 = (-1) →
    wbX12_unnamed_15 post a1 σ) ∧
  (¬ a1 = (-1) →
    wpX12_isGone a1 σ (fun r_1 σ_2 =>
    ((¬ r_1 = 0 →
      wbX12_unnamed_15 post a1 σ_2) ∧
    (r_1 = 0 →
      post (-1) σ_2)))))
-- CradleNamesModel.now(IIII)I
def wbX12_now_103   (post : Int32 → St → Prop) (v1 : Int32) (v2 : Int32) (v3 : Int32) (v4 : Int32) (v5 : Int32) (σ : St) : Prop :=
  wpX12_laysNow  σ (fun σ_2 =>
  ((¬ v5 = 0 →
    ∀ v6_3 : Int32, v6_3 = (v4 - v4 / 100 * 100) →
    vp_in 0 9680 ∧ (
    wpX12_words (gI σ_2 76 (0 : Int32).toNatClampNeg) v1 v2 v6_3 σ_2 (fun σ_5 =>
    ((200 ≤ v4 →
      vp_in 0 9680 ∧ (
      wpX12_may (gI σ_5 76 (0 : Int32).toNatClampNeg) v2 v3 v6_3 σ_5 (fun r_6 σ_7 =>
      ((r_6 = 0 →
        post 0 σ_7) ∧
      (¬ r_6 = 0 →
        post 1 σ_7))))) ∧
    (¬ 200 ≤ v4 →
      vp_in (7 + v2) 9680 ∧ (
      wpX12_worthOf (gI σ_5 76 (7 + v2).toNatClampNeg) σ_5 (fun r_8 σ_9 =>
      post r_8.toInt32 σ_9))))))) ∧
  (v5 = 0 →
    vp_in 0 9680 ∧ (
    wpX12_chooses (gI σ_2 76 (0 : Int32).toNatClampNeg) v1 v2 v3 σ_2 (fun σ_11 =>
    ((¬ v4 = 0 →
      ((¬ (gI σ_11 75 56) = (-1) →
        post ((gL σ_11 75 57).toInt32) σ_11) ∧
      ((gI σ_11 75 56) = (-1) →
        post (-2000000000) σ_11))) ∧
    (v4 = 0 →
      post (gI σ_11 75 56) σ_11)))))))
def wbX12_now_82   (post : Int32 → St → Prop) (v1 : Int32) (v2 : Int32) (v3 : Int32) (v4 : Int32) (s0 : Int32) (σ : St) : Prop :=
  wpX12_in v4 0 1 σ (fun r_1 σ_2 =>
  ((¬ r_1 = 0 →
    wbX12_now_103 post v1 v2 v3 v4 s0 σ_2) ∧
  (r_1 = 0 →
    ((¬ s0 = 0 →
      wbX12_now_103 post v1 v2 v3 v4 s0 σ_2) ∧
    (s0 = 0 →
      post (-2000000000) σ_2)))))
def wpX12_now  (a1 : Int32) (a2 : Int32) (a3 : Int32) (a4 : Int32) (σ : St) (post : Int32 → St → Prop) : Prop :=
  wpX12_isCradle a1 a2 a3 σ (fun r_1 σ_2 =>
  ((r_1 = 0 →
    post (-2000000000) σ_2) ∧
  (¬ r_1 = 0 →
    vp_in 0 9680 ∧ (
    (((gI σ_2 76 (0 : Int32).toNatClampNeg) = 61 →
      post (-2000000000) σ_2) ∧
    (¬ (gI σ_2 76 (0 : Int32).toNatClampNeg) = 61 →
      vp_in (7 + a2) 9680 ∧ (
      ((¬ (gI σ_2 76 (7 + a2).toNatClampNeg) = (-1) →
        vp_in 1 9680 ∧ (
        wpX12_in a4 100 (99 + (gI σ_2 76 (1 : Int32).toNatClampNeg)) σ_2 (fun r_3 σ_4 =>
        ((¬ r_3 = 0 →
          wbX12_now_82 post a1 a2 a3 a4 1 σ_4) ∧
        (r_3 = 0 →
          vp_in 1 9680 ∧ (
          wpX12_in a4 200 (199 + (gI σ_4 76 (1 : Int32).toNatClampNeg)) σ_4 (fun r_5 σ_6 =>
          ((r_5 = 0 →
            wbX12_now_82 post a1 a2 a3 a4 0 σ_6) ∧
          (¬ r_5 = 0 →
            wbX12_now_82 post a1 a2 a3 a4 1 σ_6))))))))) ∧
      ((gI σ_2 76 (7 + a2).toNatClampNeg) = (-1) →
        post (-2000000000) σ_2)))))))))
-- CradleNamesModel.peak(I)I
def wbX12_peak_4   (post : Int32 → St → Prop) : Nat → Int32 → Int32 → Int32 → St → Prop
  | 0, _, _, _, _ => False
  | n + 1, v1, v2, v3, σ =>
    vp_in 0 9680 ∧ (
    (((gI σ 76 (0 : Int32).toNatClampNeg) ≤ v3 →
      post v2 σ) ∧
    (¬ (gI σ 76 (0 : Int32).toNatClampNeg) ≤ v3 →
      wpX12_all v3 v1 σ (fun r_1 σ_2 =>
      ((r_1 ≤ 0 →
        ∀ v3_3 : Int32, v3_3 = v3 + 1 →
        wbX12_peak_4 post n v1 v2 v3_3 σ_2) ∧
      (¬ r_1 ≤ 0 →
        ((v2 = (-1) →
          ∀ v3_4 : Int32, v3_4 = v3 + 1 →
          wbX12_peak_4 post n v1 v3 v3_4 σ_2) ∧
        (¬ v2 = (-1) →
          wpX12_all v3 v1 σ_2 (fun r_5 σ_6 =>
          wpX12_all v2 v1 σ_6 (fun r_7 σ_8 =>
          ((r_5 ≤ r_7 →
            ∀ v3_9 : Int32, v3_9 = v3 + 1 →
            wbX12_peak_4 post n v1 v2 v3_9 σ_8) ∧
          (¬ r_5 ≤ r_7 →
            ∀ v3_10 : Int32, v3_10 = v3 + 1 →
            wbX12_peak_4 post n v1 v3 v3_10 σ_8))))))))))))
def wpX12_peak  (a1 : Int32) (σ : St) (post : Int32 → St → Prop) : Prop :=
  ∃ m_4, wbX12_peak_4 post m_4 a1 (-1) 0 σ
-- CradleNamesModel.slope(III)I
def wbX12_slope_8   (post : Int32 → St → Prop) : Nat → Int32 → Int32 → Int32 → Int32 → Int32 → St → Prop
  | 0, _, _, _, _, _, _ => False
  | n + 1, v1, v2, v3, v4, v5, σ =>
    ((v4 < 0 →
      post v5 σ) ∧
    (¬ v4 < 0 →
      vp_in 0 9680 ∧ (
      (((gI σ 76 (0 : Int32).toNatClampNeg) ≤ v4 →
        post v5 σ) ∧
      (¬ (gI σ 76 (0 : Int32).toNatClampNeg) ≤ v4 →
        wpX12_all v4 v1 σ (fun r_1 σ_2 =>
        wpX12_all v2 v1 σ_2 (fun r_3 σ_4 =>
        (((2 * r_1) < r_3 →
          post v5 σ_4) ∧
        (¬ (2 * r_1) < r_3 →
          ∀ v5_5 : Int32, v5_5 = v5 + 1 →
          ∀ v4_6 : Int32, v4_6 = (v4 + v3) →
          wbX12_slope_8 post n v1 v2 v3 v4_6 v5_5 σ_4)))))))))
def wpX12_slope  (a1 : Int32) (a2 : Int32) (a3 : Int32) (σ : St) (post : Int32 → St → Prop) : Prop :=
  ∀ v4_1 : Int32, v4_1 = (a2 + a3) →
  ∃ m_8, wbX12_slope_8 post m_8 a1 a2 a3 v4_1 0 σ
-- CradleNamesModel.shape(II)I
def wbX12_shape_69   (post : Int32 → St → Prop) (s0 : Int32) (s1 : Int32) (s2 : Int32) (σ : St) : Prop :=
  wpX12_slope s2 s1 s0 σ (fun r_1 σ_2 =>
  post r_1 σ_2)
def wpX12_shape  (a1 : Int32) (a2 : Int32) (σ : St) (post : Int32 → St → Prop) : Prop :=
  wpX12_isName a1 σ (fun r_1 σ_2 =>
  ((r_1 = 0 →
    post (-1) σ_2) ∧
  (¬ r_1 = 0 →
    wpX12_in a2 0 3 σ_2 (fun r_3 σ_4 =>
    ((¬ r_3 = 0 →
      wpX12_runsAll  σ_4 (fun σ_6 =>
      wpX12_peak a1 σ_6 (fun r_7 σ_8 =>
      ((r_7 = (-1) →
        post r_7 σ_8) ∧
      (¬ r_7 = (-1) →
        ((¬ a2 = 0 →
          ((¬ a2 = 1 →
            ((¬ a2 = 2 →
              wbX12_shape_69 post 1 r_7 a1 σ_8) ∧
            (a2 = 2 →
              wbX12_shape_69 post (-1) r_7 a1 σ_8))) ∧
          (a2 = 1 →
            wpX12_all r_7 a1 σ_8 (fun r_9 σ_10 =>
            post r_9 σ_10)))) ∧
        (a2 = 0 →
          post r_7 σ_8))))))) ∧
    (r_3 = 0 →
      post (-1) σ_4))))))
-- CradleNamesModel.shapes(I)I
def wbX12_shapes_142  (K157 : Int32 → Int32 → Int32 → Int32 → Int32 → Int32 → St → Prop) (post : Int32 → St → Prop) (v1 : Int32) (v2 : Int32) (v3 : Int32) (v4 : Int32) (v7 : Int32) (v8 : Int32) (v9 : Int32) (σ : St) : Prop :=
  ((0 ≤ v7 →
    K157 v1 v2 v3 v4 v9 0 σ) ∧
  (¬ 0 ≤ v7 →
    ((v8 ≤ 0 →
      K157 v1 v2 v3 v4 v9 0 σ) ∧
    (¬ v8 ≤ 0 →
      K157 v1 v2 v3 v4 v9 1 σ))))
def wbX12_shapes_157  (K32 : Int32 → Int32 → Int32 → Int32 → St → Prop) (post : Int32 → St → Prop) (v1 : Int32) (v2 : Int32) (v3 : Int32) (v4 : Int32) (v9 : Int32) (s0 : Int32) (σ : St) : Prop :=
  ((¬ v1 = 0 →
    ((s0 = 0 →
      ∀ v2_1 : Int32, v2_1 = (v2 + 0) →
      ∀ v4_2 : Int32, v4_2 = v4 + 1 →
      K32 v1 v2_1 v3 v4_2 σ) ∧
    (¬ s0 = 0 →
      ∀ v2_3 : Int32, v2_3 = (v2 + 1) →
      ∀ v4_4 : Int32, v4_4 = v4 + 1 →
      K32 v1 v2_3 v3 v4_4 σ))) ∧
  (v1 = 0 →
    ((v9 = 0 →
      ∀ v2_5 : Int32, v2_5 = (v2 + 0) →
      ∀ v4_6 : Int32, v4_6 = v4 + 1 →
      K32 v1 v2_5 v3 v4_6 σ) ∧
    (¬ v9 = 0 →
      ∀ v2_7 : Int32, v2_7 = (v2 + 1) →
      ∀ v4_8 : Int32, v4_8 = v4 + 1 →
      K32 v1 v2_7 v3 v4_8 σ))))
def wbX12_shapes_115  (K130 : Int32 → Int32 → Int32 → Int32 → Int32 → Int32 → Int32 → St → Prop) (post : Int32 → St → Prop) (v1 : Int32) (v2 : Int32) (v3 : Int32) (v4 : Int32) (v7 : Int32) (v8 : Int32) (σ : St) : Prop :=
  ((0 ≤ v7 →
    K130 v1 v2 v3 v4 v7 v8 0 σ) ∧
  (¬ 0 ≤ v7 →
    ((0 ≤ v8 →
      K130 v1 v2 v3 v4 v7 v8 0 σ) ∧
    (¬ 0 ≤ v8 →
      K130 v1 v2 v3 v4 v7 v8 1 σ))))
def wbX12_shapes_130  (K32 : Int32 → Int32 → Int32 → Int32 → St → Prop) (post : Int32 → St → Prop) (v1 : Int32) (v2 : Int32) (v3 : Int32) (v4 : Int32) (v7 : Int32) (v8 : Int32) (s0 : Int32) (σ : St) : Prop :=
  ((v7 ≤ 0 →
    wbX12_shapes_142 (wbX12_shapes_157 K32 post) post v1 v2 v3 v4 v7 v8 s0 σ) ∧
  (¬ v7 ≤ 0 →
    ((v8 < 0 →
      wbX12_shapes_157 K32 post v1 v2 v3 v4 s0 1 σ) ∧
    (¬ v8 < 0 →
      wbX12_shapes_142 (wbX12_shapes_157 K32 post) post v1 v2 v3 v4 v7 v8 s0 σ))))
def wbX12_shapes_32  (K19 : Int32 → Int32 → Int32 → St → Prop) (post : Int32 → St → Prop) : Nat → Int32 → Int32 → Int32 → Int32 → St → Prop
  | 0, _, _, _, _, _ => False
  | n + 1, v1, v2, v3, v4, σ =>
    ((v3 ≤ v4 →
      ∀ v3_1 : Int32, v3_1 = v3 + 1 →
      K19 v1 v2 v3_1 σ) ∧
    (¬ v3 ≤ v4 →
      wpX12_peak v3 σ (fun r_2 σ_3 =>
      wpX12_peak v4 σ_3 (fun r_4 σ_5 =>
      ((r_2 = (-1) →
        ∀ v4_6 : Int32, v4_6 = v4 + 1 →
        wbX12_shapes_32 K19 post n v1 v2 v3 v4_6 σ_5) ∧
      (¬ r_2 = (-1) →
        ((r_4 = (-1) →
          ∀ v4_7 : Int32, v4_7 = v4 + 1 →
          wbX12_shapes_32 K19 post n v1 v2 v3 v4_7 σ_5) ∧
        (¬ r_4 = (-1) →
          wpX12_slope v3 r_2 (-1) σ_5 (fun r_8 σ_9 =>
          wpX12_slope v4 r_4 (-1) σ_9 (fun r_10 σ_11 =>
          ∀ v7_12 : Int32, v7_12 = (r_8 - r_10) →
          wpX12_slope v3 r_2 1 σ_11 (fun r_13 σ_14 =>
          wpX12_slope v4 r_4 1 σ_14 (fun r_15 σ_16 =>
          ∀ v8_17 : Int32, v8_17 = (r_13 - r_15) →
          ((v7_12 ≤ 0 →
            wbX12_shapes_115 (wbX12_shapes_130 (wbX12_shapes_32 K19 post n) post) post v1 v2 v3 v4 v7_12 v8_17 σ_16) ∧
          (¬ v7_12 ≤ 0 →
            ((0 < v8_17 →
              wbX12_shapes_130 (wbX12_shapes_32 K19 post n) post v1 v2 v3 v4 v7_12 v8_17 1 σ_16) ∧
            (¬ 0 < v8_17 →
              wbX12_shapes_115 (wbX12_shapes_130 (wbX12_shapes_32 K19 post n) post) post v1 v2 v3 v4 v7_12 v8_17 σ_16))))))))))))))))
def wbX12_shapes_19   (post : Int32 → St → Prop) : Nat → Int32 → Int32 → Int32 → St → Prop
  | 0, _, _, _, _ => False
  | n + 1, v1, v2, v3, σ =>
    vp_in 1 9680 ∧ (
    (((gI σ 76 (1 : Int32).toNatClampNeg) ≤ v3 →
      post v2 σ) ∧
    (¬ (gI σ 76 (1 : Int32).toNatClampNeg) ≤ v3 →
      ∃ m_32, wbX12_shapes_32 (wbX12_shapes_19 post n) post m_32 v1 v2 v3 0 σ)))
def wpX12_shapes  (a1 : Int32) (σ : St) (post : Int32 → St → Prop) : Prop :=
  wpX12_in a1 0 1 σ (fun r_1 σ_2 =>
  ((¬ r_1 = 0 →
    wpX12_runsAll  σ_2 (fun σ_4 =>
    ∃ m_19, wbX12_shapes_19 post m_19 a1 0 0 σ_4)) ∧
  (r_1 = 0 →
    post (-1) σ_2)))
-- CradleNamesModel.thousandths(III)I
def wbX12_thousandths_6   (post : Int32 → St → Prop) : Nat → Int32 → Int32 → Int32 → Int32 → Int32 → St → Prop
  | 0, _, _, _, _, _, _ => False
  | n + 1, v1, v2, v3, v4, v5, σ =>
    vp_in 1 9680 ∧ (
    (((gI σ 76 (1 : Int32).toNatClampNeg) ≤ v5 →
      ((¬ v4 = 0 →
        vp_in (((32 * (v1 + 40)) + (16 * v2)) + v3) 3232 ∧ (
        ¬ v4 = 0 ∧ (
        post ((1000 * (gI σ 101 (((32 * (v1 + 40)) + (16 * v2)) + v3).toNatClampNeg)) / v4) σ))) ∧
      (v4 = 0 →
        post 0 σ))) ∧
    (¬ (gI σ 76 (1 : Int32).toNatClampNeg) ≤ v5 →
      vp_in (((32 * (v1 + 40)) + (16 * v2)) + v5) 3232 ∧ (
      ∀ v4_1 : Int32, v4_1 = (v4 + (gI σ 101 (((32 * (v1 + 40)) + (16 * v2)) + v5).toNatClampNeg)) →
      ∀ v5_2 : Int32, v5_2 = v5 + 1 →
      wbX12_thousandths_6 post n v1 v2 v3 v4_1 v5_2 σ))))
def wpX12_thousandths  (a1 : Int32) (a2 : Int32) (a3 : Int32) (σ : St) (post : Int32 → St → Prop) : Prop :=
  ∃ m_6, wbX12_thousandths_6 post m_6 a1 a2 a3 0 0 σ
-- CradleNamesModel.lagOf(I)I
def wbX12_lagOf_29  (K20 : Int32 → Int32 → Int32 → Int32 → St → Prop) (post : Int32 → St → Prop) : Nat → Int32 → Int32 → Int32 → Int32 → Int32 → St → Prop
  | 0, _, _, _, _, _, _ => False
  | n + 1, v1, v2, v3, v4, v5, σ =>
    vp_in 1 9680 ∧ (
    (((gI σ 76 (1 : Int32).toNatClampNeg) ≤ v5 →
      ∀ v4_1 : Int32, v4_1 = v4 + 1 →
      K20 v1 v2 v3 v4_1 σ) ∧
    (¬ (gI σ 76 (1 : Int32).toNatClampNeg) ≤ v5 →
      wpX12_thousandths v4 0 v5 σ (fun r_2 σ_3 =>
      wpX12_thousandths (v4 + v1) 1 v5 σ_3 (fun r_4 σ_5 =>
      wpX12_away (r_2 - r_4) σ_5 (fun r_6 σ_7 =>
      ∀ v3_8 : Int32, v3_8 = (v3 + r_6) →
      ∀ v5_9 : Int32, v5_9 = v5 + 1 →
      wbX12_lagOf_29 K20 post n v1 v2 v3_8 v4 v5_9 σ_7))))))
def wbX12_lagOf_20   (post : Int32 → St → Prop) : Nat → Int32 → Int32 → Int32 → Int32 → St → Prop
  | 0, _, _, _, _, _ => False
  | n + 1, v1, v2, v3, v4, σ =>
    ((v2 ≤ v4 →
      ¬ v2 = 0 ∧ (
      post (v3 / v2) σ)) ∧
    (¬ v2 ≤ v4 →
      ∃ m_29, wbX12_lagOf_29 (wbX12_lagOf_20 post n) post m_29 v1 v2 v3 v4 0 σ))
def wpX12_lagOf  (a1 : Int32) (σ : St) (post : Int32 → St → Prop) : Prop :=
  vp_in 0 9680 ∧ (
  ∀ v2_1 : Int32, v2_1 = ((gI σ 76 (0 : Int32).toNatClampNeg) - a1) →
  ((0 < v2_1 →
    ∃ m_20, wbX12_lagOf_20 post m_20 a1 v2_1 0 0 σ) ∧
  (¬ 0 < v2_1 →
    post (-1) σ)))
-- CradleNamesModel.lag(I)I
def wbX12_lag_54   (post : Int32 → St → Prop) : Nat → Int32 → Int32 → Int32 → St → Prop
  | 0, _, _, _, _ => False
  | n + 1, v1, v2, v3, σ =>
    ((20 < v3 →
      ((¬ v1 = 0 →
        wpX12_lagOf v2 σ (fun r_1 σ_2 =>
        post r_1 σ_2)) ∧
      (v1 = 0 →
        post v2 σ))) ∧
    (¬ 20 < v3 →
      wpX12_lagOf v3 σ (fun r_3 σ_4 =>
      ((r_3 = (-1) →
        ∀ v3_5 : Int32, v3_5 = v3 + 1 →
        wbX12_lag_54 post n v1 v2 v3_5 σ_4) ∧
      (¬ r_3 = (-1) →
        wpX12_lagOf v2 σ_4 (fun r_6 σ_7 =>
        ((r_6 ≤ r_3 →
          ∀ v3_8 : Int32, v3_8 = v3 + 1 →
          wbX12_lag_54 post n v1 v2 v3_8 σ_7) ∧
        (¬ r_6 ≤ r_3 →
          ∀ v3_9 : Int32, v3_9 = v3 + 1 →
          wbX12_lag_54 post n v1 v3 v3_9 σ_7))))))))
def wbX12_lag_31   (post : Int32 → St → Prop) (v1 : Int32) (σ : St) : Prop :=
  wpX12_runsAll  σ (fun σ_2 =>
  ((v1 < 10 →
    ∃ m_54, wbX12_lag_54 post m_54 v1 0 1 σ_2) ∧
  (¬ v1 < 10 →
    wpX12_lagOf (v1 - 10) σ_2 (fun r_3 σ_4 =>
    post r_3 σ_4))))
def wpX12_lag  (a1 : Int32) (σ : St) (post : Int32 → St → Prop) : Prop :=
  vp_in 0 9680 ∧ (
  (((gI σ 76 (0 : Int32).toNatClampNeg) = 0 →
    post (-1) σ) ∧
  (¬ (gI σ 76 (0 : Int32).toNatClampNeg) = 0 →
    wpX12_in a1 0 1 σ (fun r_1 σ_2 =>
    ((¬ r_1 = 0 →
      wbX12_lag_31 post a1 σ_2) ∧
    (r_1 = 0 →
      wpX12_in a1 10 30 σ_2 (fun r_3 σ_4 =>
      ((¬ r_3 = 0 →
        wbX12_lag_31 post a1 σ_4) ∧
      (r_3 = 0 →
        post (-1) σ_4)))))))))
-- CradleNamesModel.together(II)I
def wbX12_together_27   (post : Int32 → St → Prop) : Nat → Int32 → Int32 → Int32 → Int32 → St → Prop
  | 0, _, _, _, _, _ => False
  | n + 1, v1, v2, v3, v4, σ =>
    vp_in 1 9680 ∧ (
    (((gI σ 76 (1 : Int32).toNatClampNeg) ≤ v4 →
      post v3 σ) ∧
    (¬ (gI σ 76 (1 : Int32).toNatClampNeg) ≤ v4 →
      vp_in v4 16 ∧ (
      wpX12_ending (gL σ 78 v4.toNatClampNeg) σ (fun r_1 σ_2 =>
      vp_in v1 16 ∧ (
      wpX12_ending (gL σ_2 78 v1.toNatClampNeg) σ_2 (fun r_3 σ_4 =>
      ((¬ r_1 = r_3 →
        ∀ v3_5 : Int32, v3_5 = (v3 + 0) →
        ∀ v4_6 : Int32, v4_6 = v4 + 1 →
        wbX12_together_27 post n v1 v2 v3_5 v4_6 σ_4) ∧
      (r_1 = r_3 →
        wpX12_all v2 v4 σ_4 (fun r_7 σ_8 =>
        wpX12_all (v2 - 1) v4 σ_8 (fun r_9 σ_10 =>
        ((r_7 ≤ r_9 →
          ∀ v3_11 : Int32, v3_11 = (v3 + 0) →
          ∀ v4_12 : Int32, v4_12 = v4 + 1 →
          wbX12_together_27 post n v1 v2 v3_11 v4_12 σ_10) ∧
        (¬ r_7 ≤ r_9 →
          ∀ v3_13 : Int32, v3_13 = (v3 + 1) →
          ∀ v4_14 : Int32, v4_14 = v4 + 1 →
          wbX12_together_27 post n v1 v2 v3_13 v4_14 σ_10)))))))))))))
def wpX12_together  (a1 : Int32) (a2 : Int32) (σ : St) (post : Int32 → St → Prop) : Prop :=
  wpX12_isName a1 σ (fun r_1 σ_2 =>
  ((r_1 = 0 →
    post (-1) σ_2) ∧
  (¬ r_1 = 0 →
    wpX12_isGone a2 σ_2 (fun r_3 σ_4 =>
    ((¬ r_3 = 0 →
      wpX12_runsAll  σ_4 (fun σ_6 =>
      ∃ m_27, wbX12_together_27 post m_27 a1 a2 0 0 σ_6)) ∧
    (r_3 = 0 →
      post (-1) σ_4))))))
-- CradleNamesModel.took(III)I
def wpX12_took  (a1 : Int32) (a2 : Int32) (a3 : Int32) (σ : St) (post : Int32 → St → Prop) : Prop :=
  vp_in 3 9680 ∧ (
  wpX12_in a1 0 ((gI σ 76 (3 : Int32).toNatClampNeg) - 1) σ (fun r_1 σ_2 =>
  ((r_1 = 0 →
    post (-1000) σ_2) ∧
  (¬ r_1 = 0 →
    wpX12_isName a2 σ_2 (fun r_3 σ_4 =>
    ((r_3 = 0 →
      post (-1000) σ_4) ∧
    (¬ r_3 = 0 →
      wpX12_isGone a3 σ_4 (fun r_5 σ_6 =>
      ((¬ r_5 = 0 →
        wpX12_runsAll  σ_6 (fun σ_8 =>
        wpX12_all a3 a2 σ_8 (fun r_9 σ_10 =>
        vp_in 0 9680 ∧ (
        wpX12_runs (gI σ_10 76 (0 : Int32).toNatClampNeg) a1 0 (-1) σ_10 (fun σ_12 =>
        wpX12_all a3 a2 σ_12 (fun r_13 σ_14 =>
        post (r_9 - r_13) σ_14)))))) ∧
      (r_5 = 0 →
        post (-1000) σ_6))))))))))
-- CradleNamesModel.sound(II)I
def wpX12_sound  (a1 : Int32) (a2 : Int32) (σ : St) (post : Int32 → St → Prop) : Prop :=
  wpX12_isName a1 σ (fun r_1 σ_2 =>
  ((r_1 = 0 →
    post (-1000) σ_2) ∧
  (¬ r_1 = 0 →
    wpX12_isGone a2 σ_2 (fun r_3 σ_4 =>
    ((¬ r_3 = 0 →
      wpX12_runsAll  σ_4 (fun σ_6 =>
      wpX12_all a2 a1 σ_6 (fun r_7 σ_8 =>
      vp_in 0 9680 ∧ (
      wpX12_runs (gI σ_8 76 (0 : Int32).toNatClampNeg) (-1) 1 (-1) σ_8 (fun σ_10 =>
      wpX12_all a2 a1 σ_10 (fun r_11 σ_12 =>
      post (r_7 - r_11) σ_12)))))) ∧
    (r_3 = 0 →
      post (-1000) σ_4))))))
-- CradleNamesModel.ofSex(III)I
def wpX12_ofSex  (a1 : Int32) (a2 : Int32) (a3 : Int32) (σ : St) (post : Int32 → St → Prop) : Prop :=
  vp_in (((32 * (a1 + 40)) + (16 * a2)) + a3) 3232 ∧ (
  post (gI σ 102 (((32 * (a1 + 40)) + (16 * a2)) + a3).toNatClampNeg) σ)
-- CradleNamesModel.crossed(II)I
def wbX12_crossed_126  (K35 : Int32 → Int32 → Int32 → Int32 → Int32 → Int32 → St → Prop) (post : Int32 → St → Prop) (v1 : Int32) (v2 : Int32) (v3 : Int32) (v4 : Int32) (v5 : Int32) (v6 : Int32) (v7 : Int32) (σ : St) : Prop :=
  ((¬ v3 = 0 →
    ∀ v6_1 : Int32, v6_1 = v6 + 1 →
    K35 v1 v2 1 v4 v5 v6_1 σ) ∧
  (v3 = 0 →
    ((v7 = 0 →
      ∀ v6_2 : Int32, v6_2 = v6 + 1 →
      K35 v1 v2 0 v4 v5 v6_2 σ) ∧
    (¬ v7 = 0 →
      ∀ v6_3 : Int32, v6_3 = v6 + 1 →
      K35 v1 v2 1 v4 v5 v6_3 σ))))
def wbX12_crossed_70  (K35 : Int32 → Int32 → Int32 → Int32 → Int32 → Int32 → St → Prop) (post : Int32 → St → Prop) (v1 : Int32) (v2 : Int32) (v3 : Int32) (v4 : Int32) (v5 : Int32) (v6 : Int32) (s0 : Int32) (σ : St) : Prop :=
  ((v4 = (-1) →
    ((v6 < 0 →
      wbX12_crossed_126 K35 post v1 v2 v3 v4 v5 v6 s0 σ) ∧
    (¬ v6 < 0 →
      ((v3 = 0 →
        wbX12_crossed_126 K35 post v1 v2 v3 v4 v5 v6 s0 σ) ∧
      (¬ v3 = 0 →
        wpX12_all v6 v1 σ (fun r_1 σ_2 =>
        ((r_1 ≤ 0 →
          wbX12_crossed_126 K35 post v1 v2 v3 v4 v5 v6 s0 σ_2) ∧
        (¬ r_1 ≤ 0 →
          ((¬ s0 = 0 →
            wbX12_crossed_126 K35 post v1 v2 v3 v4 v5 v6 s0 σ_2) ∧
          (s0 = 0 →
            wbX12_crossed_126 K35 post v1 v2 v3 v6 v5 v6 s0 σ_2)))))))))) ∧
  (¬ v4 = (-1) →
    ((¬ v5 = 0 →
      wbX12_crossed_126 K35 post v1 v2 v3 v4 1 v6 s0 σ) ∧
    (v5 = 0 →
      ((s0 = 0 →
        wbX12_crossed_126 K35 post v1 v2 v3 v4 0 v6 s0 σ) ∧
      (¬ s0 = 0 →
        wbX12_crossed_126 K35 post v1 v2 v3 v4 1 v6 s0 σ))))))
def wbX12_crossed_35   (post : Int32 → St → Prop) : Nat → Int32 → Int32 → Int32 → Int32 → Int32 → Int32 → St → Prop
  | 0, _, _, _, _, _, _, _ => False
  | n + 1, v1, v2, v3, v4, v5, v6, σ =>
    vp_in 0 9680 ∧ (
    (((gI σ 76 (0 : Int32).toNatClampNeg) ≤ v6 →
      ((v4 = (-1) →
        post v4 σ) ∧
      (¬ v4 = (-1) →
        ((¬ v2 = 0 →
          ((v5 = 0 →
            post 0 σ) ∧
          (¬ v5 = 0 →
            post 1 σ))) ∧
        (v2 = 0 →
          post v4 σ))))) ∧
    (¬ (gI σ 76 (0 : Int32).toNatClampNeg) ≤ v6 →
      wpX12_ofSex v6 1 v1 σ (fun r_1 σ_2 =>
      wpX12_ofSex v6 0 v1 σ_2 (fun r_3 σ_4 =>
      ((r_1 ≤ r_3 →
        wbX12_crossed_70 (wbX12_crossed_35 post n) post v1 v2 v3 v4 v5 v6 0 σ_4) ∧
      (¬ r_1 ≤ r_3 →
        wbX12_crossed_70 (wbX12_crossed_35 post n) post v1 v2 v3 v4 v5 v6 1 σ_4)))))))
def wpX12_crossed  (a1 : Int32) (a2 : Int32) (σ : St) (post : Int32 → St → Prop) : Prop :=
  wpX12_isName a1 σ (fun r_1 σ_2 =>
  ((r_1 = 0 →
    post (-1) σ_2) ∧
  (¬ r_1 = 0 →
    wpX12_in a2 0 1 σ_2 (fun r_3 σ_4 =>
    ((¬ r_3 = 0 →
      wpX12_runsAll  σ_4 (fun σ_6 =>
      ∃ m_35, wbX12_crossed_35 post m_35 a1 a2 0 (-1) 0 (-40) σ_6)) ∧
    (r_3 = 0 →
      post (-1) σ_4))))))
-- CradleNamesModel.returned(III)I
def wbX12_returned_41   (post : Int32 → St → Prop) : Nat → Int32 → Int32 → Int32 → Int32 → Int32 → St → Prop
  | 0, _, _, _, _, _, _ => False
  | n + 1, v1, v2, v3, v4, v5, σ =>
    vp_in 0 9680 ∧ (
    (((gI σ 76 (0 : Int32).toNatClampNeg) ≤ v5 →
      post (-1) σ) ∧
    (¬ (gI σ 76 (0 : Int32).toNatClampNeg) ≤ v5 →
      wpX12_all v5 v1 σ (fun r_1 σ_2 =>
      ((r_1 ≤ 0 →
        ∀ v5_3 : Int32, v5_3 = v5 + 1 →
        wbX12_returned_41 post n v1 v2 v3 v4 v5_3 σ_2) ∧
      (¬ r_1 ≤ 0 →
        ∀ v6_4 : Int32, v6_4 = ((v5 - v4) - 1) →
        ((v5 < 0 →
          ∀ v5_5 : Int32, v5_5 = v5 + 1 →
          wbX12_returned_41 post n v1 v2 v3 v5 v5_5 σ_2) ∧
        (¬ v5 < 0 →
          ((v4 ≤ (-100) →
            ∀ v5_6 : Int32, v5_6 = v5 + 1 →
            wbX12_returned_41 post n v1 v2 v3 v5 v5_6 σ_2) ∧
          (¬ v4 ≤ (-100) →
            ((v6_4 < v2 →
              ∀ v5_7 : Int32, v5_7 = v5 + 1 →
              wbX12_returned_41 post n v1 v2 v3 v5 v5_7 σ_2) ∧
            (¬ v6_4 < v2 →
              ((¬ v3 = 0 →
                ((¬ v3 = 1 →
                  wpX12_living v1 (v5 - 1) σ_2 (fun r_8 σ_9 =>
                  post r_8 σ_9)) ∧
                (v3 = 1 →
                  post v6_4 σ_2))) ∧
              (v3 = 0 →
                post v5 σ_2))))))))))))))
def wpX12_returned  (a1 : Int32) (a2 : Int32) (a3 : Int32) (σ : St) (post : Int32 → St → Prop) : Prop :=
  wpX12_isName a1 σ (fun r_1 σ_2 =>
  ((r_1 = 0 →
    post (-1) σ_2) ∧
  (¬ r_1 = 0 →
    wpX12_in a2 1 60 σ_2 (fun r_3 σ_4 =>
    ((r_3 = 0 →
      post (-1) σ_4) ∧
    (¬ r_3 = 0 →
      wpX12_in a3 0 2 σ_4 (fun r_5 σ_6 =>
      ((¬ r_5 = 0 →
        wpX12_runsAll  σ_6 (fun σ_8 =>
        ∃ m_41, wbX12_returned_41 post m_41 a1 a2 a3 (-100) (-40) σ_8)) ∧
      (r_5 = 0 →
        post (-1) σ_6)))))))))
-- CradleNamesModel.isApart(I)Z
def wbX12_isApart_21  (K4 : Int32 → Int32 → Int32 → St → Prop) (post : Int32 → St → Prop) : Nat → Int32 → Int32 → Int32 → Int32 → St → Prop
  | 0, _, _, _, _, _ => False
  | n + 1, v1, v2, v3, v4, σ =>
    ((v3 ≤ v4 →
      ∀ v3_1 : Int32, v3_1 = v3 + 1 →
      K4 v1 v2 v3_1 σ) ∧
    (¬ v3 ≤ v4 →
      ((v2 = 0 →
        ∀ v3_2 : Int32, v3_2 = v3 + 1 →
        K4 v1 v2 v3_2 σ) ∧
      (¬ v2 = 0 →
        ((((v1 >>> (v3 &&& 31)) &&& 1) = 0 →
          ∀ v4_3 : Int32, v4_3 = v4 + 1 →
          wbX12_isApart_21 K4 post n v1 1 v3 v4_3 σ) ∧
        (¬ ((v1 >>> (v3 &&& 31)) &&& 1) = 0 →
          ((((v1 >>> (v4 &&& 31)) &&& 1) = 0 →
            ∀ v4_4 : Int32, v4_4 = v4 + 1 →
            wbX12_isApart_21 K4 post n v1 1 v3 v4_4 σ) ∧
          (¬ ((v1 >>> (v4 &&& 31)) &&& 1) = 0 →
            vp_in v3 16 ∧ (
            vp_in v4 16 ∧ (
            wpX12_areAlike (gL σ 78 v3.toNatClampNeg) (gL σ 78 v4.toNatClampNeg) σ (fun r_5 σ_6 =>
            ((¬ r_5 = 0 →
              ∀ v4_7 : Int32, v4_7 = v4 + 1 →
              wbX12_isApart_21 K4 post n v1 0 v3 v4_7 σ_6) ∧
            (r_5 = 0 →
              ∀ v4_8 : Int32, v4_8 = v4 + 1 →
              wbX12_isApart_21 K4 post n v1 1 v3 v4_8 σ_6)))))))))))))
def wbX12_isApart_4   (post : Int32 → St → Prop) : Nat → Int32 → Int32 → Int32 → St → Prop
  | 0, _, _, _, _ => False
  | n + 1, v1, v2, v3, σ =>
    vp_in 1 9680 ∧ (
    (((gI σ 76 (1 : Int32).toNatClampNeg) ≤ v3 →
      (v2 = 0 ∨ v2 = 1) ∧ post v2 σ) ∧
    (¬ (gI σ 76 (1 : Int32).toNatClampNeg) ≤ v3 →
      ((v2 = 0 →
        (v2 = 0 ∨ v2 = 1) ∧ post v2 σ) ∧
      (¬ v2 = 0 →
        ∃ m_21, wbX12_isApart_21 (wbX12_isApart_4 post n) post m_21 v1 v2 v3 0 σ)))))
def wpX12_isApart  (a1 : Int32) (σ : St) (post : Int32 → St → Prop) : Prop :=
  ∃ m_4, wbX12_isApart_4 post m_4 a1 1 0 σ
-- CradleNamesModel.apart(IZ)J
def wbX12_apart_77  (K13 : Int32 → Int32 → Int64 → Int32 → Int32 → St → Prop) (post : Int64 → St → Prop) (v1 : Int32) (v2 : Int32) (v3 : Int64) (v5 : Int32) (v6 : Int32) (v7 : Int64) (v9 : Int32) (σ : St) : Prop :=
  ((¬ v9 = v1 →
    ∀ v6_1 : Int32, v6_1 = v6 + 1 →
    K13 v1 v2 v3 v5 v6_1 σ) ∧
  (v9 = v1 →
    ((v7 ≤ 0 →
      ∀ v6_2 : Int32, v6_2 = v6 + 1 →
      K13 v1 v2 v3 v5 v6_2 σ) ∧
    (¬ v7 ≤ 0 →
      ((v2 = 0 →
        ∀ v3_3 : Int64, v3_3 = (v3 + v7) →
        ∀ v6_4 : Int32, v6_4 = v6 + 1 →
        K13 v1 v2 v3_3 v5 v6_4 σ) ∧
      (¬ v2 = 0 →
        wpX12_isApart v6 σ (fun r_5 σ_6 =>
        ((r_5 = 0 →
          ∀ v6_7 : Int32, v6_7 = v6 + 1 →
          K13 v1 v2 v3 v5 v6_7 σ_6) ∧
        (¬ r_5 = 0 →
          ∀ v3_8 : Int64, v3_8 = (v3 + v7) →
          ∀ v6_9 : Int32, v6_9 = v6 + 1 →
          K13 v1 v2 v3_8 v5 v6_9 σ_6)))))))))
def wbX12_apart_31  (K13 : Int32 → Int32 → Int64 → Int32 → Int32 → St → Prop) (post : Int64 → St → Prop) : Nat → Int32 → Int32 → Int64 → Int32 → Int32 → Int64 → Int32 → Int32 → St → Prop
  | 0, _, _, _, _, _, _, _, _, _ => False
  | n + 1, v1, v2, v3, v5, v6, v7, v9, v10, σ =>
    ((v5 ≤ v10 →
      wbX12_apart_77 K13 post v1 v2 v3 v5 v6 v7 v9 σ) ∧
    (¬ v5 ≤ v10 →
      ((v1 < v9 →
        wbX12_apart_77 K13 post v1 v2 v3 v5 v6 v7 v9 σ) ∧
      (¬ v1 < v9 →
        ((¬ ((v6 >>> (v10 &&& 31)) &&& 1) = 1 →
          ∀ v10_1 : Int32, v10_1 = v10 + 1 →
          wbX12_apart_31 K13 post n v1 v2 v3 v5 v6 v7 v9 v10_1 σ) ∧
        (((v6 >>> (v10 &&& 31)) &&& 1) = 1 →
          vp_in v10 16 ∧ (
          ∀ v7_2 : Int64, v7_2 = (v7 * (gI σ 113 v10.toNatClampNeg).toInt64) →
          ∀ v9_3 : Int32, v9_3 = v9 + 1 →
          ∀ v10_4 : Int32, v10_4 = v10 + 1 →
          wbX12_apart_31 K13 post n v1 v2 v3 v5 v6 v7_2 v9_3 v10_4 σ)))))))
def wbX12_apart_13   (post : Int64 → St → Prop) : Nat → Int32 → Int32 → Int64 → Int32 → Int32 → St → Prop
  | 0, _, _, _, _, _, _ => False
  | n + 1, v1, v2, v3, v5, v6, σ =>
    (((1 <<< (v5 &&& 31)) ≤ v6 →
      post v3 σ) ∧
    (¬ (1 <<< (v5 &&& 31)) ≤ v6 →
      ∃ m_31, wbX12_apart_31 (wbX12_apart_13 post n) post m_31 v1 v2 v3 v5 v6 1 0 0 σ))
def wpX12_apart  (a1 : Int32) (a2 : Int32) (σ : St) (post : Int64 → St → Prop) : Prop :=
  vp_in 1 9680 ∧ (
  ∀ v5_1 : Int32, v5_1 = (gI σ 76 (1 : Int32).toNatClampNeg) →
  ∃ m_13, wbX12_apart_13 post m_13 a1 a2 0 v5_1 0 σ)
-- CradleNamesModel.room(IIIZ)I
def wbX12_room_109   (post : Int32 → St → Prop) : Nat → Int32 → Int32 → Int32 → Int64 → Int32 → St → Prop
  | 0, _, _, _, _, _, _ => False
  | n + 1, v3, v4, v5, v6, v8, σ =>
    ((v3 ≤ v8 →
      wpX12_apart v3 v4 σ (fun r_1 σ_2 =>
      ¬ v6 = 0 ∧ (
      post ((((v6 - r_1) * 1000000) / v6).toInt32) σ_2))) ∧
    (¬ v3 ≤ v8 →
      ¬ (v8 + 1).toInt64 = 0 ∧ (
      ∀ v6_3 : Int64, v6_3 = ((v6 * (v5 - v8).toInt64) / (v8 + 1).toInt64) →
      ∀ v8_4 : Int32, v8_4 = v8 + 1 →
      wbX12_room_109 post n v3 v4 v5 v6_3 v8_4 σ)))
def wbX12_room_39   (post : Int32 → St → Prop) : Nat → Int32 → Int32 → Int32 → Int32 → Int32 → Int32 → St → Prop
  | 0, _, _, _, _, _, _, _ => False
  | n + 1, v1, v2, v3, v4, v5, v6, σ =>
    vp_in 1 9680 ∧ (
    (((gI σ 76 (1 : Int32).toNatClampNeg) ≤ v6 →
      ((v3 ≤ v5 →
        ∃ m_109, wbX12_room_109 post m_109 v3 v4 v5 1 0 σ) ∧
      (¬ v3 ≤ v5 →
        post (-1) σ))) ∧
    (¬ (gI σ 76 (1 : Int32).toNatClampNeg) ≤ v6 →
      vp_in (((48 * (v2 + 40)) + (16 * v1)) + v6) 4848 ∧ (
      vp_in v6 16 ∧ (
      ∀ σ_1 : St, σ_1 = sI σ 113 v6.toNatClampNeg (gI σ 100 (((48 * (v2 + 40)) + (16 * v1)) + v6).toNatClampNeg) →
      vp_in v6 16 ∧ (
      ∀ v5_2 : Int32, v5_2 = (v5 + (gI σ_1 113 v6.toNatClampNeg)) →
      ∀ v6_3 : Int32, v6_3 = v6 + 1 →
      wbX12_room_39 post n v1 v2 v3 v4 v5_2 v6_3 σ_1))))))
def wpX12_room  (a1 : Int32) (a2 : Int32) (a3 : Int32) (a4 : Int32) (σ : St) (post : Int32 → St → Prop) : Prop :=
  wpX12_in a1 0 2 σ (fun r_1 σ_2 =>
  ((r_1 = 0 →
    post (-1) σ_2) ∧
  (¬ r_1 = 0 →
    wpX12_isGone a2 σ_2 (fun r_3 σ_4 =>
    ((r_3 = 0 →
      post (-1) σ_4) ∧
    (¬ r_3 = 0 →
      wpX12_in a3 2 8 σ_4 (fun r_5 σ_6 =>
      ((¬ r_5 = 0 →
        wpX12_runsAll  σ_6 (fun σ_8 =>
        ∃ m_39, wbX12_room_39 post m_39 a1 a2 a3 a4 0 0 σ_8)) ∧
      (r_5 = 0 →
        post (-1) σ_6)))))))))
-- CradleNamesModel.best(IIII)I
def wbX12_best_173  (K133 : Int32 → Int32 → Int32 → Int32 → Int32 → Int32 → Int64 → Int32 → Int64 → Int32 → Int32 → St → Prop) (post : Int32 → St → Prop) (v1 : Int32) (v2 : Int32) (v3 : Int32) (v4 : Int32) (v5 : Int32) (v6 : Int32) (v7 : Int64) (v9 : Int32) (v10 : Int64) (v13 : Int32) (s0 : Int32) (σ : St) : Prop :=
  vp_in 0 9680 ∧ (
  vp_in (((48 * ((gI σ 76 (0 : Int32).toNatClampNeg) + 39)) + (16 * v1)) + v13) 4848 ∧ (
  ∀ v12_1 : Int32, v12_1 = (s0 + (gI σ 100 (((48 * ((gI σ 76 (0 : Int32).toNatClampNeg) + 39)) + (16 * v1)) + v13).toNatClampNeg)) →
  ∀ v13_2 : Int32, v13_2 = v13 + 1 →
  K133 v1 v2 v3 v4 v5 v6 v7 v9 v10 v12_1 v13_2 σ))
def wbX12_best_239  (K70 : Int32 → Int32 → Int32 → Int32 → Int32 → Int32 → Int64 → Int32 → St → Prop) (post : Int32 → St → Prop) (v1 : Int32) (v2 : Int32) (v3 : Int32) (v4 : Int32) (v9 : Int32) (v10 : Int64) (v12 : Int32) (σ : St) : Prop :=
  ∀ v9_1 : Int32, v9_1 = v9 + 1 →
  K70 v1 v2 v3 v4 v9 v12 v10 v9_1 σ
def wbX12_best_133  (K70 : Int32 → Int32 → Int32 → Int32 → Int32 → Int32 → Int64 → Int32 → St → Prop) (post : Int32 → St → Prop) : Nat → Int32 → Int32 → Int32 → Int32 → Int32 → Int32 → Int64 → Int32 → Int64 → Int32 → Int32 → St → Prop
  | 0, _, _, _, _, _, _, _, _, _, _, _, _ => False
  | n + 1, v1, v2, v3, v4, v5, v6, v7, v9, v10, v12, v13, σ =>
    vp_in 1 9680 ∧ (
    (((gI σ 76 (1 : Int32).toNatClampNeg) ≤ v13 →
      ((v5 = (-1) →
        wbX12_best_239 K70 post v1 v2 v3 v4 v9 v10 v12 σ) ∧
      (¬ v5 = (-1) →
        ((v12 < v6 →
          wbX12_best_239 K70 post v1 v2 v3 v4 v9 v10 v12 σ) ∧
        (¬ v12 < v6 →
          ((¬ v12 = v6 →
            ∀ v9_1 : Int32, v9_1 = v9 + 1 →
            K70 v1 v2 v3 v4 v5 v6 v7 v9_1 σ) ∧
          (v12 = v6 →
            ((v10 ≤ v7 →
              ∀ v9_2 : Int32, v9_2 = v9 + 1 →
              K70 v1 v2 v3 v4 v5 v6 v7 v9_2 σ) ∧
            (¬ v10 ≤ v7 →
              wbX12_best_239 K70 post v1 v2 v3 v4 v9 v10 v12 σ))))))))) ∧
    (¬ (gI σ 76 (1 : Int32).toNatClampNeg) ≤ v13 →
      ((v13 = v9 →
        wbX12_best_173 (wbX12_best_133 K70 post n) post v1 v2 v3 v4 v5 v6 v7 v9 v10 v13 v12 σ) ∧
      (¬ v13 = v9 →
        vp_in v13 16 ∧ (
        vp_in v9 16 ∧ (
        wpX12_areAlike (gL σ 78 v13.toNatClampNeg) (gL σ 78 v9.toNatClampNeg) σ (fun r_3 σ_4 =>
        ((r_3 = 0 →
          ∀ v12_5 : Int32, v12_5 = (v12 + 0) →
          ∀ v13_6 : Int32, v13_6 = v13 + 1 →
          wbX12_best_133 K70 post n v1 v2 v3 v4 v5 v6 v7 v9 v10 v12_5 v13_6 σ_4) ∧
        (¬ r_3 = 0 →
          wbX12_best_173 (wbX12_best_133 K70 post n) post v1 v2 v3 v4 v5 v6 v7 v9 v10 v13 v12 σ_4))))))))))
def wbX12_best_70   (post : Int32 → St → Prop) : Nat → Int32 → Int32 → Int32 → Int32 → Int32 → Int32 → Int64 → Int32 → St → Prop
  | 0, _, _, _, _, _, _, _, _, _ => False
  | n + 1, v1, v2, v3, v4, v5, v6, v7, v9, σ =>
    vp_in 1 9680 ∧ (
    (((gI σ 76 (1 : Int32).toNatClampNeg) ≤ v9 →
      ((v5 = (-1) →
        post v5 σ) ∧
      (¬ v5 = (-1) →
        ((¬ v4 = 0 →
          post v6 σ) ∧
        (v4 = 0 →
          post v5 σ))))) ∧
    (¬ (gI σ 76 (1 : Int32).toNatClampNeg) ≤ v9 →
      vp_in 0 9680 ∧ (
      wpX12_words (gI σ 76 (0 : Int32).toNatClampNeg) v1 v2 v9 σ (fun σ_2 =>
      vp_in 0 9680 ∧ (
      wpX12_may (gI σ_2 76 (0 : Int32).toNatClampNeg) v2 v3 v9 σ_2 (fun r_3 σ_4 =>
      ((r_3 = 0 →
        ∀ v9_5 : Int32, v9_5 = v9 + 1 →
        wbX12_best_70 post n v1 v2 v3 v4 v5 v6 v7 v9_5 σ_4) ∧
      (¬ r_3 = 0 →
        vp_in (7 + v2) 9680 ∧ (
        wpX12_worthOf (gI σ_4 76 (7 + v2).toNatClampNeg) σ_4 (fun r_6 σ_7 =>
        ∃ m_133, wbX12_best_133 (wbX12_best_70 post n) post m_133 v1 v2 v3 v4 v5 v6 v7 v9 r_6 0 0 σ_7)))))))))))
