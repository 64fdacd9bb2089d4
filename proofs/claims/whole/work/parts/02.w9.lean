def wbL_law_1198 (L : Nat) (xs : Nat → Int32) (K18 : Int32 → St → Prop) (v3 : Int32) (s0 : Int32) (s1 : Int32) (s2 : Int32) (s3 : Int32) (s5 : Int32) (σ : St) : Prop :=
  wpX12_room s3 s2 s1 s0 σ (fun r_1 σ_2 =>
  ((s5 = r_1 →
    ∀ v3_3 : Int32, v3_3 = v3 + 7 →
    K18 v3_3 σ_2) ∧
  (¬ s5 = r_1 →
    False)))
def wbL_law_1568 (L : Nat) (xs : Nat → Int32) (K18 : Int32 → St → Prop) (v3 : Int32) (s0 : Int32) (s1 : Int32) (s2 : Int32) (s3 : Int32) (s4 : Int32) (s6 : Int32) (σ : St) : Prop :=
  wpX12_span s4 s3 s2 s1 s0 σ (fun r_1 σ_2 =>
  ((s6 = r_1 →
    ∀ v3_3 : Int32, v3_3 = v3 + 7 →
    K18 v3_3 σ_2) ∧
  (¬ s6 = r_1 →
    False)))
def wbL_law_1166 (L : Nat) (xs : Nat → Int32) (K18 : Int32 → St → Prop) (v3 : Int32) (s0 : Int32) (s1 : Int32) (s2 : Int32) (s3 : Int32) (σ : St) : Prop :=
  wpX11_room s3 s2 s1 s0 σ (fun r_1 σ_2 =>
  vp_in (v3 + 1) L ∧ (
  vp_in (v3 + 2) L ∧ (
  vp_in (v3 + 3) L ∧ (
  vp_in (v3 + 4) L ∧ (
  (((xs (v3 + 4).toNatClampNeg) = 0 →
    wbL_law_1198 L xs K18 v3 0 (xs (v3 + 3).toNatClampNeg) (xs (v3 + 2).toNatClampNeg) (xs (v3 + 1).toNatClampNeg) r_1 σ_2) ∧
  (¬ (xs (v3 + 4).toNatClampNeg) = 0 →
    wbL_law_1198 L xs K18 v3 1 (xs (v3 + 3).toNatClampNeg) (xs (v3 + 2).toNatClampNeg) (xs (v3 + 1).toNatClampNeg) r_1 σ_2)))))))
def wbL_law_1531 (L : Nat) (xs : Nat → Int32) (K18 : Int32 → St → Prop) (v3 : Int32) (s0 : Int32) (s1 : Int32) (s2 : Int32) (s3 : Int32) (s4 : Int32) (σ : St) : Prop :=
  wpX11_span s4 s3 s2 s1 s0 σ (fun r_1 σ_2 =>
  vp_in (v3 + 1) L ∧ (
  vp_in (v3 + 2) L ∧ (
  vp_in (v3 + 3) L ∧ (
  vp_in (v3 + 4) L ∧ (
  vp_in (v3 + 5) L ∧ (
  (((xs (v3 + 5).toNatClampNeg) = 0 →
    wbL_law_1568 L xs K18 v3 0 (xs (v3 + 4).toNatClampNeg) (xs (v3 + 3).toNatClampNeg) (xs (v3 + 2).toNatClampNeg) (xs (v3 + 1).toNatClampNeg) r_1 σ_2) ∧
  (¬ (xs (v3 + 5).toNatClampNeg) = 0 →
    wbL_law_1568 L xs K18 v3 1 (xs (v3 + 4).toNatClampNeg) (xs (v3 + 3).toNatClampNeg) (xs (v3 + 2).toNatClampNeg) (xs (v3 + 1).toNatClampNeg) r_1 σ_2))))))))
def wbL_law_18 (L : Nat) (xs : Nat → Int32)  : Nat → Int32 → St → Prop
  | 0, _, _ => False
  | n + 1, v3, σ =>
    ((((Int32.ofNat L) - 7) < v3 →
      True) ∧
    (¬ ((Int32.ofNat L) - 7) < v3 →
      vp_in v3 L ∧ (
      ∀ x_1 : Int32, x_1 = ((xs v3.toNatClampNeg) &&& 63) →
      ((x_1 = 0 →
        vp_in (v3 + 1) L ∧ (
        vp_in (v3 + 2) L ∧ (
        vp_in (v3 + 3) L ∧ (
        wpX11_name (((xs (v3 + 1).toNatClampNeg).toInt64 <<< ((32 : Int32).toInt64 &&& 63)) ||| ((xs (v3 + 2).toNatClampNeg).toInt64 &&& 4294967295)) (xs (v3 + 3).toNatClampNeg) σ (fun r_2 σ_3 =>
        vp_in (v3 + 1) L ∧ (
        vp_in (v3 + 2) L ∧ (
        vp_in (v3 + 3) L ∧ (
        wpX12_name (((xs (v3 + 1).toNatClampNeg).toInt64 <<< ((32 : Int32).toInt64 &&& 63)) ||| ((xs (v3 + 2).toNatClampNeg).toInt64 &&& 4294967295)) (xs (v3 + 3).toNatClampNeg) σ_3 (fun r_4 σ_5 =>
        ((r_2 = r_4 →
          ∀ v3_6 : Int32, v3_6 = v3 + 7 →
          wbL_law_18 L xs n v3_6 σ_5) ∧
        (¬ r_2 = r_4 →
          False))))))))))) ∧
      (¬ x_1 = 0 →
      ((x_1 = 1 →
        vp_in (v3 + 1) L ∧ (
        vp_in (v3 + 2) L ∧ (
        wpX11_of (xs (v3 + 1).toNatClampNeg) (xs (v3 + 2).toNatClampNeg) σ (fun r_7 σ_8 =>
        vp_in (v3 + 1) L ∧ (
        vp_in (v3 + 2) L ∧ (
        wpX12_of (xs (v3 + 1).toNatClampNeg) (xs (v3 + 2).toNatClampNeg) σ_8 (fun r_9 σ_10 =>
        ((r_7 = r_9 →
          ∀ v3_11 : Int32, v3_11 = v3 + 7 →
          wbL_law_18 L xs n v3_11 σ_10) ∧
        (¬ r_7 = r_9 →
          False))))))))) ∧
      (¬ x_1 = 1 →
      ((x_1 = 2 →
        vp_in (v3 + 1) L ∧ (
        vp_in (v3 + 2) L ∧ (
        wpX11_alike (xs (v3 + 1).toNatClampNeg) (xs (v3 + 2).toNatClampNeg) σ (fun r_12 σ_13 =>
        vp_in (v3 + 1) L ∧ (
        vp_in (v3 + 2) L ∧ (
        wpX12_alike (xs (v3 + 1).toNatClampNeg) (xs (v3 + 2).toNatClampNeg) σ_13 (fun r_14 σ_15 =>
        ((r_12 = r_14 →
          ∀ v3_16 : Int32, v3_16 = v3 + 7 →
          wbL_law_18 L xs n v3_16 σ_15) ∧
        (¬ r_12 = r_14 →
          False))))))))) ∧
      (¬ x_1 = 2 →
      ((x_1 = 3 →
        vp_in (v3 + 1) L ∧ (
        vp_in (v3 + 2) L ∧ (
        vp_in (v3 + 3) L ∧ (
        vp_in (v3 + 4) L ∧ (
        vp_in (v3 + 5) L ∧ (
        vp_in (v3 + 6) L ∧ (
        wpX11_born (xs (v3 + 1).toNatClampNeg) (xs (v3 + 2).toNatClampNeg) (xs (v3 + 3).toNatClampNeg) (xs (v3 + 4).toNatClampNeg) (xs (v3 + 5).toNatClampNeg) (xs (v3 + 6).toNatClampNeg) σ (fun r_17 σ_18 =>
        vp_in (v3 + 1) L ∧ (
        vp_in (v3 + 2) L ∧ (
        vp_in (v3 + 3) L ∧ (
        vp_in (v3 + 4) L ∧ (
        vp_in (v3 + 5) L ∧ (
        vp_in (v3 + 6) L ∧ (
        wpX12_born (xs (v3 + 1).toNatClampNeg) (xs (v3 + 2).toNatClampNeg) (xs (v3 + 3).toNatClampNeg) (xs (v3 + 4).toNatClampNeg) (xs (v3 + 5).toNatClampNeg) (xs (v3 + 6).toNatClampNeg) σ_18 (fun r_19 σ_20 =>
        ((r_17 = r_19 →
          ∀ v3_21 : Int32, v3_21 = v3 + 7 →
          wbL_law_18 L xs n v3_21 σ_20) ∧
        (¬ r_17 = r_19 →
          False))))))))))))))))) ∧
      (¬ x_1 = 3 →
      ((x_1 = 4 →
        vp_in (v3 + 1) L ∧ (
        wpX11_life (xs (v3 + 1).toNatClampNeg) σ (fun r_22 σ_23 =>
        vp_in (v3 + 1) L ∧ (
        wpX12_life (xs (v3 + 1).toNatClampNeg) σ_23 (fun r_24 σ_25 =>
        ((r_22 = r_24 →
          ∀ v3_26 : Int32, v3_26 = v3 + 7 →
          wbL_law_18 L xs n v3_26 σ_25) ∧
        (¬ r_22 = r_24 →
          False))))))) ∧
      (¬ x_1 = 4 →
      ((x_1 = 5 →
        vp_in (v3 + 1) L ∧ (
        vp_in (v3 + 2) L ∧ (
        vp_in (v3 + 3) L ∧ (
        vp_in (v3 + 4) L ∧ (
        wpX11_cradles (xs (v3 + 1).toNatClampNeg) (xs (v3 + 2).toNatClampNeg) (xs (v3 + 3).toNatClampNeg) (xs (v3 + 4).toNatClampNeg) σ (fun r_27 σ_28 =>
        vp_in (v3 + 1) L ∧ (
        vp_in (v3 + 2) L ∧ (
        vp_in (v3 + 3) L ∧ (
        vp_in (v3 + 4) L ∧ (
        wpX12_cradles (xs (v3 + 1).toNatClampNeg) (xs (v3 + 2).toNatClampNeg) (xs (v3 + 3).toNatClampNeg) (xs (v3 + 4).toNatClampNeg) σ_28 (fun r_29 σ_30 =>
        ((r_27 = r_29 →
          ∀ v3_31 : Int32, v3_31 = v3 + 7 →
          wbL_law_18 L xs n v3_31 σ_30) ∧
        (¬ r_27 = r_29 →
          False))))))))))))) ∧
      (¬ x_1 = 5 →
      ((x_1 = 6 →
        vp_in (v3 + 1) L ∧ (
        vp_in (v3 + 2) L ∧ (
        wpX11_list (xs (v3 + 1).toNatClampNeg) (xs (v3 + 2).toNatClampNeg) σ (fun r_32 σ_33 =>
        vp_in (v3 + 1) L ∧ (
        vp_in (v3 + 2) L ∧ (
        wpX12_list (xs (v3 + 1).toNatClampNeg) (xs (v3 + 2).toNatClampNeg) σ_33 (fun r_34 σ_35 =>
        ((r_32 = r_34 →
          ∀ v3_36 : Int32, v3_36 = v3 + 7 →
          wbL_law_18 L xs n v3_36 σ_35) ∧
        (¬ r_32 = r_34 →
          False))))))))) ∧
      (¬ x_1 = 6 →
      ((x_1 = 7 →
        vp_in (v3 + 1) L ∧ (
        vp_in (v3 + 2) L ∧ (
        vp_in (v3 + 3) L ∧ (
        wpX11_film (xs (v3 + 1).toNatClampNeg) (xs (v3 + 2).toNatClampNeg) (xs (v3 + 3).toNatClampNeg) σ (fun r_37 σ_38 =>
        vp_in (v3 + 1) L ∧ (
        vp_in (v3 + 2) L ∧ (
        vp_in (v3 + 3) L ∧ (
        wpX12_film (xs (v3 + 1).toNatClampNeg) (xs (v3 + 2).toNatClampNeg) (xs (v3 + 3).toNatClampNeg) σ_38 (fun r_39 σ_40 =>
        ((r_37 = r_39 →
          ∀ v3_41 : Int32, v3_41 = v3 + 7 →
          wbL_law_18 L xs n v3_41 σ_40) ∧
        (¬ r_37 = r_39 →
          False))))))))))) ∧
      (¬ x_1 = 7 →
      ((x_1 = 8 →
        vp_in (v3 + 1) L ∧ (
        vp_in (v3 + 2) L ∧ (
        vp_in (v3 + 3) L ∧ (
        vp_in (v3 + 4) L ∧ (
        vp_in (v3 + 5) L ∧ (
        wpX11_feed (xs (v3 + 1).toNatClampNeg) (xs (v3 + 2).toNatClampNeg) (xs (v3 + 3).toNatClampNeg) (xs (v3 + 4).toNatClampNeg) (xs (v3 + 5).toNatClampNeg) σ (fun r_42 σ_43 =>
        vp_in (v3 + 1) L ∧ (
        vp_in (v3 + 2) L ∧ (
        vp_in (v3 + 3) L ∧ (
        vp_in (v3 + 4) L ∧ (
        vp_in (v3 + 5) L ∧ (
        wpX12_feed (xs (v3 + 1).toNatClampNeg) (xs (v3 + 2).toNatClampNeg) (xs (v3 + 3).toNatClampNeg) (xs (v3 + 4).toNatClampNeg) (xs (v3 + 5).toNatClampNeg) σ_43 (fun r_44 σ_45 =>
        ((r_42 = r_44 →
          ∀ v3_46 : Int32, v3_46 = v3 + 7 →
          wbL_law_18 L xs n v3_46 σ_45) ∧
        (¬ r_42 = r_44 →
          False))))))))))))))) ∧
      (¬ x_1 = 8 →
      ((x_1 = 9 →
        vp_in (v3 + 1) L ∧ (
        wpX11_end (xs (v3 + 1).toNatClampNeg) σ (fun r_47 σ_48 =>
        vp_in (v3 + 1) L ∧ (
        wpX12_end (xs (v3 + 1).toNatClampNeg) σ_48 (fun r_49 σ_50 =>
        ((r_47 = r_49 →
          ∀ v3_51 : Int32, v3_51 = v3 + 7 →
          wbL_law_18 L xs n v3_51 σ_50) ∧
        (¬ r_47 = r_49 →
          False))))))) ∧
      (¬ x_1 = 9 →
      ((x_1 = 10 →
        wpX11_taste  σ (fun r_52 σ_53 =>
        wpX12_taste  σ_53 (fun r_54 σ_55 =>
        ((r_52 = r_54 →
          ∀ v3_56 : Int32, v3_56 = v3 + 7 →
          wbL_law_18 L xs n v3_56 σ_55) ∧
        (¬ r_52 = r_54 →
          False))))) ∧
      (¬ x_1 = 10 →
      ((x_1 = 11 →
        vp_in (v3 + 1) L ∧ (
        wpX11_fault (xs (v3 + 1).toNatClampNeg) σ (fun r_57 σ_58 =>
        vp_in (v3 + 1) L ∧ (
        wpX12_fault (xs (v3 + 1).toNatClampNeg) σ_58 (fun r_59 σ_60 =>
        ((r_57 = r_59 →
          ∀ v3_61 : Int32, v3_61 = v3 + 7 →
          wbL_law_18 L xs n v3_61 σ_60) ∧
        (¬ r_57 = r_59 →
          False))))))) ∧
      (¬ x_1 = 11 →
      ((x_1 = 12 →
        vp_in (v3 + 1) L ∧ (
        vp_in (v3 + 2) L ∧ (
        wpX11_by (xs (v3 + 1).toNatClampNeg) (xs (v3 + 2).toNatClampNeg) σ (fun r_62 σ_63 =>
        vp_in (v3 + 1) L ∧ (
        vp_in (v3 + 2) L ∧ (
        wpX12_by (xs (v3 + 1).toNatClampNeg) (xs (v3 + 2).toNatClampNeg) σ_63 (fun r_64 σ_65 =>
        ((r_62 = r_64 →
          ∀ v3_66 : Int32, v3_66 = v3 + 7 →
          wbL_law_18 L xs n v3_66 σ_65) ∧
        (¬ r_62 = r_64 →
          False))))))))) ∧
      (¬ x_1 = 12 →
      ((x_1 = 13 →
        vp_in (v3 + 1) L ∧ (
        wpX11_years (xs (v3 + 1).toNatClampNeg) σ (fun r_67 σ_68 =>
        vp_in (v3 + 1) L ∧ (
        wpX12_years (xs (v3 + 1).toNatClampNeg) σ_68 (fun r_69 σ_70 =>
        ((r_67 = r_69 →
          ∀ v3_71 : Int32, v3_71 = v3 + 7 →
          wbL_law_18 L xs n v3_71 σ_70) ∧
        (¬ r_67 = r_69 →
          False))))))) ∧
      (¬ x_1 = 13 →
      ((x_1 = 14 →
        vp_in (v3 + 1) L ∧ (
        vp_in (v3 + 2) L ∧ (
        vp_in (v3 + 3) L ∧ (
        vp_in (v3 + 4) L ∧ (
        vp_in (v3 + 5) L ∧ (
        wpX11_given (xs (v3 + 1).toNatClampNeg) (xs (v3 + 2).toNatClampNeg) (xs (v3 + 3).toNatClampNeg) (xs (v3 + 4).toNatClampNeg) (xs (v3 + 5).toNatClampNeg) σ (fun r_72 σ_73 =>
        vp_in (v3 + 1) L ∧ (
        vp_in (v3 + 2) L ∧ (
        vp_in (v3 + 3) L ∧ (
        vp_in (v3 + 4) L ∧ (
        vp_in (v3 + 5) L ∧ (
        wpX12_given (xs (v3 + 1).toNatClampNeg) (xs (v3 + 2).toNatClampNeg) (xs (v3 + 3).toNatClampNeg) (xs (v3 + 4).toNatClampNeg) (xs (v3 + 5).toNatClampNeg) σ_73 (fun r_74 σ_75 =>
        ((r_72 = r_74 →
          ∀ v3_76 : Int32, v3_76 = v3 + 7 →
          wbL_law_18 L xs n v3_76 σ_75) ∧
        (¬ r_72 = r_74 →
          False))))))))))))))) ∧
      (¬ x_1 = 14 →
      ((x_1 = 15 →
        vp_in (v3 + 1) L ∧ (
        wpX11_unnamed (xs (v3 + 1).toNatClampNeg) σ (fun r_77 σ_78 =>
        vp_in (v3 + 1) L ∧ (
        wpX12_unnamed (xs (v3 + 1).toNatClampNeg) σ_78 (fun r_79 σ_80 =>
        ((r_77 = r_79 →
          ∀ v3_81 : Int32, v3_81 = v3 + 7 →
          wbL_law_18 L xs n v3_81 σ_80) ∧
        (¬ r_77 = r_79 →
          False))))))) ∧
      (¬ x_1 = 15 →
      ((x_1 = 16 →
        vp_in (v3 + 1) L ∧ (
        vp_in (v3 + 2) L ∧ (
        vp_in (v3 + 3) L ∧ (
        vp_in (v3 + 4) L ∧ (
        wpX11_now (xs (v3 + 1).toNatClampNeg) (xs (v3 + 2).toNatClampNeg) (xs (v3 + 3).toNatClampNeg) (xs (v3 + 4).toNatClampNeg) σ (fun r_82 σ_83 =>
        vp_in (v3 + 1) L ∧ (
        vp_in (v3 + 2) L ∧ (
        vp_in (v3 + 3) L ∧ (
        vp_in (v3 + 4) L ∧ (
        wpX12_now (xs (v3 + 1).toNatClampNeg) (xs (v3 + 2).toNatClampNeg) (xs (v3 + 3).toNatClampNeg) (xs (v3 + 4).toNatClampNeg) σ_83 (fun r_84 σ_85 =>
        ((r_82 = r_84 →
          ∀ v3_86 : Int32, v3_86 = v3 + 7 →
          wbL_law_18 L xs n v3_86 σ_85) ∧
        (¬ r_82 = r_84 →
          False))))))))))))) ∧
      (¬ x_1 = 16 →
      ((x_1 = 17 →
        vp_in (v3 + 1) L ∧ (
        vp_in (v3 + 2) L ∧ (
        wpX11_shape (xs (v3 + 1).toNatClampNeg) (xs (v3 + 2).toNatClampNeg) σ (fun r_87 σ_88 =>
        vp_in (v3 + 1) L ∧ (
        vp_in (v3 + 2) L ∧ (
        wpX12_shape (xs (v3 + 1).toNatClampNeg) (xs (v3 + 2).toNatClampNeg) σ_88 (fun r_89 σ_90 =>
        ((r_87 = r_89 →
          ∀ v3_91 : Int32, v3_91 = v3 + 7 →
          wbL_law_18 L xs n v3_91 σ_90) ∧
        (¬ r_87 = r_89 →
          False))))))))) ∧
      (¬ x_1 = 17 →
      ((x_1 = 18 →
        vp_in (v3 + 1) L ∧ (
        wpX11_shapes (xs (v3 + 1).toNatClampNeg) σ (fun r_92 σ_93 =>
        vp_in (v3 + 1) L ∧ (
        wpX12_shapes (xs (v3 + 1).toNatClampNeg) σ_93 (fun r_94 σ_95 =>
        ((r_92 = r_94 →
          ∀ v3_96 : Int32, v3_96 = v3 + 7 →
          wbL_law_18 L xs n v3_96 σ_95) ∧
        (¬ r_92 = r_94 →
          False))))))) ∧
      (¬ x_1 = 18 →
      ((x_1 = 19 →
        vp_in (v3 + 1) L ∧ (
        wpX11_lag (xs (v3 + 1).toNatClampNeg) σ (fun r_97 σ_98 =>
        vp_in (v3 + 1) L ∧ (
        wpX12_lag (xs (v3 + 1).toNatClampNeg) σ_98 (fun r_99 σ_100 =>
        ((r_97 = r_99 →
          ∀ v3_101 : Int32, v3_101 = v3 + 7 →
          wbL_law_18 L xs n v3_101 σ_100) ∧
        (¬ r_97 = r_99 →
          False))))))) ∧
      (¬ x_1 = 19 →
      ((x_1 = 20 →
        vp_in (v3 + 1) L ∧ (
        vp_in (v3 + 2) L ∧ (
        wpX11_together (xs (v3 + 1).toNatClampNeg) (xs (v3 + 2).toNatClampNeg) σ (fun r_102 σ_103 =>
        vp_in (v3 + 1) L ∧ (
        vp_in (v3 + 2) L ∧ (
        wpX12_together (xs (v3 + 1).toNatClampNeg) (xs (v3 + 2).toNatClampNeg) σ_103 (fun r_104 σ_105 =>
        ((r_102 = r_104 →
          ∀ v3_106 : Int32, v3_106 = v3 + 7 →
          wbL_law_18 L xs n v3_106 σ_105) ∧
        (¬ r_102 = r_104 →
          False))))))))) ∧
      (¬ x_1 = 20 →
      ((x_1 = 21 →
        vp_in (v3 + 1) L ∧ (
        vp_in (v3 + 2) L ∧ (
        vp_in (v3 + 3) L ∧ (
        wpX11_took (xs (v3 + 1).toNatClampNeg) (xs (v3 + 2).toNatClampNeg) (xs (v3 + 3).toNatClampNeg) σ (fun r_107 σ_108 =>
        vp_in (v3 + 1) L ∧ (
        vp_in (v3 + 2) L ∧ (
        vp_in (v3 + 3) L ∧ (
        wpX12_took (xs (v3 + 1).toNatClampNeg) (xs (v3 + 2).toNatClampNeg) (xs (v3 + 3).toNatClampNeg) σ_108 (fun r_109 σ_110 =>
        ((r_107 = r_109 →
          ∀ v3_111 : Int32, v3_111 = v3 + 7 →
          wbL_law_18 L xs n v3_111 σ_110) ∧
        (¬ r_107 = r_109 →
          False))))))))))) ∧
      (¬ x_1 = 21 →
      ((x_1 = 22 →
        vp_in (v3 + 1) L ∧ (
        vp_in (v3 + 2) L ∧ (
        wpX11_sound (xs (v3 + 1).toNatClampNeg) (xs (v3 + 2).toNatClampNeg) σ (fun r_112 σ_113 =>
        vp_in (v3 + 1) L ∧ (
        vp_in (v3 + 2) L ∧ (
        wpX12_sound (xs (v3 + 1).toNatClampNeg) (xs (v3 + 2).toNatClampNeg) σ_113 (fun r_114 σ_115 =>
        ((r_112 = r_114 →
          ∀ v3_116 : Int32, v3_116 = v3 + 7 →
          wbL_law_18 L xs n v3_116 σ_115) ∧
        (¬ r_112 = r_114 →
          False))))))))) ∧
      (¬ x_1 = 22 →
      ((x_1 = 23 →
        vp_in (v3 + 1) L ∧ (
        vp_in (v3 + 2) L ∧ (
        wpX11_crossed (xs (v3 + 1).toNatClampNeg) (xs (v3 + 2).toNatClampNeg) σ (fun r_117 σ_118 =>
        vp_in (v3 + 1) L ∧ (
        vp_in (v3 + 2) L ∧ (
        wpX12_crossed (xs (v3 + 1).toNatClampNeg) (xs (v3 + 2).toNatClampNeg) σ_118 (fun r_119 σ_120 =>
        ((r_117 = r_119 →
          ∀ v3_121 : Int32, v3_121 = v3 + 7 →
          wbL_law_18 L xs n v3_121 σ_120) ∧
        (¬ r_117 = r_119 →
          False))))))))) ∧
      (¬ x_1 = 23 →
      ((x_1 = 24 →
        vp_in (v3 + 1) L ∧ (
        vp_in (v3 + 2) L ∧ (
        vp_in (v3 + 3) L ∧ (
        wpX11_returned (xs (v3 + 1).toNatClampNeg) (xs (v3 + 2).toNatClampNeg) (xs (v3 + 3).toNatClampNeg) σ (fun r_122 σ_123 =>
        vp_in (v3 + 1) L ∧ (
        vp_in (v3 + 2) L ∧ (
        vp_in (v3 + 3) L ∧ (
        wpX12_returned (xs (v3 + 1).toNatClampNeg) (xs (v3 + 2).toNatClampNeg) (xs (v3 + 3).toNatClampNeg) σ_123 (fun r_124 σ_125 =>
        ((r_122 = r_124 →
          ∀ v3_126 : Int32, v3_126 = v3 + 7 →
          wbL_law_18 L xs n v3_126 σ_125) ∧
        (¬ r_122 = r_124 →
          False))))))))))) ∧
      (¬ x_1 = 24 →
      ((x_1 = 25 →
        vp_in (v3 + 1) L ∧ (
        vp_in (v3 + 2) L ∧ (
        vp_in (v3 + 3) L ∧ (
        vp_in (v3 + 4) L ∧ (
        (((xs (v3 + 4).toNatClampNeg) = 0 →
          wbL_law_1166 L xs (wbL_law_18 L xs n) v3 0 (xs (v3 + 3).toNatClampNeg) (xs (v3 + 2).toNatClampNeg) (xs (v3 + 1).toNatClampNeg) σ) ∧
        (¬ (xs (v3 + 4).toNatClampNeg) = 0 →
          wbL_law_1166 L xs (wbL_law_18 L xs n) v3 1 (xs (v3 + 3).toNatClampNeg) (xs (v3 + 2).toNatClampNeg) (xs (v3 + 1).toNatClampNeg) σ))))))) ∧
      (¬ x_1 = 25 →
      ((x_1 = 26 →
        vp_in (v3 + 1) L ∧ (
        vp_in (v3 + 2) L ∧ (
        vp_in (v3 + 3) L ∧ (
        vp_in (v3 + 4) L ∧ (
        wpX11_best (xs (v3 + 1).toNatClampNeg) (xs (v3 + 2).toNatClampNeg) (xs (v3 + 3).toNatClampNeg) (xs (v3 + 4).toNatClampNeg) σ (fun r_127 σ_128 =>
        vp_in (v3 + 1) L ∧ (
        vp_in (v3 + 2) L ∧ (
        vp_in (v3 + 3) L ∧ (
        vp_in (v3 + 4) L ∧ (
        wpX12_best (xs (v3 + 1).toNatClampNeg) (xs (v3 + 2).toNatClampNeg) (xs (v3 + 3).toNatClampNeg) (xs (v3 + 4).toNatClampNeg) σ_128 (fun r_129 σ_130 =>
        ((r_127 = r_129 →
          ∀ v3_131 : Int32, v3_131 = v3 + 7 →
          wbL_law_18 L xs n v3_131 σ_130) ∧
        (¬ r_127 = r_129 →
          False))))))))))))) ∧
      (¬ x_1 = 26 →
      ((x_1 = 27 →
        vp_in (v3 + 1) L ∧ (
        vp_in (v3 + 2) L ∧ (
        vp_in (v3 + 3) L ∧ (
        wpX11_age (xs (v3 + 1).toNatClampNeg) (xs (v3 + 2).toNatClampNeg) (xs (v3 + 3).toNatClampNeg) σ (fun r_132 σ_133 =>
        vp_in (v3 + 1) L ∧ (
        vp_in (v3 + 2) L ∧ (
        vp_in (v3 + 3) L ∧ (
        wpX12_age (xs (v3 + 1).toNatClampNeg) (xs (v3 + 2).toNatClampNeg) (xs (v3 + 3).toNatClampNeg) σ_133 (fun r_134 σ_135 =>
        ((r_132 = r_134 →
          ∀ v3_136 : Int32, v3_136 = v3 + 7 →
          wbL_law_18 L xs n v3_136 σ_135) ∧
        (¬ r_132 = r_134 →
          False))))))))))) ∧
      (¬ x_1 = 27 →
      ((x_1 = 28 →
        vp_in (v3 + 1) L ∧ (
        wpX11_guess (xs (v3 + 1).toNatClampNeg) σ (fun r_137 σ_138 =>
        vp_in (v3 + 1) L ∧ (
        wpX12_guess (xs (v3 + 1).toNatClampNeg) σ_138 (fun r_139 σ_140 =>
        ((r_137 = r_139 →
          ∀ v3_141 : Int32, v3_141 = v3 + 7 →
          wbL_law_18 L xs n v3_141 σ_140) ∧
        (¬ r_137 = r_139 →
          False))))))) ∧
      (¬ x_1 = 28 →
      ((x_1 = 29 →
        vp_in (v3 + 1) L ∧ (
        vp_in (v3 + 2) L ∧ (
        vp_in (v3 + 3) L ∧ (
        wpX11_chance (xs (v3 + 1).toNatClampNeg) (xs (v3 + 2).toNatClampNeg) (xs (v3 + 3).toNatClampNeg) σ (fun r_142 σ_143 =>
        vp_in (v3 + 1) L ∧ (
        vp_in (v3 + 2) L ∧ (
        vp_in (v3 + 3) L ∧ (
        wpX12_chance (xs (v3 + 1).toNatClampNeg) (xs (v3 + 2).toNatClampNeg) (xs (v3 + 3).toNatClampNeg) σ_143 (fun r_144 σ_145 =>
        ((r_142 = r_144 →
          ∀ v3_146 : Int32, v3_146 = v3 + 7 →
          wbL_law_18 L xs n v3_146 σ_145) ∧
        (¬ r_142 = r_144 →
          False))))))))))) ∧
      (¬ x_1 = 29 →
      ((x_1 = 30 →
        vp_in (v3 + 1) L ∧ (
        vp_in (v3 + 2) L ∧ (
        wpX11_turnover (xs (v3 + 1).toNatClampNeg) (xs (v3 + 2).toNatClampNeg) σ (fun r_147 σ_148 =>
        vp_in (v3 + 1) L ∧ (
        vp_in (v3 + 2) L ∧ (
        wpX12_turnover (xs (v3 + 1).toNatClampNeg) (xs (v3 + 2).toNatClampNeg) σ_148 (fun r_149 σ_150 =>
        ((r_147 = r_149 →
          ∀ v3_151 : Int32, v3_151 = v3 + 7 →
          wbL_law_18 L xs n v3_151 σ_150) ∧
        (¬ r_147 = r_149 →
          False))))))))) ∧
      (¬ x_1 = 30 →
      ((x_1 = 31 →
        vp_in (v3 + 1) L ∧ (
        vp_in (v3 + 2) L ∧ (
        vp_in (v3 + 3) L ∧ (
        vp_in (v3 + 4) L ∧ (
        vp_in (v3 + 5) L ∧ (
        wpX11_print (xs (v3 + 1).toNatClampNeg) (xs (v3 + 2).toNatClampNeg) (xs (v3 + 3).toNatClampNeg) (xs (v3 + 4).toNatClampNeg) (xs (v3 + 5).toNatClampNeg) σ (fun r_152 σ_153 =>
        vp_in (v3 + 1) L ∧ (
        vp_in (v3 + 2) L ∧ (
        vp_in (v3 + 3) L ∧ (
        vp_in (v3 + 4) L ∧ (
        vp_in (v3 + 5) L ∧ (
        wpX12_print (xs (v3 + 1).toNatClampNeg) (xs (v3 + 2).toNatClampNeg) (xs (v3 + 3).toNatClampNeg) (xs (v3 + 4).toNatClampNeg) (xs (v3 + 5).toNatClampNeg) σ_153 (fun r_154 σ_155 =>
        ((r_152 = r_154 →
          ∀ v3_156 : Int32, v3_156 = v3 + 7 →
          wbL_law_18 L xs n v3_156 σ_155) ∧
        (¬ r_152 = r_154 →
          False))))))))))))))) ∧
      (¬ x_1 = 31 →
      ((x_1 = 32 →
        vp_in (v3 + 1) L ∧ (
        vp_in (v3 + 2) L ∧ (
        wpX11_let (xs (v3 + 1).toNatClampNeg) (xs (v3 + 2).toNatClampNeg) σ (fun r_157 σ_158 =>
        vp_in (v3 + 1) L ∧ (
        vp_in (v3 + 2) L ∧ (
        wpX12_let (xs (v3 + 1).toNatClampNeg) (xs (v3 + 2).toNatClampNeg) σ_158 (fun r_159 σ_160 =>
        ((r_157 = r_159 →
          ∀ v3_161 : Int32, v3_161 = v3 + 7 →
          wbL_law_18 L xs n v3_161 σ_160) ∧
        (¬ r_157 = r_159 →
          False))))))))) ∧
      (¬ x_1 = 32 →
      ((x_1 = 33 →
        vp_in (v3 + 1) L ∧ (
        vp_in (v3 + 2) L ∧ (
        vp_in (v3 + 3) L ∧ (
        vp_in (v3 + 4) L ∧ (
        vp_in (v3 + 5) L ∧ (
        (((xs (v3 + 5).toNatClampNeg) = 0 →
          wbL_law_1531 L xs (wbL_law_18 L xs n) v3 0 (xs (v3 + 4).toNatClampNeg) (xs (v3 + 3).toNatClampNeg) (xs (v3 + 2).toNatClampNeg) (xs (v3 + 1).toNatClampNeg) σ) ∧
        (¬ (xs (v3 + 5).toNatClampNeg) = 0 →
          wbL_law_1531 L xs (wbL_law_18 L xs n) v3 1 (xs (v3 + 4).toNatClampNeg) (xs (v3 + 3).toNatClampNeg) (xs (v3 + 2).toNatClampNeg) (xs (v3 + 1).toNatClampNeg) σ)))))))) ∧
      (¬ x_1 = 33 →
      ((x_1 = 34 →
        vp_in (v3 + 1) L ∧ (
        vp_in (v3 + 2) L ∧ (
        wpX11_parts (xs (v3 + 1).toNatClampNeg) (xs (v3 + 2).toNatClampNeg) σ (fun r_162 σ_163 =>
        vp_in (v3 + 1) L ∧ (
        vp_in (v3 + 2) L ∧ (
        wpX12_parts (xs (v3 + 1).toNatClampNeg) (xs (v3 + 2).toNatClampNeg) σ_163 (fun r_164 σ_165 =>
        ((r_162 = r_164 →
          ∀ v3_166 : Int32, v3_166 = v3 + 7 →
          wbL_law_18 L xs n v3_166 σ_165) ∧
        (¬ r_162 = r_164 →
          False))))))))) ∧
      (¬ x_1 = 34 →
      ((x_1 = 35 →
        wpX11_image  σ (fun r_167 σ_168 =>
        wpX12_image  σ_168 (fun r_169 σ_170 =>
        ((r_167 = r_169 →
          ∀ v3_171 : Int32, v3_171 = v3 + 7 →
          wbL_law_18 L xs n v3_171 σ_170) ∧
        (¬ r_167 = r_169 →
          False))))) ∧
      (¬ x_1 = 35 →
      ((x_1 = 36 →
        wpX11_back  σ (fun r_172 σ_173 =>
        wpX12_back  σ_173 (fun r_174 σ_175 =>
        ((r_172 = r_174 →
          ∀ v3_176 : Int32, v3_176 = v3 + 7 →
          wbL_law_18 L xs n v3_176 σ_175) ∧
        (¬ r_172 = r_174 →
          False))))) ∧
      (¬ x_1 = 36 →
      ((x_1 = 37 →
        vp_in (v3 + 1) L ∧ (
        wpX11_about (xs (v3 + 1).toNatClampNeg) σ (fun r_177 σ_178 =>
        vp_in (v3 + 1) L ∧ (
        wpX12_about (xs (v3 + 1).toNatClampNeg) σ_178 (fun r_179 σ_180 =>
        ((r_177 = r_179 →
          ∀ v3_181 : Int32, v3_181 = v3 + 7 →
          wbL_law_18 L xs n v3_181 σ_180) ∧
        (¬ r_177 = r_179 →
          False))))))) ∧
      (¬ x_1 = 37 →
      ∀ v3_182 : Int32, v3_182 = v3 + 7 →
      wbL_law_18 L xs n v3_182 σ)))))))))))))))))))))))))))))))))))))))))))))))))))))))))))))))))))))))))))))))
