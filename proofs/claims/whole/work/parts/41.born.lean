theorem born_ok {σ : St} (h : Inv σ) (a b c d f g : Int32) : wpX11_born a b c d f g σ (fun r τ => wpX12_born a b c d f g τ (Q2 r)) := by
  obtain ⟨m, mi, U, T, hA, hB⟩ := id h
  obtain ⟨nn, n1', n2', rfl⟩ := I_of a
  obtain ⟨p, p1, p2, rfl⟩ := I_of b
  obtain ⟨s, q1, q2, rfl⟩ := I_of c
  obtain ⟨x, x1, x2, rfl⟩ := I_of d
  obtain ⟨aa, a1', a2', rfl⟩ := I_of f
  obtain ⟨v, v1, v2, rfl⟩ := I_of g
  have hM := hA.1
  have hW := hA.2.2.1
  have w00 := hW.1
  have w11 := hW.2.1
  have w22 := hW.2.2.1
  have w33 := hW.2.2.2.1
  have w44 := hW.2.2.2.2.1
  have w55 := hW.2.2.2.2.2.1
  have c1 := hB.2.2.1.1
  have n1 := hB.1.1
  have w13 := hW.2.2.2.2.2.2.2.2.2.2.2.2.2
  have refs : ∀ τ : St, RM τ m → (∀ r : Int32, ¬ ((0 ≤ nn ∧ nn < m 1) ∧ ((0 ≤ p ∧ p ≤ 2) ∧ (0 ≤ s ∧ s ≤ 1) ∧ (0 ≤ x ∧ x ≤ 1)) ∧ (1 ≤ aa ∧ aa ≤ 40) ∧ (1 ≤ v ∧ v ≤ 99) ∧ m 0 = 0 ∧ m (2000 + (aa.toNat - 1) * 192 + ((p * 2 + s) * 2 + x).toNat * 16 + nn.toNat) + v ≤ 9999) → Q2 r (II (-1)) τ → wpX12_born (II nn) (II p) (II s) (II x) (II aa) (II v) τ (Q2 r)) ∧ (∀ r : Int32, ((0 ≤ nn ∧ nn < m 1) ∧ ((0 ≤ p ∧ p ≤ 2) ∧ (0 ≤ s ∧ s ≤ 1) ∧ (0 ≤ x ∧ x ≤ 1)) ∧ (1 ≤ aa ∧ aa ≤ 40) ∧ (1 ≤ v ∧ v ≤ 99) ∧ m 0 = 0 ∧ m (2000 + (aa.toNat - 1) * 192 + ((p * 2 + s) * 2 + x).toNat * 16 + nn.toNat) + v ≤ 9999) → Q2 r (II (m (2000 + (aa.toNat - 1) * 192 + ((p * 2 + s) * 2 + x).toNat * 16 + nn.toNat) + v)) (sI τ 76 (2000 + (aa.toNat - 1) * 192 + ((p * 2 + s) * 2 + x).toNat * 16 + nn.toNat) (II (m (2000 + (aa.toNat - 1) * 192 + ((p * 2 + s) * 2 + x).toNat * 16 + nn.toNat) + v))) → wpX12_born (II nn) (II p) (II s) (II x) (II aa) (II v) τ (Q2 r)) := by
    intro τ hM'
    have all : ∀ r : Int32, (¬ ((0 ≤ nn ∧ nn < m 1) ∧ ((0 ≤ p ∧ p ≤ 2) ∧ (0 ≤ s ∧ s ≤ 1) ∧ (0 ≤ x ∧ x ≤ 1)) ∧ (1 ≤ aa ∧ aa ≤ 40) ∧ (1 ≤ v ∧ v ≤ 99) ∧ m 0 = 0 ∧ m (2000 + (aa.toNat - 1) * 192 + ((p * 2 + s) * 2 + x).toNat * 16 + nn.toNat) + v ≤ 9999) → Q2 r (II (-1)) τ) → (((0 ≤ nn ∧ nn < m 1) ∧ ((0 ≤ p ∧ p ≤ 2) ∧ (0 ≤ s ∧ s ≤ 1) ∧ (0 ≤ x ∧ x ≤ 1)) ∧ (1 ≤ aa ∧ aa ≤ 40) ∧ (1 ≤ v ∧ v ≤ 99) ∧ m 0 = 0 ∧ m (2000 + (aa.toNat - 1) * 192 + ((p * 2 + s) * 2 + x).toNat * 16 + nn.toNat) + v ≤ 9999) → Q2 r (II (m (2000 + (aa.toNat - 1) * 192 + ((p * 2 + s) * 2 + x).toNat * 16 + nn.toNat) + v)) (sI τ 76 (2000 + (aa.toNat - 1) * 192 + ((p * 2 + s) * 2 + x).toNat * 16 + nn.toNat) (II (m (2000 + (aa.toNat - 1) * 192 + ((p * 2 + s) * 2 + x).toNat * 16 + nn.toNat) + v)))) → wpX12_born (II nn) (II p) (II s) (II x) (II aa) (II v) τ (Q2 r) := by
      intro r hno hyes
      unfold wpX12_born
      refine isName_ok hM' w11 (by omega) (fun z1 => t1 ?_) (fun z1 => t0 (hno (fun w => z1 w.1)))
      refine isCradle_ok (by omega) (fun z2 => t1 ?_) (fun z2 => t0 (hno (fun w => z2 w.2.1)))
      simp only [I_lit]
      refine in_ok (by omega) (fun z3 => t1 ?_) (fun z3 => t0 (hno (fun w => z3 w.2.2.1)))
      refine in_ok (by omega) (fun z4 => t1 ?_) (fun z4 => t0 (hno (fun w => z4 w.2.2.2.1)))
      have ix : (2000 + (aa - 1) * 192 + ((p * 2 + s) * 2 + x) * 16 + nn).toNat = 2000 + (aa.toNat - 1) * 192 + ((p * 2 + s) * 2 + x).toNat * 16 + nn.toNat := by omega
      have bb := w13 (40 - aa.toNat) (by omega) ((p * 2 + s) * 2 + x).toNat (by omega) nn.toNat (by omega)
      rw [show 39 - (40 - aa.toNat) = aa.toNat - 1 by omega] at bb
      have mm : gI τ 76 (2000 + (aa.toNat - 1) * 192 + ((p * 2 + s) * 2 + x).toNat * 16 + nn.toNat) = II (m (2000 + (aa.toNat - 1) * 192 + ((p * 2 + s) * 2 + x).toNat * 16 + nn.toNat)) := hM' _
      generalize 2000 + (aa.toNat - 1) * 192 + ((p * 2 + s) * 2 + x).toNat * 16 + nn.toNat = K at *
      have m0' : gI τ 76 0 = II (m 0) := hM' 0
      simp (disch := omega) only [I_lit, I_in, true_and, I_cl, Int.reduceToNat, m0', I_le, wpX12_cell, I_mul, I_add, I_sub, fe, ix, mm, rI1]
      exact ⟨fun z5 => ⟨fun z6 => hyes ⟨z1, z2, z3, z4, by omega, z6⟩, fun z6 => hno (fun w => z6 w.2.2.2.2.2)⟩, fun z5 => hno (fun w => by have := w.2.2.2.2.1; omega)⟩
    exact ⟨fun r hz hq => all r (fun _ => hq) (fun w => absurd w hz), fun r hz hq => all r (fun w => absurd hz w) (fun _ => hq)⟩
  have ref0 : ¬ ((0 ≤ nn ∧ nn < m 1) ∧ ((0 ≤ p ∧ p ≤ 2) ∧ (0 ≤ s ∧ s ≤ 1) ∧ (0 ≤ x ∧ x ≤ 1)) ∧ (1 ≤ aa ∧ aa ≤ 40) ∧ (1 ≤ v ∧ v ≤ 99) ∧ m 0 = 0 ∧ m (2000 + (aa.toNat - 1) * 192 + ((p * 2 + s) * 2 + x).toNat * 16 + nn.toNat) + v ≤ 9999) → wpX12_born (II nn) (II p) (II s) (II x) (II aa) (II v) σ (Q2 (II (-1))) := fun hz => (refs σ hM).1 _ hz ⟨rfl, h⟩
  unfold wpX11_born
  rw [c1, I_lit, I_eq (by omega)]
  refine ⟨fun z => ref0 (fun w => z w.2.2.2.2.1), fun z => ?_⟩
  refine has_ok n1 w11 (by omega) (fun z1 => t1 ?_) (fun z1 => t0 (ref0 (fun w => z1 w.1)))
  refine isRow_ok (by omega) (fun z2 => s1 ?_) (fun z2 => s0 (ref0 (fun w => z2 w.2.1)))
  simp only [I_lit]
  refine wi_ok (by omega) (fun z3 => t1 ?_) (fun z3 => t0 (ref0 (fun w => z3 w.2.2.1)))
  refine wi_ok (by omega) (fun z4 => s1 ?_) (fun z4 => s0 (ref0 (fun w => z4 w.2.2.2.1)))
  obtain ⟨A, rfl⟩ : ∃ A : Nat, aa = A := ⟨aa.toNat, by omega⟩
  obtain ⟨n, rfl⟩ : ∃ n : Nat, nn = n := ⟨nn.toNat, by omega⟩
  obtain ⟨P, rfl⟩ : ∃ P : Nat, p = P := ⟨p.toNat, by omega⟩
  obtain ⟨S, rfl⟩ : ∃ S : Nat, s = S := ⟨s.toNat, by omega⟩
  obtain ⟨X, rfl⟩ : ∃ X : Nat, x = X := ⟨x.toNat, by omega⟩
  have eC : (((P : Int) * 2 + S) * 2 + X).toNat = (P * 2 + S) * 2 + X := by omega
  rw [eC] at refs ref0
  simp only [Int.toNat_natCast] at refs ref0
  have d5 := hB.2.2.1.2.2.2.2.1 (40 - A) (by omega) ((P * 2 + S) * 2 + X) (by omega) n (by omega)
  rw [show 39 - (40 - A) = A - 1 by omega] at d5
  have bb := w13 (40 - A) (by omega) ((P * 2 + S) * 2 + X) (by omega) n (by omega)
  rw [show 39 - (40 - A) = A - 1 by omega] at bb
  have jx : (((-(A : Int) - -40) * 12 + (((P : Int) * 2 + S) * 2 + X)) * 16 + n).toNat = ((40 - A) * 12 + ((P * 2 + S) * 2 + X)) * 16 + n := by omega
  simp (disch := omega) only [wpX4_row, wpX4_toldCell, I_lit, I_mul, I_add, I_neg, I_sub, I_in, true_and, I_cl, jx, d5, I_le, fe]
  refine ⟨fun z5 => ?_, fun z5 => ref0 (fun w => z5 w.2.2.2.2.2)⟩
  obtain ⟨b1, b2, b3, b4, b5, b6, b7, b8, b9, b10, b11⟩ := id hB
  rw [show (m 0).toNat = 0 by omega] at b5
  obtain ⟨B1, B2, B3, B4, B5, B6⟩ := b5
  have rG := run_GC (K := KK m U T) hW 0
  have hcC : (P * 2 + S) * 2 + X < 12 := by omega
  have hCe : (P * 2 + S) * 2 + X = (P * 2 + S) * 2 + X := rfl
  rw [show -(A : Int) = ((40 - A : Nat) : Int) - 40 by omega]
  refine addSums_ok (o := 0) (G := run (KK m U T) 0) (by rw [rI2 (by omega)]; exact B1) (fun Y hY g hg n hn => by rw [rI2 (by omega)]; exact B2 Y hY g hg n hn) (fun n hn => by rw [rI2 (by omega)]; exact B4 n hn) (by omega) (fun Y' n' => gt_nn rG.1.gb Y' 6 n') (by omega) (by omega) (by omega) (by omega) (by omega) (by omega) (by omega) ?_
  intro τ tS tL tE
  generalize hC : (P * 2 + S) * 2 + X = C at *
  have tE' : Eqx [10, 23, 24] σ τ := Eqx.trans (Eqx_tI (Eqx.refl _ _) (by simp)) (Eqx.mono tE (by simp))
  have g10 : gI (sI τ 64 6 (II 0)) 10 (((40 - A) * 12 + C) * 16 + n) = II (m (2000 + (A - 1) * 192 + C * 16 + n) + v) := by rw [rI2 (by omega), Eqx_gI tE (by simp), rI1]
  simp (disch := omega) only [wpX7_forgetRuns, I_lit, fe, g10]
  have hM' : RM (sI τ 64 6 (II 0)) m := fun k => by rw [rI2 (by omega), Eqx_gI tE' (by simp)]; exact hM k
  have cond := fun (w : (0 ≤ (n : Int) ∧ (n : Int) < m 1) ∧ ((0 ≤ (P : Int) ∧ (P : Int) ≤ 2) ∧ (0 ≤ (S : Int) ∧ (S : Int) ≤ 1) ∧ (0 ≤ (X : Int) ∧ (X : Int) ≤ 1)) ∧ (1 ≤ (A : Int) ∧ (A : Int) ≤ 40) ∧ (1 ≤ v ∧ v ≤ 99) ∧ m 0 = 0 ∧ m (2000 + (A - 1) * 192 + C * 16 + n) + v ≤ 9999) => (refs (sI τ 64 6 (II 0)) hM').2 (II (m (2000 + (A - 1) * 192 + C * 16 + n) + v)) w
  refine cond ⟨z1, z2, z3, z4, z, z5⟩ ⟨rfl, ?_⟩
  obtain ⟨-, a2, -, a4, hZ, a6, hPW, a8, a9⟩ := hA
  have mi0 : mi 0 = 0 := by have := a9.1.1; have := a4.1; omega
  have e : ∀ q, q ∉ [10, 23, 24, 64, 76] → sI (sI τ 64 6 (II 0)) 76 (2000 + (A - 1) * 192 + C * 16 + n) (II (m (2000 + (A - 1) * 192 + C * 16 + n) + v)) q = σ q := fun q hq => by
    simp only [List.mem_cons, List.not_mem_nil, or_false, not_or] at hq
    rw [ce_sI _ _ _ _ _ (by omega), ce_sI _ _ _ _ _ (by omega), ← tE' q (by simp; omega)]
  have et : ∀ q, q ≠ 64 → q ≠ 76 → sI (sI τ 64 6 (II 0)) 76 (2000 + (A - 1) * 192 + C * 16 + n) (II (m (2000 + (A - 1) * 192 + C * 16 + n) + v)) q = τ q := fun q y1 y2 => by rw [ce_sI _ _ _ _ _ y2, ce_sI _ _ _ _ _ y1]
  have hm := RM_mu hM' (2000 + (A - 1) * 192 + C * 16 + n) (m (2000 + (A - 1) * 192 + C * 16 + n) + v)
  have hn16 : n < 16 := by omega
  refine ⟨mu m (2000 + (A - 1) * 192 + C * 16 + n) (m (2000 + (A - 1) * 192 + C * 16 + n) + v), mi, U, T, ⟨hm, fun k => by rw [gI_of (e 77 (by simp))]; exact a2 k, ?_, a4, ?_, a6, ?_, a8, ?_⟩, ?_⟩
  · obtain ⟨w0, w1, w2, w3, w4, w5, w6, w7, w8, w9, w10, w11, w12, w13⟩ := hW
    exact ⟨by simp (disch := omega) only [mu_ne, mu_eq]; exact w0, by simp (disch := omega) only [mu_ne, mu_eq]; exact w1, by simp (disch := omega) only [mu_ne, mu_eq]; exact w2, by simp (disch := omega) only [mu_ne, mu_eq]; exact w3, by simp (disch := omega) only [mu_ne, mu_eq]; exact w4, by simp (disch := omega) only [mu_ne, mu_eq]; exact w5, by simp (disch := omega) only [mu_ne, mu_eq]; exact w6, fun s hs => by simp (disch := omega) only [mu_ne, mu_eq]; exact w7 s hs, fun c hc => by simp (disch := omega) only [mu_ne, mu_eq]; exact w8 c hc, fun n hn => by simp (disch := omega) only [mu_ne, mu_eq] at hn; simp (disch := omega) only [mu_ne, mu_eq]; exact w9 n hn, fun k hk => by simp (disch := omega) only [mu_ne, mu_eq] at hk; simp (disch := omega) only [mu_ne, mu_eq]; exact w10 k hk, fun k hk => by simp (disch := omega) only [mu_ne, mu_eq] at hk; simp (disch := omega) only [mu_ne, mu_eq]; exact w11 k hk, fun y hy => by simp (disch := omega) only [mu_ne, mu_eq] at hy; exact ⟨fun c hc => by simp (disch := omega) only [mu_ne, mu_eq]; exact (w12 y hy).1 c hc, fun s hs => by simp (disch := omega) only [mu_ne, mu_eq]; exact (w12 y hy).2 s hs⟩, fun Y' hY c' hc' n' hn' => by
      by_cases ec : Y' = 40 - A ∧ c' = C ∧ n' = n
      · obtain ⟨rfl, rfl, rfl⟩ := ec
        rw [show 39 - (40 - A) = A - 1 by omega, mu_eq]; omega
      · rw [mu_ne (by omega)]; exact w13 Y' hY c' hc' n' hn' ⟩
  · intro Y hY c hc n' hn' h1
    rw [mu_ne (by omega)] at h1
    rw [mu_ne (by omega)]; exact hZ Y hY c hc n' hn' h1
  · intro k hk
    rw [mu_ne (by omega)] at hk
    simp (disch := omega) only [mu_ne, mu_eq]; exact hPW k hk
  · refine ⟨?_, fun u => absurd u (by omega)⟩
    obtain ⟨p0, p1, p2, p3, p4, p5, p6, p7, p8, p9, p10, p11, p12, p13, p14⟩ := a9.1
    have e1 : mu m (2000 + (A - 1) * 192 + C * 16 + n) (m (2000 + (A - 1) * 192 + C * 16 + n) + v) 1 = m 1 := mu_ne (by omega)
    have e2 : mu m (2000 + (A - 1) * 192 + C * 16 + n) (m (2000 + (A - 1) * 192 + C * 16 + n) + v) 2 = m 2 := mu_ne (by omega)
    have e3 : mu m (2000 + (A - 1) * 192 + C * 16 + n) (m (2000 + (A - 1) * 192 + C * 16 + n) + v) 3 = m 3 := mu_ne (by omega)
    have e5 : mu m (2000 + (A - 1) * 192 + C * 16 + n) (m (2000 + (A - 1) * 192 + C * 16 + n) + v) 5 = m 5 := mu_ne (by omega)
    have y1 := a4.1
    have y2 := a4.2.2.2.2.2.1
    refine ⟨by rw [mu_ne (by omega)]; exact p0, by rw [e1]; exact p1, by rw [e2]; exact p2, by rw [e3]; exact p3, by rw [mu_ne (by omega)]; exact p4, by rw [e5]; exact p5, fun n hn => by rw [mu_ne (by omega), mu_ne (by omega)]; exact p6 n hn, fun n h1 h2 => by rw [e1] at h2; rw [mu_ne (by omega)]; exact p7 n h1 h2, fun k hk => by rw [mu_ne (by omega), mu_ne (by omega)]; exact p8 k hk, fun k h1 h2 => by rw [e2] at h2; rw [mu_ne (by omega)]; exact p9 k h1 h2, fun k hk => by rw [mu_ne (by omega), mu_ne (by omega), mu_ne (by omega)]; exact p10 k hk, fun k h1 h2 => by rw [e3] at h2; rw [mu_ne (by omega)]; exact p11 k h1 h2, fun y hy c hc => absurd hy (by omega), fun k hk j hj => by rw [mu_ne (by omega)]; exact p13 k hk j hj, fun k hk => by rw [mu_ne (by omega)]; exact p14 k hk⟩
  · have hrun : run (KK (mu m (2000 + (A - 1) * 192 + C * 16 + n) (m (2000 + (A - 1) * 192 + C * 16 + n) + v)) U T) 0 = gadd (run (KK m U T) 0) (40 - A) C n v := by
      show G0 (mu m (2000 + (A - 1) * 192 + C * 16 + n) (m (2000 + (A - 1) * 192 + C * 16 + n) + v)) (kn (KK (mu m (2000 + (A - 1) * 192 + C * 16 + n) (m (2000 + (A - 1) * 192 + C * 16 + n) + v)) U T)) = gadd (G0 m (kn (KK m U T))) (40 - A) C n v
      rw [kn_KB, kn_KB, mu_ne (by omega)]
      funext Y c' n'
      unfold gadd G0
      by_cases ec : Y = 40 - A ∧ c' = C ∧ n' = n
      · obtain ⟨rfl, rfl, rfl⟩ := ec
        rw [if_pos ⟨by omega, by omega, by omega⟩, if_pos ⟨rfl, rfl, rfl⟩, if_pos ⟨by omega, by omega, by omega⟩, show 39 - (40 - A) = A - 1 by omega, mu_eq]
      · rw [if_neg ec]
        split
        · rename_i hh; rw [mu_ne (by omega)]
        · rfl
    have e4 : (mu m (2000 + (A - 1) * 192 + C * 16 + n) (m (2000 + (A - 1) * 192 + C * 16 + n) + v)) 4 = m 4 := mu_ne (by omega)
    refine ⟨NMs_c b1 (fun q x1 x2 => e q (by simp; omega)) (e 78 (by simp)) (mu_ne (by omega)) (fun n' hn' => ⟨mu_ne (by omega), mu_ne (by omega)⟩), ⟨by rw [e4]; exact NP_c b2.1 (e 83 (by simp)) (e 84 (by simp)), by rw [e4]; exact RW_eq b2.2 (fun q x1 x2 => e q (by simp; omega))⟩, ?_, ⟨by rw [e4]; exact CW_eq hW.2.2.2.2.1.2 b4.1 (fun q x1 x2 => e q (by simp; omega)), by rw [gI_of (e 0 (by simp)), e4]; exact b4.2⟩, ?_, ?_, PRs_c b7 (fun q x1 x2 => e q (by simp; omega)) (by rw [rI2 (by omega), rI3 (by omega), Eqx_gI tE' (by simp)]) (mu_ne (by omega)) (fun k hk j hj => mu_ne (by omega)), RUs_0 (by rw [rI2 (by omega), rI1]), by rw [gI_of (e 47 (by simp)), gI_of (e 47 (by simp))]; exact b9, TPs_c b10 (fun k _ => by rw [gI_of (e 42 (by simp))]) (e 43 (by simp)) (e 79 (by simp)) (fun k x1 x2 => by rw [gI_of (e 75 (by simp))]), IMs_c b11 (fun q x1 x2 => e q (by simp; omega))⟩
    · obtain ⟨D1, D2, D3, D4, D5, D6, D7, D8, D9, D10, D11⟩ := b3
      have gg : ∀ q k, 9 ≤ q → q ≤ 20 → q ≠ 10 → gI (sI (sI τ 64 6 (II 0)) 76 (2000 + (A - 1) * 192 + C * 16 + n) (II (m (2000 + (A - 1) * 192 + C * 16 + n) + v))) q k = gI σ q k := fun q k y1 y2 y3 => gI_of (e q (by simp; omega)) k
      refine ⟨by rw [gg _ _ (by omega) (by omega) (by omega), mu_ne (by omega)]; exact D1, by rw [gg _ _ (by omega) (by omega) (by omega), mu_ne (by omega)]; exact D2, by rw [gg _ _ (by omega) (by omega) (by omega), mu_ne (by omega)]; exact D3, by rw [gg _ _ (by omega) (by omega) (by omega), mu_ne (by omega)]; exact D4, fun Y hY c' hc' n' hn' => ?_, fun c' q => by rw [gg _ _ (by omega) (by omega) (by omega), mu_ne (by omega)]; exact D6 c' q, fun y hy c' q => by rw [mu_ne (by omega)] at hy; omega, fun c' q => by rw [gg _ _ (by omega) (by omega) (by omega), mu_ne (by omega)]; exact D8 c' q, fun y hy c' q => by rw [mu_ne (by omega)] at hy; omega, fun k hk => by rw [mu_ne (by omega)] at hk; rw [gg _ _ (by omega) (by omega) (by omega), gg _ _ (by omega) (by omega) (by omega), mu_ne (by omega), mu_ne (by omega)]; exact D10 k hk, fun k hk => by rw [mu_ne (by omega)] at hk; rw [gg _ _ (by omega) (by omega) (by omega), gg _ _ (by omega) (by omega) (by omega), gg _ _ (by omega) (by omega) (by omega), mu_ne (by omega), mu_ne (by omega), mu_ne (by omega)]; exact D11 k hk⟩
      rw [gI_of (et 10 (by omega) (by omega)), Eqx_gI tE (by simp)]
      by_cases ec : Y = 40 - A ∧ c' = C ∧ n' = n
      · obtain ⟨rfl, rfl, rfl⟩ := ec
        rw [rI1, show 39 - (40 - A) = A - 1 by omega, mu_eq]
      · rw [rI3 (by omega), mu_ne (by omega)]; exact D5 Y hY c' hc' n' hn'
    · rw [mu_ne (by omega), show (m 0).toNat = 0 by omega, hrun]
      have er : ∀ q, 21 ≤ q → q ≤ 24 → sI (sI τ 64 6 (II 0)) 76 (2000 + (A - 1) * 192 + C * 16 + n) (II (m (2000 + (A - 1) * 192 + C * 16 + n) + v)) q = τ q := fun q y1 y2 => et q (by omega) (by omega)
      refine ⟨?_, fun Y hY g hg j hj => ?_, fun y hy c' hc' => ?_, fun j hj => ?_, fun Y hY c' hc' j => ?_, by omega⟩
      · rw [gI_of (er 21 (by omega) (by omega)), Eqx_gI tE' (by simp)]; exact B1
      · rw [gI_of (er 23 (by omega) (by omega))]; exact tS Y hY g hg j hj
      · rw [gL_of (er 22 (by omega) (by omega)), Eqx_gL tE' (by simp), pk_gne (by omega)]; exact B3 y hy c' hc'
      · rw [gI_of (er 24 (by omega) (by omega))]; exact tL j hj
      · unfold gadd
        have hY' : 41 + 0 ≤ Y := hY
        rw [if_neg (by omega)]; exact B5 Y hY c' hc' j
    · intro y hy
      rw [mu_ne (by omega)] at hy
      omega
