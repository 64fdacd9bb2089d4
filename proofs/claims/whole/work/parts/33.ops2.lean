theorem life_ok {σ : St} (h : Inv σ) (a : Int32) : wpX11_life a σ (fun r τ => wpX12_life a τ (Q2 r)) := by
  obtain ⟨m, mi, U, T, hA, hB⟩ := id h
  obtain ⟨z, z1, z2, rfl⟩ := I_of a
  have hM := hA.1
  have hW := hA.2.2.1
  have w00 := hW.1
  have c1 := hB.2.2.1.1
  have ref0 : ¬ ((20 ≤ z ∧ z ≤ 90) ∧ m 0 = 0) → wpX12_life (II z) σ (Q2 (II 0)) := by
    intro hz
    have e0 : gI σ 76 0 = II (m 0) := hM 0
    simp only [wpX12_life, I_lit]
    refine in_ok (by omega) (fun y => t1 ?_) (fun y => t0 ⟨rfl, h⟩)
    simp (disch := omega) only [I_in, true_and, I_cl, Int.reduceToNat, e0, I_le]
    exact ⟨fun x => absurd ⟨y, by omega⟩ hz, fun _ => ⟨rfl, h⟩⟩
  simp (disch := omega) only [wpX11_life, c1, I_lit, I_eq]
  refine ⟨fun y => ref0 (fun x => y x.2), fun y => wi_ok (by omega) (fun x => s1 ?_) (fun x => s0 (ref0 (fun v => x v.1)))⟩
  simp only [fe, wpX7_forgetRuns]
  have e0 : gI (sI (sI σ 9 1 (II z)) 64 6 0) 76 0 = II (m 0) := by rw [rI2 (by omega), rI2 (by omega)]; exact hM 0
  show wpX12_life (II z) (sI (sI σ 9 1 (II z)) 64 6 0) (Q2 (II 1))
  simp only [wpX12_life]
  rw [I_lit, I_lit]
  refine in_ok (by omega) (fun _ => t1 ?_) (fun v => absurd x v)
  have c0 : (0 : Int32).toNatClampNeg = 0 := rfl
  have c6 : (6 : Int32).toNatClampNeg = 6 := rfl
  rw [c0, e0, c6]
  refine ⟨of_eq_true (I_in (a := 0) (N := 9680) (by omega)), fun _ => ⟨of_eq_true (I_in (a := 6) (N := 9680) (by omega)), ?_⟩, fun v => absurd (by rw [I_lit, I_le (by omega)]; omega) v⟩
  simp only [fe]
  refine ⟨rfl, ?_⟩
  obtain ⟨-, a2, -, a4, hZ, a6, hPW, a8, a9⟩ := hA
  obtain ⟨b1, b2, b3, b4, b5, b6, b7, b8, b9, b10, b11⟩ := hB
  have mi0 : mi 0 = 0 := by have := a9.1.1; have := a4.1; omega
  have e : ∀ q, q ≠ 9 → q ≠ 64 → q ≠ 76 → sI (sI (sI σ 9 1 (II z)) 64 6 0) 76 6 (II z) q = σ q := fun q p1 p2 p3 => by rw [ce_sI _ _ _ _ _ p3, ce_sI _ _ _ _ _ p2, ce_sI _ _ _ _ _ p1]
  have hm := RM_mu (σ := sI (sI σ 9 1 (II z)) 64 6 0) (m := m) (fun k => by rw [rI2 (by omega), rI2 (by omega)]; exact hM k) 6 z
  refine ⟨mu m 6 z, mi, U, T, ⟨hm, fun k => by rw [gI_of (e 77 (by omega) (by omega) (by omega))]; exact a2 k, ?_, a4, ?_, a6, ?_, a8, ?_⟩, ?_⟩
  · obtain ⟨w0, w1, w2, w3, w4, w5, w6, w7, w8, w9, w10, w11, w12, w13⟩ := hW
    exact ⟨by simp (disch := omega) only [mu_ne, mu_eq]; exact w0, by simp (disch := omega) only [mu_ne, mu_eq]; exact w1, by simp (disch := omega) only [mu_ne, mu_eq]; exact w2, by simp (disch := omega) only [mu_ne, mu_eq]; exact w3, by simp (disch := omega) only [mu_ne, mu_eq]; exact w4, by simp (disch := omega) only [mu_ne, mu_eq]; exact w5, by rw [mu_eq]; omega, fun s hs => by simp (disch := omega) only [mu_ne, mu_eq]; exact w7 s hs, fun c hc => by simp (disch := omega) only [mu_ne, mu_eq]; exact w8 c hc, fun n hn => by simp (disch := omega) only [mu_ne, mu_eq] at hn; simp (disch := omega) only [mu_ne, mu_eq]; exact w9 n hn, fun k hk => by simp (disch := omega) only [mu_ne, mu_eq] at hk; simp (disch := omega) only [mu_ne, mu_eq]; exact w10 k hk, fun k hk => by simp (disch := omega) only [mu_ne, mu_eq] at hk; simp (disch := omega) only [mu_ne, mu_eq]; exact w11 k hk, fun y hy => by simp (disch := omega) only [mu_ne, mu_eq] at hy; exact ⟨fun c hc => by simp (disch := omega) only [mu_ne, mu_eq]; exact (w12 y hy).1 c hc, fun s hs => by simp (disch := omega) only [mu_ne, mu_eq]; exact (w12 y hy).2 s hs⟩, fun Y hY c hc n hn => by simp (disch := omega) only [mu_ne, mu_eq]; exact w13 Y hY c hc n hn⟩
  · exact fun Y hY c hc n hn h1 => by simp (disch := omega) only [mu_ne, mu_eq] at h1; simp (disch := omega) only [mu_ne, mu_eq]; exact hZ Y hY c hc n hn h1
  · exact fun k hk => by simp (disch := omega) only [mu_ne, mu_eq] at hk; simp (disch := omega) only [mu_ne, mu_eq]; exact hPW k hk
  · refine ⟨?_, fun v => absurd v (by omega)⟩
    obtain ⟨p0, p1, p2, p3, p4, p5, p6, p7, p8, p9, p10, p11, p12, p13, p14⟩ := a9.1
    exact ⟨p0, p1, p2, p3, p4, p5, fun n hn => by simp (disch := omega) only [mu_ne, mu_eq]; exact p6 n hn, fun n h1 h2 => by simp (disch := omega) only [mu_ne] at h2 ⊢; exact p7 n h1 h2, fun k hk => by simp (disch := omega) only [mu_ne, mu_eq]; exact p8 k hk, fun k h1 h2 => by simp (disch := omega) only [mu_ne] at h2 ⊢; exact p9 k h1 h2, fun k hk => by simp (disch := omega) only [mu_ne, mu_eq]; exact p10 k hk, fun k h1 h2 => by simp (disch := omega) only [mu_ne] at h2 ⊢; exact p11 k h1 h2, fun y hy c hc => by simp (disch := omega) only [mu_ne, mu_eq]; exact p12 y hy c hc, fun k hk j hj => by simp (disch := omega) only [mu_ne, mu_eq]; exact p13 k hk j hj, fun k hk => by simp (disch := omega) only [mu_ne, mu_eq]; exact p14 k hk⟩
  · have hrun : run (KK (mu m 6 z) U T) 0 = run (KK m U T) 0 := by
      show G0 (mu m 6 z) _ = G0 m _
      funext Y c n
      unfold G0
      rw [kn_KB, kn_KB, mu_ne (by omega)]
      split
      · rw [mu_ne (by omega)]
      · rfl
    refine ⟨NMs_c b1 (fun q p1 p2 => e q (by omega) (by omega) (by omega)) (e 78 (by omega) (by omega) (by omega)) (mu_ne (by omega)) (fun n hn => ⟨mu_ne (by omega), mu_ne (by omega)⟩), ⟨NP_c b2.1 (e 83 (by omega) (by omega) (by omega)) (e 84 (by omega) (by omega) (by omega)), RW_eq b2.2 (fun q p1 p2 => e q (by omega) (by omega) (by omega))⟩, ?_, ⟨CW_eq hW.2.2.2.2.1.2 b4.1 (fun q p1 p2 => e q (by omega) (by omega) (by omega)), by rw [gI_of (e 0 (by omega) (by omega) (by omega))]; exact b4.2⟩, ?_, ?_, PRs_c b7 (fun q p1 p2 => e q (by omega) (by omega) (by omega)) (by rw [rI2 (by omega), rI3 (by omega), rI2 (by omega)]) (mu_ne (by omega)) (fun k hk j hj => mu_ne (by omega)), RUs_0 (by rw [rI2 (by omega), rI1]; rfl), by rw [gI_of (e 47 (by omega) (by omega) (by omega)), gI_of (e 47 (by omega) (by omega) (by omega))]; exact b9, TPs_c b10 (fun k _ => by rw [gI_of (e 42 (by omega) (by omega) (by omega))]) (e 43 (by omega) (by omega) (by omega)) (e 79 (by omega) (by omega) (by omega)) (fun k p1 p2 => by rw [gI_of (e 75 (by omega) (by omega) (by omega))]), IMs_c b11 (fun q p1 p2 => e q (by omega) (by omega) (by omega))⟩
    · obtain ⟨d1, d2, d3, d4, d5, d6, d7, d8, d9, d10, d11⟩ := b3
      have g : ∀ q k, q ≠ 9 → q ≠ 64 → q ≠ 76 → gI (sI (sI (sI σ 9 1 (II z)) 64 6 0) 76 6 (II z)) q k = gI σ q k := fun q k p1 p2 p3 => gI_of (e q p1 p2 p3) k
      refine ⟨?_, ?_, ?_, ?_, fun Y p c q n r => by rw [g _ _ (by omega) (by omega) (by omega), mu_ne (by omega)]; exact d5 Y p c q n r, fun c q => by rw [g _ _ (by omega) (by omega) (by omega), mu_ne (by omega)]; exact d6 c q, fun y p c q => by rw [mu_ne (by omega)] at p; rw [g _ _ (by omega) (by omega) (by omega), mu_ne (by omega)]; exact d7 y p c q, fun c q => by rw [g _ _ (by omega) (by omega) (by omega), mu_ne (by omega)]; exact d8 c q, fun y p c q => by rw [mu_ne (by omega)] at p; rw [g _ _ (by omega) (by omega) (by omega), mu_ne (by omega)]; exact d9 y p c q, fun k p => by rw [mu_ne (by omega)] at p; rw [g _ _ (by omega) (by omega) (by omega), g _ _ (by omega) (by omega) (by omega), mu_ne (by omega), mu_ne (by omega)]; exact d10 k p, fun k p => by rw [mu_ne (by omega)] at p; rw [g _ _ (by omega) (by omega) (by omega), g _ _ (by omega) (by omega) (by omega), g _ _ (by omega) (by omega) (by omega), mu_ne (by omega), mu_ne (by omega), mu_ne (by omega)]; exact d11 k p⟩
      · rw [rI2 (by omega), rI2 (by omega), rI3 (by omega), mu_ne (by omega)]; exact d1
      · rw [rI2 (by omega), rI2 (by omega), rI1, mu_eq]
      · rw [rI2 (by omega), rI2 (by omega), rI3 (by omega), mu_ne (by omega)]; exact d3
      · rw [rI2 (by omega), rI2 (by omega), rI3 (by omega), mu_ne (by omega)]; exact d4
    · rw [mu_ne (by omega), show (m 0).toNat = 0 by omega, hrun]
      rw [show (m 0).toNat = 0 by omega] at b5
      exact Bk_eq b5 (fun q p1 p2 => e q (by omega) (by omega) (by omega))
    · intro y hy
      rw [mu_ne (by omega)] at hy
      omega
theorem cradles_ok {σ : St} (h : Inv σ) (a b c d : Int32) : wpX11_cradles a b c d σ (fun r τ => wpX12_cradles a b c d τ (Q2 r)) := by
  obtain ⟨m, mi, U, T, hA, hB⟩ := id h
  obtain ⟨p, p1, p2, rfl⟩ := I_of a
  obtain ⟨s, q1, q2, rfl⟩ := I_of b
  obtain ⟨x, x1, x2, rfl⟩ := I_of c
  obtain ⟨v, v1, v2, rfl⟩ := I_of d
  have hM := hA.1
  have hW := hA.2.2.1
  have w00 := hW.1
  have w55 := hW.2.2.2.2.2.1
  have ref0 : ¬ (((0 ≤ p ∧ p ≤ 2) ∧ (0 ≤ s ∧ s ≤ 1) ∧ (0 ≤ x ∧ x ≤ 1)) ∧ (0 ≤ v ∧ v ≤ 6)) → wpX12_cradles (II p) (II s) (II x) (II v) σ (Q2 (II 0)) := by
    intro hz
    unfold wpX12_cradles
    refine isCradle_ok (by omega) (fun y => t1 ?_) (fun y => t0 ⟨rfl, h⟩)
    simp only [I_lit]
    exact in_ok (by omega) (fun w => absurd ⟨y, w⟩ hz) (fun w => s0 ⟨rfl, h⟩)
  unfold wpX11_cradles
  refine isRow_ok (by omega) (fun y => t1 ?_) (fun y => t0 (ref0 (fun w => y w.1)))
  simp only [I_lit]
  refine wi_ok (by omega) (fun w => s1 ?_) (fun w => s0 (ref0 (fun z => w z.2)))
  obtain ⟨C, hC, hCe⟩ : ∃ C : Nat, C < 12 ∧ (p * 2 + s) * 2 + x = C := ⟨((p * 2 + s) * 2 + x).toNat, by omega, by omega⟩
  simp (disch := omega) only [wpX4_row, I_lit, I_mul, I_add, I_in, true_and, I_cl, fe, wpX7_forgetRuns, hCe, Int.toNat_natCast]
  show wpX12_cradles (II p) (II s) (II x) (II v) (sI (sI σ 11 C (II v)) 64 6 (II 0)) (Q2 (II 1))
  unfold wpX12_cradles
  refine isCradle_ok (by omega) (fun _ => t1 ?_) (fun z => absurd y z)
  simp only [I_lit]
  refine in_ok (by omega) (fun _ => s1 ?_) (fun z => absurd w z)
  simp (disch := omega) only [wpX12_cell, I_lit, I_mul, I_add, hCe, I_in, true_and, I_cl, fe]
  rw [show (10 + (C : Int)).toNat = 10 + C by omega]
  refine ⟨rfl, ?_⟩
  have e : ∀ q, q ≠ 11 → q ≠ 64 → q ≠ 76 → sI (sI (sI σ 11 C (II v)) 64 6 (II 0)) 76 (10 + C) (II v) q = σ q := fun q p1 p2 p3 => by rw [ce_sI _ _ _ _ _ p3, ce_sI _ _ _ _ _ p2, ce_sI _ _ _ _ _ p1]
  have hm := RM_mu (σ := sI (sI σ 11 C (II v)) 64 6 (II 0)) (m := m) (fun k => by rw [rI2 (by omega), rI2 (by omega)]; exact hM k) (10 + C) v
  have hZ := hA.2.2.2.2.1
  have hPW := hA.2.2.2.2.2.2.1
  obtain ⟨b1, b2, b3, b4, b5, b6, b7, b8, b9, b10, b11⟩ := id hB
  refine Inv_step (m' := mu m (10 + C) v) (U' := U) (T' := T) hA hB (by simp (disch := omega) only [mu_ne, mu_eq]) ⟨by simp (disch := omega) only [mu_ne, mu_eq]; exact Int.le_refl _, by simp (disch := omega) only [mu_ne, mu_eq]; exact Int.le_refl _, by simp (disch := omega) only [mu_ne, mu_eq]; exact Int.le_refl _, by simp (disch := omega) only [mu_ne, mu_eq]; exact Int.le_refl _, by simp (disch := omega) only [mu_ne, mu_eq]; exact Int.le_refl _, by simp (disch := omega) only [mu_ne, mu_eq]; exact Int.le_refl _, fun n hn => ⟨by simp (disch := omega) only [mu_ne, mu_eq], by simp (disch := omega) only [mu_ne, mu_eq]⟩, fun n h1 h2 => by simp (disch := omega) only [mu_ne, mu_eq] at h2; omega, fun k hk => ⟨by simp (disch := omega) only [mu_ne, mu_eq], by simp (disch := omega) only [mu_ne, mu_eq]⟩, fun k h1 h2 => by simp (disch := omega) only [mu_ne, mu_eq] at h2; omega, fun k hk => ⟨by simp (disch := omega) only [mu_ne, mu_eq], by simp (disch := omega) only [mu_ne, mu_eq], by simp (disch := omega) only [mu_ne, mu_eq]⟩, fun k h1 h2 => by simp (disch := omega) only [mu_ne, mu_eq] at h2; omega, fun y hy c hc => by simp (disch := omega) only [mu_ne, mu_eq], fun k hk j hj => by simp (disch := omega) only [mu_ne, mu_eq], fun k hk => by simp (disch := omega) only [mu_ne, mu_eq]⟩ ⟨by simp (disch := omega) only [mu_ne, mu_eq], fun Y hY c hc n hn => by simp (disch := omega) only [mu_ne, mu_eq]⟩ ?_ (fun Y hY c hc n hn h1 => by simp (disch := omega) only [mu_ne, mu_eq] at h1; simp (disch := omega) only [mu_ne, mu_eq]; exact hZ Y hY c hc n hn h1) ?_ (fun _ _ => ⟨rfl, rfl, rfl, rfl⟩) (fun _ _ => rfl) hm (e 77 (by omega) (by omega) (by omega)) (NMs_c b1 (fun q p1 p2 => e q (by omega) (by omega) (by omega)) (e 78 (by omega) (by omega) (by omega)) (mu_ne (by omega)) (fun n hn => ⟨mu_ne (by omega), mu_ne (by omega)⟩)) (by simp (disch := omega) only [mu_ne, mu_eq]; exact NP_c b2.1 (e 83 (by omega) (by omega) (by omega)) (e 84 (by omega) (by omega) (by omega))) (by simp (disch := omega) only [mu_ne, mu_eq]; exact RW_eq b2.2 (fun q p1 p2 => e q (by omega) (by omega) (by omega))) ?_ (by simp (disch := omega) only [mu_ne, mu_eq]; exact CW_eq hW.2.2.2.2.1.2 b4.1 (fun q p1 p2 => e q (by omega) (by omega) (by omega))) (by rw [gI_of (e 0 (by omega) (by omega) (by omega))]; simp (disch := omega) only [mu_ne, mu_eq]; exact b4.2) (fun q p1 p2 => e q (by omega) (by omega) (by omega)) (e 15 (by omega) (by omega) (by omega)) (PRs_c b7 (fun q p1 p2 => e q (by omega) (by omega) (by omega)) (by rw [rI2 (by omega), rI3 (by omega), rI2 (by omega)]) (mu_ne (by omega)) (fun k hk j hj => mu_ne (by omega))) (RUs_0 (by rw [rI2 (by omega), rI1])) ⟨by rw [gI_of (e 47 (by omega) (by omega) (by omega))], by rw [gI_of (e 47 (by omega) (by omega) (by omega))]⟩ (TPs_c b10 (fun k _ => by rw [gI_of (e 42 (by omega) (by omega) (by omega))]) (e 43 (by omega) (by omega) (by omega)) (e 79 (by omega) (by omega) (by omega)) (fun k p1 p2 => by rw [gI_of (e 75 (by omega) (by omega) (by omega))])) (fun q p1 p2 => e q (by omega) (by omega) (by omega))
  · obtain ⟨w0, w1, w2, w3, w4, w5, w6, w7, w8, w9, w10, w11, w12, w13⟩ := hW
    exact ⟨by simp (disch := omega) only [mu_ne, mu_eq]; exact w0, by simp (disch := omega) only [mu_ne, mu_eq]; exact w1, by simp (disch := omega) only [mu_ne, mu_eq]; exact w2, by simp (disch := omega) only [mu_ne, mu_eq]; exact w3, by simp (disch := omega) only [mu_ne, mu_eq]; exact w4, by simp (disch := omega) only [mu_ne, mu_eq]; exact w5, by simp (disch := omega) only [mu_ne, mu_eq]; exact w6, fun s hs => by simp (disch := omega) only [mu_ne, mu_eq]; exact w7 s hs, fun c hc => by
      by_cases ec : c = C
      · subst ec; rw [mu_eq]; omega
      · rw [mu_ne (by omega)]; exact w8 c hc, fun n hn => by simp (disch := omega) only [mu_ne, mu_eq] at hn; simp (disch := omega) only [mu_ne, mu_eq]; exact w9 n hn, fun k hk => by simp (disch := omega) only [mu_ne, mu_eq] at hk; simp (disch := omega) only [mu_ne, mu_eq]; exact w10 k hk, fun k hk => by simp (disch := omega) only [mu_ne, mu_eq] at hk; simp (disch := omega) only [mu_ne, mu_eq]; exact w11 k hk, fun y hy => by simp (disch := omega) only [mu_ne, mu_eq] at hy; exact ⟨fun c hc => by simp (disch := omega) only [mu_ne, mu_eq]; exact (w12 y hy).1 c hc, fun s hs => by simp (disch := omega) only [mu_ne, mu_eq]; exact (w12 y hy).2 s hs⟩, fun Y hY c hc n hn => by simp (disch := omega) only [mu_ne, mu_eq]; exact w13 Y hY c hc n hn⟩
  · exact fun k hk => by simp (disch := omega) only [mu_ne, mu_eq] at hk; simp (disch := omega) only [mu_ne, mu_eq]; exact hPW k hk
  · obtain ⟨d1, d2, d3, d4, d5, d6, d7, d8, d9, d10, d11⟩ := b3
    have g : ∀ q k, q ≠ 11 → q ≠ 64 → q ≠ 76 → gI (sI (sI (sI σ 11 C (II v)) 64 6 (II 0)) 76 (10 + C) (II v)) q k = gI σ q k := fun q k p1 p2 p3 => gI_of (e q p1 p2 p3) k
    have w2 := hW.2.2.1
    have w3 := hW.2.2.2.1
    refine ⟨?_, ?_, ?_, ?_, fun Y p c q n r => by rw [g _ _ (by omega) (by omega) (by omega), mu_ne (by omega)]; exact d5 Y p c q n r, fun c q => ?_, fun y p c q => by rw [mu_ne (by omega)] at p; rw [g _ _ (by omega) (by omega) (by omega), mu_ne (by omega)]; exact d7 y p c q, fun c q => by rw [g _ _ (by omega) (by omega) (by omega), mu_ne (by omega)]; exact d8 c q, fun y p c q => by rw [mu_ne (by omega)] at p; rw [g _ _ (by omega) (by omega) (by omega), mu_ne (by omega)]; exact d9 y p c q, fun k p => by rw [mu_ne (by omega)] at p; rw [g _ _ (by omega) (by omega) (by omega), g _ _ (by omega) (by omega) (by omega), mu_ne (by omega), mu_ne (by omega)]; exact d10 k p, fun k p => by rw [mu_ne (by omega)] at p; rw [g _ _ (by omega) (by omega) (by omega), g _ _ (by omega) (by omega) (by omega), g _ _ (by omega) (by omega) (by omega), mu_ne (by omega), mu_ne (by omega), mu_ne (by omega)]; exact d11 k p⟩
    · rw [g _ _ (by omega) (by omega) (by omega), mu_ne (by omega)]; exact d1
    · rw [g _ _ (by omega) (by omega) (by omega), mu_ne (by omega)]; exact d2
    · rw [g _ _ (by omega) (by omega) (by omega), mu_ne (by omega)]; exact d3
    · rw [g _ _ (by omega) (by omega) (by omega), mu_ne (by omega)]; exact d4
    · rw [rI2 (by omega), rI2 (by omega)]
      by_cases ec : c = C
      · subst ec; rw [rI1, mu_eq]
      · rw [rI3 ec, mu_ne (by omega)]; exact d6 c q
