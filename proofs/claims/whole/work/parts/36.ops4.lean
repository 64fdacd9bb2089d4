theorem film_ok {σ : St} (h : Inv σ) (a b c : Int32) : wpX11_film a b c σ (fun r τ => wpX12_film a b c τ (Q2 r)) := by
  obtain ⟨m, mi, U, T, hA, hB⟩ := id h
  obtain ⟨n, n1', n2', rfl⟩ := I_of a
  obtain ⟨y, y1, y2, rfl⟩ := I_of b
  obtain ⟨v, v1, v2, rfl⟩ := I_of c
  have hM := hA.1
  have hW := hA.2.2.1
  have w00 := hW.1
  have w11 := hW.2.1
  have w22 := hW.2.2.1
  have w33 := hW.2.2.2.1
  have w44 := hW.2.2.2.2.1
  have w55 := hW.2.2.2.2.2.1
  have c1 := hB.2.2.1.1
  have n1 := hB.1.1
  have c4 := hB.2.2.1.2.2.2.1
  have ref0 : ¬ (m 3 < 8 ∧ (0 ≤ n ∧ n < m 1) ∧ (m 0 ≤ y ∧ y ≤ 60) ∧ (1 ≤ v ∧ v ≤ 999)) → wpX12_film (II n) (II y) (II v) σ (Q2 (II (-1))) := by
    intro hz
    unfold wpX12_film
    refine isName_ok hM w11 (by omega) (fun z1 => t1 ?_) (fun z1 => t0 ⟨rfl, h⟩)
    simp (disch := omega) only [I_lit, I_in, true_and, I_cl, Int.reduceToNat, hM 0]
    refine in_ok (by omega) (fun z2 => t1 ?_) (fun z2 => t0 ⟨rfl, h⟩)
    refine in_ok (by omega) (fun z3 => t1 ?_) (fun z3 => t0 ⟨rfl, h⟩)
    simp (disch := omega) only [I_lit, I_in, true_and, I_cl, Int.reduceToNat, hM 3, I_eq]
    exact ⟨fun x => absurd ⟨by omega, z1, z2, z3⟩ hz, fun x => ⟨rfl, h⟩⟩
  unfold wpX11_film
  rw [c4, I_lit]
  refine ⟨fun z => ref0 (by rw [I_le (by omega)] at z; omega), fun z => ?_⟩
  rw [I_le (by omega)] at z
  refine has_ok n1 w11 (by omega) (fun z1 => s1 ?_) (fun z1 => s0 (ref0 (fun w => z1 w.2.1)))
  rw [c1]
  refine wi_ok (by omega) (fun z2 => t1 ?_) (fun z2 => t0 (ref0 (fun w => z2 w.2.2.1)))
  refine wi_ok (by omega) (fun z3 => s1 ?_) (fun z3 => s0 (ref0 (fun w => z3 w.2.2.2)))
  obtain ⟨L, hL, hLe⟩ : ∃ L : Nat, L < 8 ∧ m 3 = L := ⟨(m 3).toNat, by omega, by omega⟩
  have g8 : gI (sI σ 64 6 (II 0)) 9 11 = II (L : Int) := by rw [rI2 (by omega), c4, hLe]
  simp only [fe, wpX7_forgetRuns]
  simp (disch := omega) only [wpX4_addFilm, I_lit, g8, I_lt, I_in, true_and, I_cl, Int.toNat_natCast, fe, rI2, I_add, rI1, I_sub]
  refine ⟨fun _ => ?_, fun w => absurd (by omega) w⟩
  show wpX12_film (II n) (II y) (II v) (sI (sI (sI (sI (sI σ 64 6 (II 0)) 18 L (II n)) 19 L (II y)) 20 L (II v)) 9 11 (II ((L : Int) + 1))) (Q2 (II ((L : Int) + 1 - 1)))
  have hM' : RM (sI (sI (sI (sI (sI σ 64 6 (II 0)) 18 L (II n)) 19 L (II y)) 20 L (II v)) 9 11 (II ((L : Int) + 1))) m := fun k => by rw [rI2 (by omega), rI2 (by omega), rI2 (by omega), rI2 (by omega), rI2 (by omega)]; exact hM k
  have m3 : gI (sI (sI (sI (sI (sI σ 64 6 (II 0)) 18 L (II n)) 19 L (II y)) 20 L (II v)) 9 11 (II ((L : Int) + 1))) 76 3 = II (L : Int) := by rw [hM' 3, hLe]
  have m0 : gI (sI (sI (sI (sI (sI σ 64 6 (II 0)) 18 L (II n)) 19 L (II y)) 20 L (II v)) 9 11 (II ((L : Int) + 1))) 76 0 = II (m 0) := hM' 0
  have hm := RM_mu (RM_mu (RM_mu (RM_mu hM' (70 + 3 * L) n) (70 + 3 * L + 1) y) (70 + 3 * L + 2) v) 3 ((L : Int) + 1)
  have j0 : (70 + 3 * (L : Int)).toNat = 70 + 3 * L := by omega
  have j1 : (70 + 3 * (L : Int) + 1).toNat = 70 + 3 * L + 1 := by omega
  have j2 : (70 + 3 * (L : Int) + 2).toNat = 70 + 3 * L + 2 := by omega
  generalize hτ : sI (sI (sI (sI (sI σ 64 6 (II 0)) 18 L (II n)) 19 L (II y)) 20 L (II v)) 9 11 (II ((L : Int) + 1)) = τ at *
  unfold wpX12_film
  refine isName_ok hM' w11 (by omega) (fun _ => t1 ?_) (fun w => absurd z1 w)
  simp (disch := omega) only [I_lit, I_in, true_and, I_cl, Int.reduceToNat, m0]
  refine in_ok (by omega) (fun _ => t1 ?_) (fun w => absurd z2 w)
  refine in_ok (by omega) (fun _ => t1 ?_) (fun w => absurd z3 w)
  simp (disch := omega) only [I_lit, Int.reduceToNat, I_eq, fe, I_mul, I_add, j0, j1, j2, m3, I_in, true_and, I_cl, rI3, rI1, I_sub]
  refine ⟨fun _ => ⟨rfl, ?_⟩, fun w => absurd w (by omega)⟩
  have e : ∀ q, q ≠ 64 → q ≠ 18 → q ≠ 19 → q ≠ 20 → q ≠ 9 → q ≠ 76 → sI (sI (sI (sI τ 76 (70 + 3 * L) (II n)) 76 (70 + 3 * L + 1) (II y)) 76 (70 + 3 * L + 2) (II v)) 76 3 (II ((L : Int) + 1)) q = σ q := fun q p1 p2 p3 p4 p5 p6 => by rw [ce_sI _ _ _ _ _ p6, ce_sI _ _ _ _ _ p6, ce_sI _ _ _ _ _ p6, ce_sI _ _ _ _ _ p6, ← hτ, ce_sI _ _ _ _ _ p5, ce_sI _ _ _ _ _ p4, ce_sI _ _ _ _ _ p3, ce_sI _ _ _ _ _ p2, ce_sI _ _ _ _ _ p1]
  have et : ∀ q, q ≠ 76 → sI (sI (sI (sI τ 76 (70 + 3 * L) (II n)) 76 (70 + 3 * L + 1) (II y)) 76 (70 + 3 * L + 2) (II v)) 76 3 (II ((L : Int) + 1)) q = τ q := fun q p5 => by rw [ce_sI _ _ _ _ _ p5, ce_sI _ _ _ _ _ p5, ce_sI _ _ _ _ _ p5, ce_sI _ _ _ _ _ p5]
  have hZ := hA.2.2.2.2.1
  have hPW := hA.2.2.2.2.2.2.1
  obtain ⟨b1, b2, b3, b4, b5, b6, b7, b8, b9, b10, b11⟩ := id hB
  refine Inv_step (m' := mu (mu (mu (mu m (70 + 3 * L) n) (70 + 3 * L + 1) y) (70 + 3 * L + 2) v) 3 ((L : Int) + 1)) (U' := U) (T' := T) hA hB (by simp (disch := omega) only [mu_ne, mu_eq]) ⟨by simp (disch := omega) only [mu_ne, mu_eq]; exact Int.le_refl _, by simp (disch := omega) only [mu_ne, mu_eq]; exact Int.le_refl _, by simp (disch := omega) only [mu_ne, mu_eq]; exact Int.le_refl _, by simp (disch := omega) only [mu_ne, mu_eq]; omega, by simp (disch := omega) only [mu_ne, mu_eq]; exact Int.le_refl _, by simp (disch := omega) only [mu_ne, mu_eq]; exact Int.le_refl _, fun n hn => ⟨by simp (disch := omega) only [mu_ne, mu_eq], by simp (disch := omega) only [mu_ne, mu_eq]⟩, fun n h1 h2 => by simp (disch := omega) only [mu_ne, mu_eq] at h2; omega, fun k hk => ⟨by simp (disch := omega) only [mu_ne, mu_eq], by simp (disch := omega) only [mu_ne, mu_eq]⟩, fun k h1 h2 => by simp (disch := omega) only [mu_ne, mu_eq] at h2; omega, fun k hk => ⟨by simp (disch := omega) only [mu_ne, mu_eq], by simp (disch := omega) only [mu_ne, mu_eq], by simp (disch := omega) only [mu_ne, mu_eq]⟩, fun k h1 h2 => by
      simp (disch := omega) only [mu_eq] at h2
      have ec : k = L := by omega
      subst ec; simp (disch := omega) only [mu_ne, mu_eq]; omega, fun y hy c hc => by simp (disch := omega) only [mu_ne, mu_eq], fun k hk j hj => by simp (disch := omega) only [mu_ne, mu_eq], fun k hk => by simp (disch := omega) only [mu_ne, mu_eq]⟩ ⟨by simp (disch := omega) only [mu_ne, mu_eq], fun Y hY c hc n hn => by simp (disch := omega) only [mu_ne, mu_eq]⟩ ?_ (fun Y hY c hc n hn h1 => by simp (disch := omega) only [mu_ne, mu_eq] at h1; simp (disch := omega) only [mu_ne, mu_eq]; exact hZ Y hY c hc n hn h1) ?_ (fun _ _ => ⟨rfl, rfl, rfl, rfl⟩) (fun _ _ => rfl) hm (e 77 (by omega) (by omega) (by omega) (by omega) (by omega) (by omega)) (NMs_c b1 (fun q p1 p2 => e q (by omega) (by omega) (by omega) (by omega) (by omega) (by omega)) (e 78 (by omega) (by omega) (by omega) (by omega) (by omega) (by omega)) (by simp (disch := omega) only [mu_ne, mu_eq]) (fun n hn => ⟨by simp (disch := omega) only [mu_ne, mu_eq], by simp (disch := omega) only [mu_ne, mu_eq]⟩)) (by simp (disch := omega) only [mu_ne, mu_eq]; exact NP_c b2.1 (e 83 (by omega) (by omega) (by omega) (by omega) (by omega) (by omega)) (e 84 (by omega) (by omega) (by omega) (by omega) (by omega) (by omega))) (by simp (disch := omega) only [mu_ne, mu_eq]; exact RW_eq b2.2 (fun q p1 p2 => e q (by omega) (by omega) (by omega) (by omega) (by omega) (by omega))) ?_ (by simp (disch := omega) only [mu_ne, mu_eq]; exact CW_eq hW.2.2.2.2.1.2 b4.1 (fun q p1 p2 => e q (by omega) (by omega) (by omega) (by omega) (by omega) (by omega))) (by rw [gI_of (e 0 (by omega) (by omega) (by omega) (by omega) (by omega) (by omega))]; simp (disch := omega) only [mu_ne, mu_eq]; exact b4.2) (fun q p1 p2 => e q (by omega) (by omega) (by omega) (by omega) (by omega) (by omega)) (e 15 (by omega) (by omega) (by omega) (by omega) (by omega) (by omega)) (PRs_c b7 (fun q p1 p2 => e q (by omega) (by omega) (by omega) (by omega) (by omega) (by omega)) (by rw [gI_of (et 64 (by omega)), ← hτ]; simp (disch := omega) only [rI2, rI3]) (by simp (disch := omega) only [mu_ne, mu_eq]) (fun k hk j hj => by simp (disch := omega) only [mu_ne, mu_eq])) (RUs_0 (by rw [gI_of (et 64 (by omega)), ← hτ]; simp (disch := omega) only [rI2, rI1])) ⟨by rw [gI_of (e 47 (by omega) (by omega) (by omega) (by omega) (by omega) (by omega))], by rw [gI_of (e 47 (by omega) (by omega) (by omega) (by omega) (by omega) (by omega))]⟩ (TPs_c b10 (fun k _ => by rw [gI_of (e 42 (by omega) (by omega) (by omega) (by omega) (by omega) (by omega))]) (e 43 (by omega) (by omega) (by omega) (by omega) (by omega) (by omega)) (e 79 (by omega) (by omega) (by omega) (by omega) (by omega) (by omega)) (fun k p1 p2 => by rw [gI_of (e 75 (by omega) (by omega) (by omega) (by omega) (by omega) (by omega))])) (fun q p1 p2 => e q (by omega) (by omega) (by omega) (by omega) (by omega) (by omega))
  · obtain ⟨w0, w1, w2, w3, w4, w5, w6, w7, w8, w9, w10, w11, w12, w13⟩ := hW
    exact ⟨by simp (disch := omega) only [mu_ne, mu_eq]; exact w0, by simp (disch := omega) only [mu_ne, mu_eq]; exact w1, by simp (disch := omega) only [mu_ne, mu_eq]; exact w2, by simp (disch := omega) only [mu_ne, mu_eq]; omega, by simp (disch := omega) only [mu_ne, mu_eq]; exact w4, by simp (disch := omega) only [mu_ne, mu_eq]; exact w5, by simp (disch := omega) only [mu_ne, mu_eq]; exact w6, fun s hs => by simp (disch := omega) only [mu_ne, mu_eq]; exact w7 s hs, fun c hc => by simp (disch := omega) only [mu_ne, mu_eq]; exact w8 c hc, fun n hn => by simp (disch := omega) only [mu_ne, mu_eq] at hn; simp (disch := omega) only [mu_ne, mu_eq]; exact w9 n hn, fun k hk => by simp (disch := omega) only [mu_ne, mu_eq] at hk; simp (disch := omega) only [mu_ne, mu_eq]; exact w10 k hk, fun k hk => by
      simp (disch := omega) only [mu_eq] at hk
      by_cases ec : k = L
      · subst ec; simp (disch := omega) only [mu_ne, mu_eq]; omega
      · simp (disch := omega) only [mu_ne, mu_eq]; exact w11 k (by omega), fun y hy => by simp (disch := omega) only [mu_ne, mu_eq] at hy; exact ⟨fun c hc => by simp (disch := omega) only [mu_ne, mu_eq]; exact (w12 y hy).1 c hc, fun s hs => by simp (disch := omega) only [mu_ne, mu_eq]; exact (w12 y hy).2 s hs⟩, fun Y hY c hc n hn => by simp (disch := omega) only [mu_ne, mu_eq]; exact w13 Y hY c hc n hn⟩
  · exact fun k hk => by simp (disch := omega) only [mu_ne, mu_eq] at hk; simp (disch := omega) only [mu_ne, mu_eq]; exact hPW k hk
  · obtain ⟨d1, d2, d3, d4, d5, d6, d7, d8, d9, d10, d11⟩ := b3
    have g : ∀ q k, q ≠ 64 → q ≠ 18 → q ≠ 19 → q ≠ 20 → q ≠ 9 → q ≠ 76 → gI (sI (sI (sI (sI τ 76 (70 + 3 * L) (II n)) 76 (70 + 3 * L + 1) (II y)) 76 (70 + 3 * L + 2) (II v)) 76 3 (II ((L : Int) + 1))) q k = gI σ q k := fun q k p1 p2 p3 p4 p5 p6 => gI_of (e q p1 p2 p3 p4 p5 p6) k
    have g9 : ∀ k, k ≠ 11 → gI (sI (sI (sI (sI τ 76 (70 + 3 * L) (II n)) 76 (70 + 3 * L + 1) (II y)) 76 (70 + 3 * L + 2) (II v)) 76 3 (II ((L : Int) + 1))) 9 k = gI σ 9 k := fun k hk => by rw [gI_of (et 9 (by omega)), ← hτ]; simp (disch := omega) only [rI2, rI3]
    refine ⟨?_, ?_, ?_, ?_, fun Y p c q n r => by rw [g _ _ (by omega) (by omega) (by omega) (by omega) (by omega) (by omega)]; simp (disch := omega) only [mu_ne, mu_eq]; exact d5 Y p c q n r, fun c q => by rw [g _ _ (by omega) (by omega) (by omega) (by omega) (by omega) (by omega)]; simp (disch := omega) only [mu_ne, mu_eq]; exact d6 c q, fun y p c q => by simp (disch := omega) only [mu_ne] at p; rw [g _ _ (by omega) (by omega) (by omega) (by omega) (by omega) (by omega)]; simp (disch := omega) only [mu_ne, mu_eq]; exact d7 y p c q, fun c q => by rw [g _ _ (by omega) (by omega) (by omega) (by omega) (by omega) (by omega)]; simp (disch := omega) only [mu_ne, mu_eq]; exact d8 c q, fun y p c q => by simp (disch := omega) only [mu_ne] at p; rw [g _ _ (by omega) (by omega) (by omega) (by omega) (by omega) (by omega)]; simp (disch := omega) only [mu_ne, mu_eq]; exact d9 y p c q, fun k p => by simp (disch := omega) only [mu_ne] at p; rw [g _ _ (by omega) (by omega) (by omega) (by omega) (by omega) (by omega), g _ _ (by omega) (by omega) (by omega) (by omega) (by omega) (by omega)]; simp (disch := omega) only [mu_ne, mu_eq]; exact d10 k p, fun k p => ?_⟩
    · rw [g9 0 (by omega)]; simp (disch := omega) only [mu_ne, mu_eq]; exact d1
    · rw [g9 1 (by omega)]; simp (disch := omega) only [mu_ne, mu_eq]; exact d2
    · rw [g9 8 (by omega)]; simp (disch := omega) only [mu_ne, mu_eq]; exact d3
    · rw [gI_of (et 9 (by omega)), ← hτ, rI1]; simp (disch := omega) only [mu_ne, mu_eq]
    · simp (disch := omega) only [mu_eq] at p
      rw [gI_of (et 18 (by omega)), gI_of (et 19 (by omega)), gI_of (et 20 (by omega)), ← hτ]
      by_cases ec : k = L
      · subst ec
        simp (disch := omega) only [rI1, rI2, mu_ne, mu_eq, and_self]
      · simp (disch := omega) only [rI2, rI3, mu_ne, mu_eq]; exact d11 k (by omega)
theorem isPrintable_ok {σ : St} {a b c d N : Int} {post : Int32 → St → Prop} (h : -2147483648 ≤ a ∧ a < 2147483648 ∧ -2147483648 ≤ b ∧ b < 2147483648 ∧ -2147483648 ≤ c ∧ c < 2147483648 ∧ -2147483648 ≤ d ∧ d < 2147483648) (hN : gI σ 1 0 = II N) (hN2 : 0 ≤ N ∧ N ≤ 16) (h1 : (0 ≤ a ∧ a ≤ 60) ∧ (0 ≤ b ∧ b ≤ 2) ∧ (0 ≤ c ∧ c ≤ 1) ∧ (0 ≤ d ∧ d < N) → post (II 1) σ) (h0 : ¬ ((0 ≤ a ∧ a ≤ 60) ∧ (0 ≤ b ∧ b ≤ 2) ∧ (0 ≤ c ∧ c ≤ 1) ∧ (0 ≤ d ∧ d < N)) → post (II 0) σ) : wpX11_isPrintable (II a) (II b) (II c) (II d) σ post := by
  unfold wpX11_isPrintable
  simp only [I_lit]
  refine wi_ok (by omega) (fun z => t1 ?_) (fun z => t0 (h0 (fun w => z w.1)))
  refine isRow_ok (by omega) (fun z1 => t1 ?_) (fun z1 => t0 (h0 (fun w => z1 ⟨w.2.1, by omega, w.2.2.1⟩)))
  exact has_ok hN hN2 (by omega) (fun z2 => t1 (h1 ⟨z, z1.1, z1.2.2, z2⟩)) (fun z2 => t0 (h0 (fun w => z2 w.2.2.2)))
theorem print_ok {σ : St} (h : Inv σ) (a b c d f : Int32) : wpX11_print a b c d f σ (fun r τ => wpX12_print a b c d f τ (Q2 r)) := by
  obtain ⟨m, mi, U, T, hA, hB⟩ := id h
  obtain ⟨y, y1, y2, rfl⟩ := I_of a
  obtain ⟨p, p1, p2, rfl⟩ := I_of b
  obtain ⟨x, x1, x2, rfl⟩ := I_of c
  obtain ⟨n, n1', n2', rfl⟩ := I_of d
  obtain ⟨v, v1, v2, rfl⟩ := I_of f
  have hM := hA.1
  have hW := hA.2.2.1
  have w00 := hW.1
  have w11 := hW.2.1
  have w22 := hW.2.2.1
  have w33 := hW.2.2.2.1
  have w44 := hW.2.2.2.2.1
  have w55 := hW.2.2.2.2.2.1
  have c1 := hB.2.2.1.1
  have n1 := hB.1.1
  have c5 := hB.2.2.2.2.2.2.1.1
  have ref0 : ¬ (m 5 < 150 ∧ ((0 ≤ y ∧ y ≤ 60) ∧ (0 ≤ p ∧ p ≤ 2) ∧ (0 ≤ x ∧ x ≤ 1) ∧ (0 ≤ n ∧ n < m 1)) ∧ (0 ≤ v ∧ v ≤ 99)) → wpX12_print (II y) (II p) (II x) (II n) (II v) σ (Q2 (II (-1))) := by
    intro hz
    unfold wpX12_print
    simp only [I_lit]
    refine in_ok (by omega) (fun z1 => t1 ?_) (fun z1 => t0 ⟨rfl, h⟩)
    refine in_ok (by omega) (fun z2 => t1 ?_) (fun z2 => t0 ⟨rfl, h⟩)
    refine in_ok (by omega) (fun z3 => t1 ?_) (fun z3 => t0 ⟨rfl, h⟩)
    refine isName_ok hM w11 (by omega) (fun z4 => t1 ?_) (fun z4 => t0 ⟨rfl, h⟩)
    refine in_ok (by omega) (fun z5 => t1 ?_) (fun z5 => t0 ⟨rfl, h⟩)
    simp (disch := omega) only [I_lit, I_in, true_and, I_cl, Int.reduceToNat, hM 5, I_eq]
    exact ⟨fun w => absurd ⟨by omega, ⟨z1, z2, z3, z4⟩, z5⟩ hz, fun w => ⟨rfl, h⟩⟩
  unfold wpX11_print
  rw [c5, I_lit]
  refine ⟨fun z => ref0 (by rw [I_le (by omega)] at z; omega), fun z => ?_⟩
  rw [I_le (by omega)] at z
  refine isPrintable_ok (by omega) n1 w11 (fun z1 => t1 ?_) (fun z1 => t0 (ref0 (fun w => z1 w.2.1)))
  refine wi_ok (by omega) (fun z2 => s1 ?_) (fun z2 => s0 (ref0 (fun w => z2 w.2.2)))
  obtain ⟨L, hL, hLe⟩ : ∃ L : Nat, L < 150 ∧ m 5 = L := ⟨(m 5).toNat, by omega, by omega⟩
  have g8 : gI σ 64 0 = II (L : Int) := by rw [c5, hLe]
  simp (disch := omega) only [wpX7_spot, wpX7_add, c1, I_lit, I_mul, I_add, g8, I_le, I_in, true_and, I_cl, Int.toNat_natCast, fe, rI2, rI1]
  refine ⟨fun w => absurd w (by omega), fun _ => ?_⟩
  show wpX12_print (II y) (II p) (II x) (II n) (II v) (sI (sI (sI (sI (sI σ 65 L (II y)) 66 L (II ((p * 2 + x) * 16 + n))) 67 L (II v)) 68 L (II (m 0))) 64 0 (II ((L : Int) + 1))) (Q2 (II ((L : Int) + 1)))
  have hM' : RM (sI (sI (sI (sI (sI σ 65 L (II y)) 66 L (II ((p * 2 + x) * 16 + n))) 67 L (II v)) 68 L (II (m 0))) 64 0 (II ((L : Int) + 1))) m := fun k => by rw [rI2 (by omega), rI2 (by omega), rI2 (by omega), rI2 (by omega), rI2 (by omega)]; exact hM k
  have m5 : gI (sI (sI (sI (sI (sI σ 65 L (II y)) 66 L (II ((p * 2 + x) * 16 + n))) 67 L (II v)) 68 L (II (m 0))) 64 0 (II ((L : Int) + 1))) 76 5 = II (L : Int) := by rw [hM' 5, hLe]
  have m0 : gI (sI (sI (sI (sI (sI σ 65 L (II y)) 66 L (II ((p * 2 + x) * 16 + n))) 67 L (II v)) 68 L (II (m 0))) 64 0 (II ((L : Int) + 1))) 76 0 = II (m 0) := hM' 0
  have hm := RM_mu (RM_mu (RM_mu (RM_mu (RM_mu (RM_mu (RM_mu hM' (100 + 6 * L) y) (100 + 6 * L + 1) p) (100 + 6 * L + 2) x) (100 + 6 * L + 3) n) (100 + 6 * L + 4) v) (100 + 6 * L + 5) (m 0)) 5 ((L : Int) + 1)
  have j0 : (100 + 6 * (L : Int)).toNat = 100 + 6 * L := by omega
  have j1 : (100 + 6 * (L : Int) + 1).toNat = 100 + 6 * L + 1 := by omega
  have j2 : (100 + 6 * (L : Int) + 2).toNat = 100 + 6 * L + 2 := by omega
  have j3 : (100 + 6 * (L : Int) + 3).toNat = 100 + 6 * L + 3 := by omega
  have j4 : (100 + 6 * (L : Int) + 4).toNat = 100 + 6 * L + 4 := by omega
  have j5 : (100 + 6 * (L : Int) + 5).toNat = 100 + 6 * L + 5 := by omega
  generalize hτ : sI (sI (sI (sI (sI σ 65 L (II y)) 66 L (II ((p * 2 + x) * 16 + n))) 67 L (II v)) 68 L (II (m 0))) 64 0 (II ((L : Int) + 1)) = τ at *
  unfold wpX12_print
  simp only [I_lit]
  refine in_ok (by omega) (fun _ => t1 ?_) (fun w => absurd z1.1 w)
  refine in_ok (by omega) (fun _ => t1 ?_) (fun w => absurd z1.2.1 w)
  refine in_ok (by omega) (fun _ => t1 ?_) (fun w => absurd z1.2.2.1 w)
  refine isName_ok hM' w11 (by omega) (fun _ => t1 ?_) (fun w => absurd z1.2.2.2 w)
  refine in_ok (by omega) (fun _ => t1 ?_) (fun w => absurd z2 w)
  simp (disch := omega) only [I_lit, Int.reduceToNat, I_eq, fe, I_mul, I_add, j0, j1, j2, j3, j4, j5, m5, I_in, true_and, I_cl, rI3, rI1, m0]
  refine ⟨fun _ => ⟨rfl, ?_⟩, fun w => absurd w (by omega)⟩
  have e : ∀ q, q ≠ 64 → q ≠ 65 → q ≠ 66 → q ≠ 67 → q ≠ 68 → q ≠ 76 → sI (sI (sI (sI (sI (sI (sI τ 76 (100 + 6 * L) (II y)) 76 (100 + 6 * L + 1) (II p)) 76 (100 + 6 * L + 2) (II x)) 76 (100 + 6 * L + 3) (II n)) 76 (100 + 6 * L + 4) (II v)) 76 (100 + 6 * L + 5) (II (m 0))) 76 5 (II ((L : Int) + 1)) q = σ q := fun q p1 p2 p3 p4 p5 p6 => by rw [ce_sI _ _ _ _ _ p6, ce_sI _ _ _ _ _ p6, ce_sI _ _ _ _ _ p6, ce_sI _ _ _ _ _ p6, ce_sI _ _ _ _ _ p6, ce_sI _ _ _ _ _ p6, ce_sI _ _ _ _ _ p6, ← hτ, ce_sI _ _ _ _ _ p1, ce_sI _ _ _ _ _ p5, ce_sI _ _ _ _ _ p4, ce_sI _ _ _ _ _ p3, ce_sI _ _ _ _ _ p2]
  have et : ∀ q, q ≠ 76 → sI (sI (sI (sI (sI (sI (sI τ 76 (100 + 6 * L) (II y)) 76 (100 + 6 * L + 1) (II p)) 76 (100 + 6 * L + 2) (II x)) 76 (100 + 6 * L + 3) (II n)) 76 (100 + 6 * L + 4) (II v)) 76 (100 + 6 * L + 5) (II (m 0))) 76 5 (II ((L : Int) + 1)) q = τ q := fun q p5 => by rw [ce_sI _ _ _ _ _ p5, ce_sI _ _ _ _ _ p5, ce_sI _ _ _ _ _ p5, ce_sI _ _ _ _ _ p5, ce_sI _ _ _ _ _ p5, ce_sI _ _ _ _ _ p5, ce_sI _ _ _ _ _ p5]
  have hZ := hA.2.2.2.2.1
  have hPW := hA.2.2.2.2.2.2.1
  obtain ⟨b1, b2, b3, b4, b5, b6, b7, b8, b9, b10, b11⟩ := id hB
  have hmn : ∀ t y' c : Nat, c < 12 → mny (KB (mu (mu (mu (mu (mu (mu (mu m (100 + 6 * L) y) (100 + 6 * L + 1) p) (100 + 6 * L + 2) x) (100 + 6 * L + 3) n) (100 + 6 * L + 4) v) (100 + 6 * L + 5) (m 0)) 5 ((L : Int) + 1)) U T (-1) false t) y' c = mny (KB m U T (-1) false t) y' c := by
    intro t y' c hc
    show (if y' < ((mu (mu (mu (mu (mu (mu (mu m (100 + 6 * L) y) (100 + 6 * L + 1) p) (100 + 6 * L + 2) x) (100 + 6 * L + 3) n) (100 + 6 * L + 4) v) (100 + 6 * L + 5) (m 0)) 5 ((L : Int) + 1)) 0).toNat then (mu (mu (mu (mu (mu (mu (mu m (100 + 6 * L) y) (100 + 6 * L + 1) p) (100 + 6 * L + 2) x) (100 + 6 * L + 3) n) (100 + 6 * L + 4) v) (100 + 6 * L + 5) (m 0)) 5 ((L : Int) + 1)) (1000 + 14 * y' + c) else (mu (mu (mu (mu (mu (mu (mu m (100 + 6 * L) y) (100 + 6 * L + 1) p) (100 + 6 * L + 2) x) (100 + 6 * L + 3) n) (100 + 6 * L + 4) v) (100 + 6 * L + 5) (m 0)) 5 ((L : Int) + 1)) (10 + c)) = (if y' < (m 0).toNat then m (1000 + 14 * y' + c) else m (10 + c))
    simp (disch := omega) only [mu_ne, mu_eq]
  refine Inv_step (m' := mu (mu (mu (mu (mu (mu (mu m (100 + 6 * L) y) (100 + 6 * L + 1) p) (100 + 6 * L + 2) x) (100 + 6 * L + 3) n) (100 + 6 * L + 4) v) (100 + 6 * L + 5) (m 0)) 5 ((L : Int) + 1)) (U' := U) (T' := T) hA hB (by simp (disch := omega) only [mu_ne, mu_eq]) ⟨by simp (disch := omega) only [mu_ne, mu_eq]; exact Int.le_refl _, by simp (disch := omega) only [mu_ne, mu_eq]; exact Int.le_refl _, by simp (disch := omega) only [mu_ne, mu_eq]; exact Int.le_refl _, by simp (disch := omega) only [mu_ne, mu_eq]; exact Int.le_refl _, by simp (disch := omega) only [mu_ne, mu_eq]; exact Int.le_refl _, by simp (disch := omega) only [mu_ne, mu_eq]; omega, fun n hn => ⟨by simp (disch := omega) only [mu_ne, mu_eq], by simp (disch := omega) only [mu_ne, mu_eq]⟩, fun n h1 h2 => by simp (disch := omega) only [mu_ne, mu_eq] at h2; omega, fun k hk => ⟨by simp (disch := omega) only [mu_ne, mu_eq], by simp (disch := omega) only [mu_ne, mu_eq]⟩, fun k h1 h2 => by simp (disch := omega) only [mu_ne, mu_eq] at h2; omega, fun k hk => ⟨by simp (disch := omega) only [mu_ne, mu_eq], by simp (disch := omega) only [mu_ne, mu_eq], by simp (disch := omega) only [mu_ne, mu_eq]⟩, fun k h1 h2 => by simp (disch := omega) only [mu_ne, mu_eq] at h2; omega, fun y hy c hc => by simp (disch := omega) only [mu_ne, mu_eq], fun k hk j hj => by simp (disch := omega) only [mu_ne, mu_eq], fun k hk => by simp (disch := omega) only [mu_ne, mu_eq]⟩ ⟨by simp (disch := omega) only [mu_ne, mu_eq], fun Y hY c hc n hn => by simp (disch := omega) only [mu_ne, mu_eq]⟩ ?_ (fun Y hY c hc n hn h1 => by simp (disch := omega) only [mu_ne, mu_eq] at h1; simp (disch := omega) only [mu_ne, mu_eq]; exact hZ Y hY c hc n hn h1) ?_ (fun _ _ => ⟨rfl, rfl, rfl, rfl⟩) (fun _ _ => rfl) hm (e 77 (by omega) (by omega) (by omega) (by omega) (by omega) (by omega)) (NMs_c b1 (fun q p1 p2 => e q (by omega) (by omega) (by omega) (by omega) (by omega) (by omega)) (e 78 (by omega) (by omega) (by omega) (by omega) (by omega) (by omega)) (by simp (disch := omega) only [mu_ne, mu_eq]) (fun n hn => ⟨by simp (disch := omega) only [mu_ne, mu_eq], by simp (disch := omega) only [mu_ne, mu_eq]⟩)) (by simp (disch := omega) only [mu_ne, mu_eq]; exact NP_c b2.1 (e 83 (by omega) (by omega) (by omega) (by omega) (by omega) (by omega)) (e 84 (by omega) (by omega) (by omega) (by omega) (by omega) (by omega))) (by simp (disch := omega) only [mu_ne, mu_eq]; exact RW_eq b2.2 (fun q p1 p2 => e q (by omega) (by omega) (by omega) (by omega) (by omega) (by omega))) ?_ (by simp (disch := omega) only [mu_ne, mu_eq]; exact CW_eq hW.2.2.2.2.1.2 b4.1 (fun q p1 p2 => e q (by omega) (by omega) (by omega) (by omega) (by omega) (by omega))) (by rw [gI_of (e 0 (by omega) (by omega) (by omega) (by omega) (by omega) (by omega))]; simp (disch := omega) only [mu_ne, mu_eq]; exact b4.2) (fun q p1 p2 => e q (by omega) (by omega) (by omega) (by omega) (by omega) (by omega)) (e 15 (by omega) (by omega) (by omega) (by omega) (by omega) (by omega)) ?_ (RUs_m b8 (by rw [gI_of (et 64 (by omega)), ← hτ]; simp (disch := omega) only [rI2, rI3]) (e 69 (by omega) (by omega) (by omega) (by omega) (by omega) (by omega)) (by simp (disch := omega) only [mu_ne, mu_eq]; exact Int.le_refl _) (fun t ht => run_by_eq hW (by simp (disch := omega) only [mu_ne, mu_eq]) (by simp (disch := omega) only [mu_ne, mu_eq]) (by simp (disch := omega) only [mu_ne, mu_eq]) (by simp (disch := omega) only [mu_ne, mu_eq]) (fun n hn => ⟨by simp (disch := omega) only [mu_ne, mu_eq], by simp (disch := omega) only [mu_ne, mu_eq]⟩) (fun k hk => ⟨by simp (disch := omega) only [mu_ne, mu_eq], by simp (disch := omega) only [mu_ne, mu_eq]⟩) (fun k hk => ⟨by simp (disch := omega) only [mu_ne, mu_eq], by simp (disch := omega) only [mu_ne, mu_eq], by simp (disch := omega) only [mu_ne, mu_eq]⟩) (fun Y hY c hc n hn => by simp (disch := omega) only [mu_ne, mu_eq]) (fun y' hy' c hc => hmn t y' c hc) (fun _ _ => ⟨rfl, rfl, rfl, rfl⟩) ht)) ⟨by rw [gI_of (e 47 (by omega) (by omega) (by omega) (by omega) (by omega) (by omega))], by rw [gI_of (e 47 (by omega) (by omega) (by omega) (by omega) (by omega) (by omega))]⟩ (TPs_c b10 (fun k _ => by rw [gI_of (e 42 (by omega) (by omega) (by omega) (by omega) (by omega) (by omega))]) (e 43 (by omega) (by omega) (by omega) (by omega) (by omega) (by omega)) (e 79 (by omega) (by omega) (by omega) (by omega) (by omega) (by omega)) (fun k p1 p2 => by rw [gI_of (e 75 (by omega) (by omega) (by omega) (by omega) (by omega) (by omega))])) (fun q p1 p2 => e q (by omega) (by omega) (by omega) (by omega) (by omega) (by omega))
  · obtain ⟨w0, w1, w2, w3, w4, w5, w6, w7, w8, w9, w10, w11, w12, w13⟩ := hW
    exact ⟨by simp (disch := omega) only [mu_ne, mu_eq]; exact w0, by simp (disch := omega) only [mu_ne, mu_eq]; exact w1, by simp (disch := omega) only [mu_ne, mu_eq]; exact w2, by simp (disch := omega) only [mu_ne, mu_eq]; exact w3, by simp (disch := omega) only [mu_ne, mu_eq]; exact w4, by simp (disch := omega) only [mu_ne, mu_eq]; omega, by simp (disch := omega) only [mu_ne, mu_eq]; exact w6, fun s hs => by simp (disch := omega) only [mu_ne, mu_eq]; exact w7 s hs, fun c hc => by simp (disch := omega) only [mu_ne, mu_eq]; exact w8 c hc, fun n hn => by simp (disch := omega) only [mu_ne, mu_eq] at hn; simp (disch := omega) only [mu_ne, mu_eq]; exact w9 n hn, fun k hk => by simp (disch := omega) only [mu_ne, mu_eq] at hk; simp (disch := omega) only [mu_ne, mu_eq]; exact w10 k hk, fun k hk => by simp (disch := omega) only [mu_ne, mu_eq] at hk; simp (disch := omega) only [mu_ne, mu_eq]; exact w11 k hk, fun y hy => by simp (disch := omega) only [mu_ne, mu_eq] at hy; exact ⟨fun c hc => by simp (disch := omega) only [mu_ne, mu_eq]; exact (w12 y hy).1 c hc, fun s hs => by simp (disch := omega) only [mu_ne, mu_eq]; exact (w12 y hy).2 s hs⟩, fun Y hY c hc n hn => by simp (disch := omega) only [mu_ne, mu_eq]; exact w13 Y hY c hc n hn⟩
  · intro k hk
    simp (disch := omega) only [mu_eq] at hk
    by_cases ec : k = L
    · subst ec
      simp (disch := omega) only [mu_ne, mu_eq]; omega
    · simp (disch := omega) only [mu_ne, mu_eq]
      exact hPW k (by omega)
  · refine CL_c b3 (fun q hq => e q ?_ ?_ ?_ ?_ ?_ ?_) (by simp (disch := omega) only [mu_ne, mu_eq]) (by simp (disch := omega) only [mu_ne, mu_eq]) (by simp (disch := omega) only [mu_ne, mu_eq]) (by simp (disch := omega) only [mu_ne, mu_eq]) (fun Y hY c hc n hn => by simp (disch := omega) only [mu_ne, mu_eq]) (fun c hc => by simp (disch := omega) only [mu_ne, mu_eq]) (fun y hy c hc => by simp (disch := omega) only [mu_ne, mu_eq]) (fun s hs => by simp (disch := omega) only [mu_ne, mu_eq]) (fun k hk => ⟨by simp (disch := omega) only [mu_ne, mu_eq], by simp (disch := omega) only [mu_ne, mu_eq]⟩) (fun k hk => ⟨by simp (disch := omega) only [mu_ne, mu_eq], by simp (disch := omega) only [mu_ne, mu_eq], by simp (disch := omega) only [mu_ne, mu_eq]⟩) <;> (simp only [CE, List.mem_cons, List.not_mem_nil, or_false] at hq; omega)
  · refine ⟨?_, fun k hk => ?_⟩
    · rw [gI_of (et 64 (by omega)), ← hτ, rI1]; simp (disch := omega) only [mu_ne, mu_eq]
    · simp (disch := omega) only [mu_eq] at hk
      rw [gI_of (et 65 (by omega)), gI_of (et 66 (by omega)), gI_of (et 67 (by omega)), gI_of (et 68 (by omega)), ← hτ]
      by_cases ec : k = L
      · subst ec
        simp (disch := omega) only [rI1, rI2, mu_ne, mu_eq, and_self]
      · simp (disch := omega) only [rI2, rI3, mu_ne, mu_eq]; exact b7.2 k (by omega)
