theorem by_ok {σ : St} (h : Inv σ) (a b : Int32) : wpX11_by a b σ (fun r τ => wpX12_by a b τ (Q2 r)) := by
  obtain ⟨m, mi, U, T, hA, hB⟩ := id h
  obtain ⟨s, q1, q2, rfl⟩ := I_of a
  obtain ⟨v, v1, v2, rfl⟩ := I_of b
  have hM := hA.1
  have hW := hA.2.2.1
  have w00 := hW.1
  have w11 := hW.2.1
  have w22 := hW.2.2.1
  have w33 := hW.2.2.2.1
  have w44 := hW.2.2.2.2.1
  have w55 := hW.2.2.2.2.2.1
  have n4 := hB.2.2.2.1.2
  have ref0 : ¬ ((0 ≤ s ∧ s ≤ 1) ∧ (-1 ≤ v ∧ v < m 4)) → wpX12_by (II s) (II v) σ (Q2 (II 0)) := by
    intro hz
    unfold wpX12_by
    simp only [I_lit]
    refine in_ok (by omega) (fun y => t1 ?_) (fun y => t0 ⟨rfl, h⟩)
    simp (disch := omega) only [I_neg, I_eq]
    refine ⟨fun x => absurd ⟨y, by omega⟩ hz, fun x => isTaste_ok hM w44 (by omega) (fun u => absurd ⟨y, by omega⟩ hz) (fun u => s0 ⟨rfl, h⟩)⟩
  unfold wpX11_by
  simp only [I_lit]
  refine wi_ok (by omega) (fun y => t1 ?_) (fun y => t0 (ref0 (fun w => y w.1)))
  rw [n4, I_neg, I_sub]
  refine wi_ok (by omega) (fun w => s1 ?_) (fun w => s0 (ref0 (fun z => w (by omega))))
  obtain ⟨S, hS, rfl⟩ : ∃ S : Nat, S < 2 ∧ s = S := ⟨s.toNat, by omega, by omega⟩
  simp (disch := omega) only [I_in, true_and, I_cl, fe, Int.toNat_natCast]
  show wpX12_by (II S) (II v) (sI σ 13 S (II v)) (Q2 (II 1))
  have hM' : RM (sI σ 13 S (II v)) m := fun k => by rw [rI2 (by omega)]; exact hM k
  have fin : wbX12_by_24 (Q2 (II 1)) (II S) (II v) (sI σ 13 S (II v)) := by
    simp (disch := omega) only [wbX12_by_24, I_lit, I_add, I_in, true_and, I_cl, fe]
    rw [show (7 + (S : Int)).toNat = 7 + S by omega]
    refine ⟨rfl, ?_⟩
    have e : ∀ q, q ≠ 13 → q ≠ 76 → sI (sI σ 13 S (II v)) 76 (7 + S) (II v) q = σ q := fun q p1 p3 => by rw [ce_sI _ _ _ _ _ p3, ce_sI _ _ _ _ _ p1]
    have hm := RM_mu hM' (7 + S) v
    have hZ := hA.2.2.2.2.1
    have hPW := hA.2.2.2.2.2.2.1
    obtain ⟨b1, b2, b3, b4, b5, b6, b7, b8, b9, b10, b11⟩ := id hB
    have hmn : ∀ t y c : Nat, c < 12 → mny (KB (mu m (7 + S) v) U T (-1) false t) y c = mny (KB m U T (-1) false t) y c := by
      intro t y c hc
      show (if y < (mu m (7 + S) v 0).toNat then mu m (7 + S) v (1000 + 14 * y + c) else mu m (7 + S) v (10 + c)) = (if y < (m 0).toNat then m (1000 + 14 * y + c) else m (10 + c))
      simp (disch := omega) only [mu_ne, mu_eq]
    refine Inv_step (m' := mu m (7 + S) v) (U' := U) (T' := T) hA hB (by simp (disch := omega) only [mu_ne, mu_eq]) ⟨by simp (disch := omega) only [mu_ne, mu_eq]; exact Int.le_refl _, by simp (disch := omega) only [mu_ne, mu_eq]; exact Int.le_refl _, by simp (disch := omega) only [mu_ne, mu_eq]; exact Int.le_refl _, by simp (disch := omega) only [mu_ne, mu_eq]; exact Int.le_refl _, by simp (disch := omega) only [mu_ne, mu_eq]; exact Int.le_refl _, by simp (disch := omega) only [mu_ne, mu_eq]; exact Int.le_refl _, fun n hn => ⟨by simp (disch := omega) only [mu_ne, mu_eq], by simp (disch := omega) only [mu_ne, mu_eq]⟩, fun n h1 h2 => by simp (disch := omega) only [mu_ne, mu_eq] at h2; omega, fun k hk => ⟨by simp (disch := omega) only [mu_ne, mu_eq], by simp (disch := omega) only [mu_ne, mu_eq]⟩, fun k h1 h2 => by simp (disch := omega) only [mu_ne, mu_eq] at h2; omega, fun k hk => ⟨by simp (disch := omega) only [mu_ne, mu_eq], by simp (disch := omega) only [mu_ne, mu_eq], by simp (disch := omega) only [mu_ne, mu_eq]⟩, fun k h1 h2 => by simp (disch := omega) only [mu_ne, mu_eq] at h2; omega, fun y hy c hc => by simp (disch := omega) only [mu_ne, mu_eq], fun k hk j hj => by simp (disch := omega) only [mu_ne, mu_eq], fun k hk => by simp (disch := omega) only [mu_ne, mu_eq]⟩ ⟨by simp (disch := omega) only [mu_ne, mu_eq], fun Y hY c hc n hn => by simp (disch := omega) only [mu_ne, mu_eq]⟩ ?_ (fun Y hY c hc n hn h1 => by simp (disch := omega) only [mu_ne, mu_eq] at h1; simp (disch := omega) only [mu_ne, mu_eq]; exact hZ Y hY c hc n hn h1) ?_ (fun _ _ => ⟨rfl, rfl, rfl, rfl⟩) (fun _ _ => rfl) hm (e 77 (by omega) (by omega)) (NMs_c b1 (fun q p1 p2 => e q (by omega) (by omega)) (e 78 (by omega) (by omega)) (mu_ne (by omega)) (fun n hn => ⟨mu_ne (by omega), mu_ne (by omega)⟩)) (by simp (disch := omega) only [mu_ne, mu_eq]; exact NP_c b2.1 (e 83 (by omega) (by omega)) (e 84 (by omega) (by omega))) (by simp (disch := omega) only [mu_ne, mu_eq]; exact RW_eq b2.2 (fun q p1 p2 => e q (by omega) (by omega))) ?_ (by simp (disch := omega) only [mu_ne, mu_eq]; exact CW_eq hW.2.2.2.2.1.2 b4.1 (fun q p1 p2 => e q (by omega) (by omega))) (by rw [gI_of (e 0 (by omega) (by omega))]; simp (disch := omega) only [mu_ne, mu_eq]; exact b4.2) (fun q p1 p2 => e q (by omega) (by omega)) (e 15 (by omega) (by omega)) (PRs_c b7 (fun q p1 p2 => e q (by omega) (by omega)) (by rw [gI_of (e 64 (by omega) (by omega))]) (by simp (disch := omega) only [mu_ne, mu_eq]) (fun k hk j hj => by simp (disch := omega) only [mu_ne, mu_eq])) (RUs_m b8 (by rw [gI_of (e 64 (by omega) (by omega))]) (e 69 (by omega) (by omega)) (by simp (disch := omega) only [mu_ne, mu_eq]; exact Int.le_refl _) (fun t ht => run_by_eq hW (by simp (disch := omega) only [mu_ne, mu_eq]) (by simp (disch := omega) only [mu_ne, mu_eq]) (by simp (disch := omega) only [mu_ne, mu_eq]) (by simp (disch := omega) only [mu_ne, mu_eq]) (fun n hn => ⟨by simp (disch := omega) only [mu_ne, mu_eq], by simp (disch := omega) only [mu_ne, mu_eq]⟩) (fun k hk => ⟨by simp (disch := omega) only [mu_ne, mu_eq], by simp (disch := omega) only [mu_ne, mu_eq]⟩) (fun k hk => ⟨by simp (disch := omega) only [mu_ne, mu_eq], by simp (disch := omega) only [mu_ne, mu_eq], by simp (disch := omega) only [mu_ne, mu_eq]⟩) (fun Y hY c hc n hn => by simp (disch := omega) only [mu_ne, mu_eq]) (fun y hy c hc => hmn t y c hc) (fun _ _ => ⟨rfl, rfl, rfl, rfl⟩) ht)) ⟨by rw [gI_of (e 47 (by omega) (by omega))], by rw [gI_of (e 47 (by omega) (by omega))]⟩ (TPs_c b10 (fun k _ => by rw [gI_of (e 42 (by omega) (by omega))]) (e 43 (by omega) (by omega)) (e 79 (by omega) (by omega)) (fun k p1 p2 => by rw [gI_of (e 75 (by omega) (by omega))])) (fun q p1 p2 => e q (by omega) (by omega))
    · obtain ⟨w0, w1, w2, w3, w4, w5, w6, w7, w8, w9, w10, w11, w12, w13⟩ := hW
      exact ⟨by simp (disch := omega) only [mu_ne, mu_eq]; exact w0, by simp (disch := omega) only [mu_ne, mu_eq]; exact w1, by simp (disch := omega) only [mu_ne, mu_eq]; exact w2, by simp (disch := omega) only [mu_ne, mu_eq]; exact w3, by simp (disch := omega) only [mu_ne, mu_eq]; exact w4, by simp (disch := omega) only [mu_ne, mu_eq]; exact w5, by simp (disch := omega) only [mu_ne, mu_eq]; exact w6, fun s hs => by
        rw [mu_ne (show 4 ≠ 7 + S by omega)]
        by_cases ec : s = S
        · subst ec; rw [mu_eq]; omega
        · rw [mu_ne (by omega)]; exact w7 s hs, fun c hc => by simp (disch := omega) only [mu_ne, mu_eq]; exact w8 c hc, fun n hn => by simp (disch := omega) only [mu_ne, mu_eq] at hn; simp (disch := omega) only [mu_ne, mu_eq]; exact w9 n hn, fun k hk => by simp (disch := omega) only [mu_ne, mu_eq] at hk; simp (disch := omega) only [mu_ne, mu_eq]; exact w10 k hk, fun k hk => by simp (disch := omega) only [mu_ne, mu_eq] at hk; simp (disch := omega) only [mu_ne, mu_eq]; exact w11 k hk, fun y hy => by simp (disch := omega) only [mu_ne, mu_eq] at hy; exact ⟨fun c hc => by simp (disch := omega) only [mu_ne, mu_eq]; exact (w12 y hy).1 c hc, fun s hs => by simp (disch := omega) only [mu_ne, mu_eq]; exact (w12 y hy).2 s hs⟩, fun Y hY c hc n hn => by simp (disch := omega) only [mu_ne, mu_eq]; exact w13 Y hY c hc n hn⟩
    · exact fun k hk => by simp (disch := omega) only [mu_ne, mu_eq] at hk; simp (disch := omega) only [mu_ne, mu_eq]; exact hPW k hk
    · obtain ⟨d1, d2, d3, d4, d5, d6, d7, d8, d9, d10, d11⟩ := b3
      have g : ∀ q k, q ≠ 13 → q ≠ 76 → gI (sI (sI σ 13 S (II v)) 76 (7 + S) (II v)) q k = gI σ q k := fun q k p1 p3 => gI_of (e q p1 p3) k
      refine ⟨?_, ?_, ?_, ?_, fun Y p c q n r => by rw [g _ _ (by omega) (by omega), mu_ne (by omega)]; exact d5 Y p c q n r, fun c q => by rw [g _ _ (by omega) (by omega), mu_ne (by omega)]; exact d6 c q, fun y p c q => by rw [mu_ne (by omega)] at p; rw [g _ _ (by omega) (by omega), mu_ne (by omega)]; exact d7 y p c q, fun c q => ?_, fun y p c q => by rw [mu_ne (by omega)] at p; rw [g _ _ (by omega) (by omega), mu_ne (by omega)]; exact d9 y p c q, fun k p => by rw [mu_ne (by omega)] at p; rw [g _ _ (by omega) (by omega), g _ _ (by omega) (by omega), mu_ne (by omega), mu_ne (by omega)]; exact d10 k p, fun k p => by rw [mu_ne (by omega)] at p; rw [g _ _ (by omega) (by omega), g _ _ (by omega) (by omega), g _ _ (by omega) (by omega), mu_ne (by omega), mu_ne (by omega), mu_ne (by omega)]; exact d11 k p⟩
      · rw [g _ _ (by omega) (by omega), mu_ne (by omega)]; exact d1
      · rw [g _ _ (by omega) (by omega), mu_ne (by omega)]; exact d2
      · rw [g _ _ (by omega) (by omega), mu_ne (by omega)]; exact d3
      · rw [g _ _ (by omega) (by omega), mu_ne (by omega)]; exact d4
      · rw [rI2 (by omega)]
        by_cases ec : c = S
        · subst ec; rw [rI1, mu_eq]
        · rw [rI3 ec, mu_ne (by omega)]; exact d8 c q
  unfold wpX12_by
  simp only [I_lit]
  refine in_ok (by omega) (fun _ => t1 ?_) (fun z => absurd y z)
  simp (disch := omega) only [I_neg, I_eq]
  exact ⟨fun _ => fin, fun x => isTaste_ok hM' w44 (by omega) (fun _ => s1 fin) (fun u => absurd (by omega) u)⟩
theorem list_ok {σ : St} (h : Inv σ) (a b : Int32) : wpX11_list a b σ (fun r τ => wpX12_list a b τ (Q2 r)) := by
  obtain ⟨m, mi, U, T, hA, hB⟩ := id h
  obtain ⟨f, q1, q2, rfl⟩ := I_of a
  have hM := hA.1
  have hW := hA.2.2.1
  have w00 := hW.1
  have w11 := hW.2.1
  have w22 := hW.2.2.1
  have w33 := hW.2.2.2.1
  have w44 := hW.2.2.2.2.1
  have w55 := hW.2.2.2.2.2.1
  have c1 := hB.2.2.1.1
  have c3 := hB.2.2.1.2.2.1
  have n1 := hB.1.1
  obtain ⟨v, v0, v1, hv⟩ := set_in b w11
  have ref0 : ¬ (m 2 < 8 ∧ (m 0 ≤ f ∧ f ≤ 60)) → wpX12_list (II f) b σ (Q2 (II (-1))) := by
    intro hz
    unfold wpX12_list
    simp (disch := omega) only [I_lit, I_in, true_and, I_cl, Int.reduceToNat, hM 0, hM 2, I_neg]
    refine in_ok (by omega) (fun y => t1 ?_) (fun y => t0 ⟨rfl, h⟩)
    simp (disch := omega) only [I_lit, I_in, true_and, I_cl, Int.reduceToNat, hM 2, I_eq]
    exact ⟨fun x => absurd ⟨by omega, y⟩ hz, fun x => ⟨rfl, h⟩⟩
  unfold wpX11_list
  rw [c3, c1, I_lit, I_lit]
  refine ⟨fun z => ref0 (by rw [I_le (by omega)] at z; omega), fun z => ?_⟩
  rw [I_le (by omega)] at z
  refine wi_ok (by omega) (fun y => s1 ?_) (fun y => s0 (ref0 (fun w => y w.2)))
  obtain ⟨L, hL, hLe⟩ : ∃ L : Nat, L < 8 ∧ m 2 = L := ⟨(m 2).toNat, by omega, by omega⟩
  have g8 : gI (sI σ 64 6 (II 0)) 9 8 = II (L : Int) := by rw [rI2 (by omega), c3, hLe]
  have hv' : b &&& (II 1 <<< (II (m 1) &&& II 31) - II 1) = II v := hv
  simp only [fe, wpX7_forgetRuns, n1]
  simp (disch := omega) only [wpX4_addList, I_lit, g8, I_le, I_in, true_and, I_cl, Int.toNat_natCast, fe, rI2, I_add, rI1, hv']
  refine ⟨fun w => absurd w (by omega), fun _ => ?_⟩
  show wpX12_list (II f) b (sI (sI (sI (sI σ 64 6 (II 0)) 16 L (II f)) 17 L (II v)) 9 8 (II ((L : Int) + 1))) (Q2 (II ((L : Int) + 1)))
  have hM' : RM (sI (sI (sI (sI σ 64 6 (II 0)) 16 L (II f)) 17 L (II v)) 9 8 (II ((L : Int) + 1))) m := fun k => by rw [rI2 (by omega), rI2 (by omega), rI2 (by omega), rI2 (by omega)]; exact hM k
  have m2 : gI (sI (sI (sI (sI σ 64 6 (II 0)) 16 L (II f)) 17 L (II v)) 9 8 (II ((L : Int) + 1))) 76 2 = II (L : Int) := by rw [hM' 2, hLe]
  have m1 : gI (sI (sI (sI (sI σ 64 6 (II 0)) 16 L (II f)) 17 L (II v)) 9 8 (II ((L : Int) + 1))) 76 1 = II (m 1) := hM' 1
  have m0 : gI (sI (sI (sI (sI σ 64 6 (II 0)) 16 L (II f)) 17 L (II v)) 9 8 (II ((L : Int) + 1))) 76 0 = II (m 0) := hM' 0
  have hm := RM_mu (RM_mu (RM_mu hM' (50 + 2 * L) f) (50 + 2 * L + 1) v) 2 ((L : Int) + 1)
  have j0 : (50 + 2 * (L : Int)).toNat = 50 + 2 * L := by omega
  have j1 : (50 + 2 * (L : Int) + 1).toNat = 50 + 2 * L + 1 := by omega
  generalize hτ : sI (sI (sI (sI σ 64 6 (II 0)) 16 L (II f)) 17 L (II v)) 9 8 (II ((L : Int) + 1)) = τ at *
  unfold wpX12_list
  simp (disch := omega) only [I_lit, I_in, true_and, I_cl, Int.reduceToNat, m0, m2]
  refine in_ok (by omega) (fun _ => t1 ?_) (fun w => absurd y w)
  simp (disch := omega) only [I_eq, fe, I_mul, I_add, j0, j1, m2, I_in, true_and, I_cl, rI3, m1, hv', rI1]
  refine ⟨fun _ => ⟨rfl, ?_⟩, fun w => absurd w (by omega)⟩
  have e : ∀ q, q ≠ 64 → q ≠ 16 → q ≠ 17 → q ≠ 9 → q ≠ 76 → sI (sI (sI τ 76 (50 + 2 * L) (II f)) 76 (50 + 2 * L + 1) (II v)) 76 2 (II ((L : Int) + 1)) q = σ q := fun q p1 p2 p3 p4 p5 => by rw [ce_sI _ _ _ _ _ p5, ce_sI _ _ _ _ _ p5, ce_sI _ _ _ _ _ p5, ← hτ, ce_sI _ _ _ _ _ p4, ce_sI _ _ _ _ _ p3, ce_sI _ _ _ _ _ p2, ce_sI _ _ _ _ _ p1]
  have et : ∀ q, q ≠ 76 → sI (sI (sI τ 76 (50 + 2 * L) (II f)) 76 (50 + 2 * L + 1) (II v)) 76 2 (II ((L : Int) + 1)) q = τ q := fun q p5 => by rw [ce_sI _ _ _ _ _ p5, ce_sI _ _ _ _ _ p5, ce_sI _ _ _ _ _ p5]
  have hZ := hA.2.2.2.2.1
  have hPW := hA.2.2.2.2.2.2.1
  obtain ⟨b1, b2, b3, b4, b5, b6, b7, b8, b9, b10, b11⟩ := id hB
  refine Inv_step (m' := mu (mu (mu m (50 + 2 * L) f) (50 + 2 * L + 1) v) 2 ((L : Int) + 1)) (U' := U) (T' := T) hA hB (by simp (disch := omega) only [mu_ne, mu_eq]) ⟨by simp (disch := omega) only [mu_ne, mu_eq]; exact Int.le_refl _, by simp (disch := omega) only [mu_ne, mu_eq]; exact Int.le_refl _, by simp (disch := omega) only [mu_ne, mu_eq]; omega, by simp (disch := omega) only [mu_ne, mu_eq]; exact Int.le_refl _, by simp (disch := omega) only [mu_ne, mu_eq]; exact Int.le_refl _, by simp (disch := omega) only [mu_ne, mu_eq]; exact Int.le_refl _, fun n hn => ⟨by simp (disch := omega) only [mu_ne, mu_eq], by simp (disch := omega) only [mu_ne, mu_eq]⟩, fun n h1 h2 => by simp (disch := omega) only [mu_ne, mu_eq] at h2; omega, fun k hk => ⟨by simp (disch := omega) only [mu_ne, mu_eq], by simp (disch := omega) only [mu_ne, mu_eq]⟩, fun k h1 h2 => by
      simp (disch := omega) only [mu_eq] at h2
      have ec : k = L := by omega
      subst ec; simp (disch := omega) only [mu_ne, mu_eq]; omega, fun k hk => ⟨by simp (disch := omega) only [mu_ne, mu_eq], by simp (disch := omega) only [mu_ne, mu_eq], by simp (disch := omega) only [mu_ne, mu_eq]⟩, fun k h1 h2 => by simp (disch := omega) only [mu_ne, mu_eq] at h2; omega, fun y hy c hc => by simp (disch := omega) only [mu_ne, mu_eq], fun k hk j hj => by simp (disch := omega) only [mu_ne, mu_eq], fun k hk => by simp (disch := omega) only [mu_ne, mu_eq]⟩ ⟨by simp (disch := omega) only [mu_ne, mu_eq], fun Y hY c hc n hn => by simp (disch := omega) only [mu_ne, mu_eq]⟩ ?_ (fun Y hY c hc n hn h1 => by simp (disch := omega) only [mu_ne, mu_eq] at h1; simp (disch := omega) only [mu_ne, mu_eq]; exact hZ Y hY c hc n hn h1) ?_ (fun _ _ => ⟨rfl, rfl, rfl, rfl⟩) (fun _ _ => rfl) hm (e 77 (by omega) (by omega) (by omega) (by omega) (by omega)) (NMs_c b1 (fun q p1 p2 => e q (by omega) (by omega) (by omega) (by omega) (by omega)) (e 78 (by omega) (by omega) (by omega) (by omega) (by omega)) (by simp (disch := omega) only [mu_ne, mu_eq]) (fun n hn => ⟨by simp (disch := omega) only [mu_ne, mu_eq], by simp (disch := omega) only [mu_ne, mu_eq]⟩)) (by simp (disch := omega) only [mu_ne, mu_eq]; exact NP_c b2.1 (e 83 (by omega) (by omega) (by omega) (by omega) (by omega)) (e 84 (by omega) (by omega) (by omega) (by omega) (by omega))) (by simp (disch := omega) only [mu_ne, mu_eq]; exact RW_eq b2.2 (fun q p1 p2 => e q (by omega) (by omega) (by omega) (by omega) (by omega))) ?_ (by simp (disch := omega) only [mu_ne, mu_eq]; exact CW_eq hW.2.2.2.2.1.2 b4.1 (fun q p1 p2 => e q (by omega) (by omega) (by omega) (by omega) (by omega))) (by rw [gI_of (e 0 (by omega) (by omega) (by omega) (by omega) (by omega))]; simp (disch := omega) only [mu_ne, mu_eq]; exact b4.2) (fun q p1 p2 => e q (by omega) (by omega) (by omega) (by omega) (by omega)) (e 15 (by omega) (by omega) (by omega) (by omega) (by omega)) (PRs_c b7 (fun q p1 p2 => e q (by omega) (by omega) (by omega) (by omega) (by omega)) (by rw [gI_of (et 64 (by omega)), ← hτ, rI2 (by omega), rI2 (by omega), rI2 (by omega), rI3 (by omega)]) (by simp (disch := omega) only [mu_ne, mu_eq]) (fun k hk j hj => by simp (disch := omega) only [mu_ne, mu_eq])) (RUs_0 (by rw [gI_of (et 64 (by omega)), ← hτ, rI2 (by omega), rI2 (by omega), rI2 (by omega), rI1])) ⟨by rw [gI_of (e 47 (by omega) (by omega) (by omega) (by omega) (by omega))], by rw [gI_of (e 47 (by omega) (by omega) (by omega) (by omega) (by omega))]⟩ (TPs_c b10 (fun k _ => by rw [gI_of (e 42 (by omega) (by omega) (by omega) (by omega) (by omega))]) (e 43 (by omega) (by omega) (by omega) (by omega) (by omega)) (e 79 (by omega) (by omega) (by omega) (by omega) (by omega)) (fun k p1 p2 => by rw [gI_of (e 75 (by omega) (by omega) (by omega) (by omega) (by omega))])) (fun q p1 p2 => e q (by omega) (by omega) (by omega) (by omega) (by omega))
  · obtain ⟨w0, w1, w2, w3, w4, w5, w6, w7, w8, w9, w10, w11, w12, w13⟩ := hW
    exact ⟨by simp (disch := omega) only [mu_ne, mu_eq]; exact w0, by simp (disch := omega) only [mu_ne, mu_eq]; exact w1, by simp (disch := omega) only [mu_ne, mu_eq]; omega, by simp (disch := omega) only [mu_ne, mu_eq]; exact w3, by simp (disch := omega) only [mu_ne, mu_eq]; exact w4, by simp (disch := omega) only [mu_ne, mu_eq]; exact w5, by simp (disch := omega) only [mu_ne, mu_eq]; exact w6, fun s hs => by simp (disch := omega) only [mu_ne, mu_eq]; exact w7 s hs, fun c hc => by simp (disch := omega) only [mu_ne, mu_eq]; exact w8 c hc, fun n hn => by simp (disch := omega) only [mu_ne, mu_eq] at hn; simp (disch := omega) only [mu_ne, mu_eq]; exact w9 n hn, fun k hk => by
      simp (disch := omega) only [mu_eq] at hk
      by_cases ec : k = L
      · subst ec; simp (disch := omega) only [mu_ne, mu_eq]; omega
      · simp (disch := omega) only [mu_ne, mu_eq]; exact w10 k (by omega), fun k hk => by simp (disch := omega) only [mu_ne, mu_eq] at hk; simp (disch := omega) only [mu_ne, mu_eq]; exact w11 k hk, fun y hy => by simp (disch := omega) only [mu_ne, mu_eq] at hy; exact ⟨fun c hc => by simp (disch := omega) only [mu_ne, mu_eq]; exact (w12 y hy).1 c hc, fun s hs => by simp (disch := omega) only [mu_ne, mu_eq]; exact (w12 y hy).2 s hs⟩, fun Y hY c hc n hn => by simp (disch := omega) only [mu_ne, mu_eq]; exact w13 Y hY c hc n hn⟩
  · exact fun k hk => by simp (disch := omega) only [mu_ne, mu_eq] at hk; simp (disch := omega) only [mu_ne, mu_eq]; exact hPW k hk
  · obtain ⟨d1, d2, d3, d4, d5, d6, d7, d8, d9, d10, d11⟩ := b3
    have g : ∀ q k, q ≠ 64 → q ≠ 16 → q ≠ 17 → q ≠ 9 → q ≠ 76 → gI (sI (sI (sI τ 76 (50 + 2 * L) (II f)) 76 (50 + 2 * L + 1) (II v)) 76 2 (II ((L : Int) + 1))) q k = gI σ q k := fun q k p1 p2 p3 p4 p5 => gI_of (e q p1 p2 p3 p4 p5) k
    have g9 : ∀ k, k ≠ 8 → gI (sI (sI (sI τ 76 (50 + 2 * L) (II f)) 76 (50 + 2 * L + 1) (II v)) 76 2 (II ((L : Int) + 1))) 9 k = gI σ 9 k := fun k hk => by rw [gI_of (et 9 (by omega)), ← hτ, rI3 hk, rI2 (by omega), rI2 (by omega), rI2 (by omega)]
    refine ⟨?_, ?_, ?_, ?_, fun Y p c q n r => by rw [g _ _ (by omega) (by omega) (by omega) (by omega) (by omega)]; simp (disch := omega) only [mu_ne, mu_eq]; exact d5 Y p c q n r, fun c q => by rw [g _ _ (by omega) (by omega) (by omega) (by omega) (by omega)]; simp (disch := omega) only [mu_ne, mu_eq]; exact d6 c q, fun y p c q => by simp (disch := omega) only [mu_ne] at p; rw [g _ _ (by omega) (by omega) (by omega) (by omega) (by omega)]; simp (disch := omega) only [mu_ne, mu_eq]; exact d7 y p c q, fun c q => by rw [g _ _ (by omega) (by omega) (by omega) (by omega) (by omega)]; simp (disch := omega) only [mu_ne, mu_eq]; exact d8 c q, fun y p c q => by simp (disch := omega) only [mu_ne] at p; rw [g _ _ (by omega) (by omega) (by omega) (by omega) (by omega)]; simp (disch := omega) only [mu_ne, mu_eq]; exact d9 y p c q, fun k p => ?_, fun k p => by simp (disch := omega) only [mu_ne] at p; rw [g _ _ (by omega) (by omega) (by omega) (by omega) (by omega), g _ _ (by omega) (by omega) (by omega) (by omega) (by omega), g _ _ (by omega) (by omega) (by omega) (by omega) (by omega)]; simp (disch := omega) only [mu_ne, mu_eq]; exact d11 k p⟩
    · rw [g9 0 (by omega)]; simp (disch := omega) only [mu_ne, mu_eq]; exact d1
    · rw [g9 1 (by omega)]; simp (disch := omega) only [mu_ne, mu_eq]; exact d2
    · rw [gI_of (et 9 (by omega)), ← hτ, rI1]; simp (disch := omega) only [mu_ne, mu_eq]
    · rw [g9 11 (by omega)]; simp (disch := omega) only [mu_ne, mu_eq]; exact d4
    · simp (disch := omega) only [mu_eq] at p
      rw [gI_of (et 16 (by omega)), gI_of (et 17 (by omega)), ← hτ]
      by_cases ec : k = L
      · subst ec
        simp (disch := omega) only [rI1, rI2, mu_ne, mu_eq, and_self]
      · simp (disch := omega) only [rI2, rI3, mu_ne, mu_eq]; exact d10 k (by omega)
