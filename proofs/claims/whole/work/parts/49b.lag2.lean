theorem find_in {σ : St} {m mi : MT} {U : Nat → Nat} {T : TT} {G : GV} {y : Nat} {K : Int32 → St → Prop} {post : St → Prop} (hA : IvA σ m mi U T) (hB : IvB σ m mi U T) (eG : G = run (KK m U T) (m 0).toNat) (hG : GB G) (hy : y ≤ 60)
    (τ : St) (tE : Eqx [55, 56] σ τ) (h5 : ∀ z : Nat, z < y → ∀ n, n < 16 → gI τ 55 (z * 16 + n) = II (thd G 0 (40 + z) n) ∧ gI τ 56 (z * 16 + n) = II (thd G 1 (40 + z) n))
    (hk : ∀ υ, Eqx [55, 56] σ υ → (∀ z : Nat, z < y + 1 → ∀ n, n < 16 → gI υ 55 (z * 16 + n) = II (thd G 0 (40 + z) n) ∧ gI υ 56 (z * 16 + n) = II (thd G 1 (40 + z) n)) → K (II ((y : Int) + 1)) υ) :
    ∃ f, wbX10_findThousandths_38 K post f (II y) (II (gT G 3 (40 + y))) (II (gT G 4 (40 + y))) 0 τ := by
  have key := up (P := fun f j => ∀ υ, Eqx [55, 56] σ υ → (∀ z : Nat, z < y → ∀ n, n < 16 → gI υ 55 (z * 16 + n) = II (thd G 0 (40 + z) n) ∧ gI υ 56 (z * 16 + n) = II (thd G 1 (40 + z) n)) → (∀ n, n < j → gI υ 55 (y * 16 + n) = II (thd G 0 (40 + y) n) ∧ gI υ 56 (y * 16 + n) = II (thd G 1 (40 + y) n)) → wbX10_findThousandths_38 K post f (II y) (II (gT G 3 (40 + y))) (II (gT G 4 (40 + y))) (II j) υ) 16 ?_ ?_ 0 (by omega)
  · obtain ⟨f, hf⟩ := key
    exact ⟨f, hf τ tE h5 (fun n hn => absurd hn (by omega))⟩
  · intro f υ uE u1 u2
    simp (disch := omega) only [wbX10_findThousandths_38, I_lit, I_le, fe, I_add]
    refine ⟨fun _ => hk υ uE ?_, fun q => absurd (by omega) q⟩
    intro z hz n hn
    by_cases c : z = y
    · rw [c]; exact u2 n hn
    · exact u1 z (by omega) n hn
  · intro f j hj ih υ uE u1 u2
    have b3 := gT_b hG 3 (40 + y) j hj
    have b4 := gT_b hG 4 (40 + y) j hj
    have bk : ∀ ω, Eqx [55, 56] σ ω → Bk ω 0 G (min (m 0).toNat 60) := fun ω wE => by
      have := (SR_B hA hB (SR_x wE (by simp))).2.2.2.2.1
      rw [← eG] at this; exact this
    have j1 : ((y : Int) * 16 + (j : Int)).toNat = y * 16 + j := by omega
    have e0 : thd G 0 (40 + y) j = if gT G 3 (40 + y) = 0 then 0 else gt G (40 + y) 3 j * 1000 / gT G 3 (40 + y) := rfl
    have e1 : thd G 1 (40 + y) j = if gT G 4 (40 + y) = 0 then 0 else gt G (40 + y) 4 j * 1000 / gT G 4 (40 + y) := rfl
    have last : ∀ ω, Eqx [55, 56] σ ω → (∀ q k', (q ≠ 55 ∨ k' ≠ y * 16 + j) → (q ≠ 56 ∨ k' ≠ y * 16 + j) → gI ω q k' = gI υ q k') → gI ω 55 (y * 16 + j) = II (thd G 0 (40 + y) j) → gI ω 56 (y * 16 + j) = II (thd G 1 (40 + y) j) → wbX10_findThousandths_38 K post f (II y) (II (gT G 3 (40 + y))) (II (gT G 4 (40 + y))) (II ((j : Int) + 1)) ω := by
      intro ω wE w1 w2 w3
      refine ih ω wE (fun z hz n hn => ?_) (fun n hn => ?_)
      · rw [w1 55 _ (by omega) (by omega), w1 56 _ (by omega) (by omega)]; exact u1 z hz n hn
      · by_cases c : n = j
        · rw [c]; exact ⟨w2, w3⟩
        · rw [w1 55 _ (by omega) (by omega), w1 56 _ (by omega) (by omega)]; exact u2 n (by omega)
    have mid : ∀ x : Int, x = thd G 0 (40 + y) j → wbX10_findThousandths_86 (wbX10_findThousandths_38 K post f) post (II y) (II (gT G 3 (40 + y))) (II (gT G 4 (40 + y))) (II j) (II ((y : Int) * 16 + j)) (II x) (II ((y : Int) * 16 + j)) υ := by
      intro x hx
      have wE : Eqx [55, 56] σ (sI υ 55 (y * 16 + j) (II x)) := Eqx_tI uE (by simp)
      unfold wbX10_findThousandths_86
      simp (disch := omega) only [I_lit, I_in, true_and, I_cl, fe, I_eq, j1, I_add]
      refine ⟨fun q => ?_, fun q => ?_⟩
      · refine between_ok (g := 4) (bk _ wE) (by omega) hj (by omega) (by omega) ?_
        rw [show ((y : Int) + 41).toNat = ((y : Int) + 40).toNat + 1 by omega, rg_one, show ((y : Int) + 40).toNat = 40 + y by omega]
        show ¬ gT G 4 (40 + y) = 0 ∧ _
        have g4 : gy G 4 j (40 + y) = gt G (40 + y) 4 j := rfl
        rw [g4, I_mul, I_div (by omega)]
        refine ⟨q, last _ (Eqx_tI wE (by simp)) ?_ ?_ ?_⟩
        · intro q' k' h1 h2
          rw [gI_sI, if_neg (by omega), gI_sI, if_neg (by omega)]
        · rw [rI2 (by omega), rI1, hx]
        · rw [rI1, e1, if_neg q]
      · refine last _ (Eqx_tI wE (by simp)) ?_ ?_ ?_
        · intro q' k' h1 h2
          rw [gI_sI, if_neg (by omega), gI_sI, if_neg (by omega)]
        · rw [rI2 (by omega), rI1, hx]
        · rw [rI1, e1, if_pos q]
    simp (disch := omega) only [wbX10_findThousandths_38, I_lit, I_le, fe, I_add, I_mul, I_eq]
    refine ⟨fun q => absurd q (by omega), fun _ => ⟨fun q => ?_, fun q => mid 0 (by rw [e0, if_pos q])⟩⟩
    refine between_ok (g := 3) (bk _ uE) (by omega) hj (by omega) (by omega) ?_
    rw [show ((y : Int) + 41).toNat = ((y : Int) + 40).toNat + 1 by omega, rg_one, show ((y : Int) + 40).toNat = 40 + y by omega]
    have g3 : gy G 3 j (40 + y) = gt G (40 + y) 3 j := rfl
    rw [g3, I_mul, I_div (by omega)]
    exact ⟨q, mid _ (by rw [e0, if_neg q])⟩
theorem find_ok {σ : St} {m mi : MT} {U : Nat → Nat} {T : TT} {G : GV} {post : St → Prop} (hA : IvA σ m mi U T) (hB : IvB σ m mi U T) (eG : G = run (KK m U T) (m 0).toNat) (hG : GB G)
    (hp : ∀ τ, Eqx [55, 56] σ τ → (∀ y : Nat, (y : Int) < m 0 → ∀ n, n < 16 → gI τ 55 (y * 16 + n) = II (thd G 0 (40 + y) n) ∧ gI τ 56 (y * 16 + n) = II (thd G 1 (40 + y) n)) → post τ) : wpX10_findThousandths σ post := by
  have w0 := hA.2.2.1.1
  unfold wpX10_findThousandths
  have key := up (P := fun f y => ∀ τ, Eqx [55, 56] σ τ → (∀ z : Nat, z < y → ∀ n, n < 16 → gI τ 55 (z * 16 + n) = II (thd G 0 (40 + z) n) ∧ gI τ 56 (z * 16 + n) = II (thd G 1 (40 + z) n)) → wbX10_findThousandths_2 post f (II y) τ) (m 0).toNat ?_ ?_ 0 (by omega)
  · obtain ⟨f, hf⟩ := key
    exact ⟨f, hf σ (fun _ _ => rfl) (fun z hz => absurd hz (by omega))⟩
  · intro f τ tE tv
    have tB := SR_B hA hB (SR_x tE (by simp))
    simp (disch := omega) only [wbX10_findThousandths_2, tB.2.2.1.1, I_le]
    exact ⟨fun _ => hp τ tE (fun y hy => tv y (by omega)), fun q => absurd (by omega) q⟩
  · intro f y hy ih τ tE tv
    have tB := SR_B hA hB (SR_x tE (by simp))
    have hb := tB.2.2.2.2.1
    rw [← eG] at hb
    simp (disch := omega) only [wbX10_findThousandths_2, tB.2.2.1.1, I_le]
    refine ⟨fun q => absurd q (by omega), fun _ => ?_⟩
    refine groupTotal_ok (g := 3) hb (by omega) (by omega) (by omega) ?_
    refine groupTotal_ok (g := 4) hb (by omega) (by omega) (by omega) ?_
    rw [show ((y : Int) + 41).toNat = ((y : Int) + 40).toNat + 1 by omega, rg_one, rg_one, show ((y : Int) + 40).toNat = 40 + y by omega]
    exact find_in hA hB eG hG (by omega) τ tE tv (fun υ uE uv => ih υ uE uv)
def bL (D : Nat → Int) : Nat → Nat
  | 0 => 0
  | k + 1 => if 0 ≤ D (k + 1) ∧ D (k + 1) < D (bL D k) then k + 1 else bL D k
theorem bL_le (D : Nat → Int) (k : Nat) : bL D k ≤ k := by
  induction k with
  | zero => exact Nat.le_refl _
  | succ k ih => simp only [bL]; split <;> omega
theorem bL_stay {D : Nat → Int} {a : Nat} (h : ∀ k, a < k → D k = -1) (d : Nat) : bL D (a + d) = bL D a := by
  induction d with
  | zero => rfl
  | succ d ih =>
    have : bL D (a + (d + 1)) = if 0 ≤ D (a + d + 1) ∧ D (a + d + 1) < D (bL D (a + d)) then a + d + 1 else bL D (a + d) := rfl
    rw [this, if_neg (by rw [h (a + d + 1) (by omega)]; omega), ih]
theorem leastLag_ok {σ : St} {G : GV} {M : Int} {post : Int32 → St → Prop} (hG : GB G) (h9 : gI σ 9 0 = II M) (hM : 1 ≤ M ∧ M ≤ 61) (h5 : ∀ y : Nat, (y : Int) < M → ∀ n, n < 16 → gI σ 55 (y * 16 + n) = II (thd G 0 (40 + y) n) ∧ gI σ 56 (y * 16 + n) = II (thd G 1 (40 + y) n)) (hp : post (II (bL (dL G M) 20)) σ) : wpX10_leastLag σ post := by
  unfold wpX10_leastLag
  have key := up (P := fun f k => wbX10_leastLag_6 post f (II (bL (dL G M) k)) (II (dL G M (bL (dL G M) k))) (II ((k : Int) + 1)) σ) (min 20 (M - 1).toNat) ?_ ?_ 0 (by omega)
  · obtain ⟨f, hf⟩ := key
    refine ⟨f + 1, ?_⟩
    simp (disch := omega) only [wbX10_leastLag_6, I_lit, I_neg, I_lt, h9, I_le, fe, I_add]
    refine ⟨fun q => absurd q (by omega), fun _ => ⟨fun q => absurd q (by omega), fun _ => ?_⟩⟩
    refine apartBy_ok (k := 0) hG h9 (by omega) (by omega) h5 ?_
    exact ⟨fun _ => hf, fun q => absurd trivial q⟩
  · intro f
    have e : bL (dL G M) 20 = bL (dL G M) (min 20 (M - 1).toNat) := by
      by_cases c : 20 ≤ (M - 1).toNat
      · rw [Nat.min_eq_left c]
      · have := bL_stay (D := dL G M) (a := (M - 1).toNat) (fun k hk => (dL_in hG (by omega) k).2.1 (by omega)) (20 - (M - 1).toNat)
        rw [show (M - 1).toNat + (20 - (M - 1).toNat) = 20 by omega] at this
        rw [this, Nat.min_eq_right (by omega)]
    rw [e] at hp
    simp (disch := omega) only [wbX10_leastLag_6, I_lit, I_neg, I_lt, h9, I_le]
    exact ⟨fun _ => hp, fun q => ⟨fun _ => hp, fun q2 => absurd (by omega) q2⟩⟩
  · intro f k hk ih
    have l := bL_le (dL G M) k
    have d1 := dL_in hG (M := M) (by omega) (k + 1)
    have d2 := dL_in hG (M := M) (by omega) (bL (dL G M) k)
    have d3 := d1.1 (by omega)
    have es : bL (dL G M) (k + 1) = if 0 ≤ dL G M (k + 1) ∧ dL G M (k + 1) < dL G M (bL (dL G M) k) then k + 1 else bL (dL G M) k := rfl
    have z : (k : Int) + 1 = ((k + 1 : Nat) : Int) := by omega
    simp (disch := omega) only [wbX10_leastLag_6, I_lit, I_neg, I_lt, h9, I_le, fe, I_add]
    refine ⟨fun q => absurd q (by omega), fun _ => ⟨fun q => absurd q (by omega), fun _ => ?_⟩⟩
    rw [z]
    refine apartBy_ok hG h9 (by omega) (by omega) h5 ?_
    rw [I_eq (by omega), I_le (by omega)]
    refine ⟨fun q => by omega, fun _ => ⟨fun q => ?_, fun q => ?_⟩⟩
    · rw [es, if_neg (by omega)] at ih; exact ih
    · rw [es, if_pos (by omega)] at ih; exact ih
