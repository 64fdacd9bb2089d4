def RUr (σ : St) (m : MT) (U : Nat → Nat) (T : TT) (r : Nat) : Prop := gI σ 64 6 = II r ∧ r < 64 ∧ ∀ t, t < 6 → r.testBit t = true → (t : Int) < m 4 ∧ KR σ (Gt m U T t) t
theorem RUs_iff {σ : St} {m : MT} {U : Nat → Nat} {T : TT} : RUs σ m U T ↔ ∃ r, RUr σ m U T r := by
  constructor
  · rintro ⟨r, h1, h2, h3⟩
    exact ⟨r, h1, h2, fun t ht hb => h3 t ht (by rw [bit_tb]; exact hb)⟩
  · rintro ⟨r, h1, h2, h3⟩
    exact ⟨r, h1, h2, fun t ht hb => h3 t ht (by rw [bit_tb] at hb; exact hb)⟩
theorem runBy_ok {σ : St} {m mi : MT} {U : Nat → Nat} {T : TT} {a : Nat} {b : Int} {post : St → Prop} (hA : IvA σ m mi U T) (hB : IvB σ m mi U T) (ha : a ≤ 6) (hb : -1 ≤ b ∧ b < m 4)
    (hp : ∀ τ, SQ σ τ → RUs τ m U T → (∀ t : Nat, a ≤ t → (t : Int) ≤ b → KR τ (Gt m U T t) t) → post τ) : wpX11_runBy (II a) (II b) σ post := by
  have hW := hA.2.2.1
  have w4 := hW.2.2.2.2.1
  unfold wpX11_runBy
  have key := up (P := fun f t => a ≤ t → ∀ υ, SQ σ υ → (∃ r, RUr υ m U T r ∧ ∀ t', a ≤ t' → t' < t → r.testBit t' = true) → wbX11_runBy_2 post f (II b) (II t) υ) (max a (b + 1).toNat) ?_ ?_ a (by omega)
  · obtain ⟨f, hf⟩ := key
    obtain ⟨r, hr⟩ := RUs_iff.mp hB.2.2.2.2.2.2.2.1
    exact ⟨f, hf (Nat.le_refl _) σ (SQ.refl σ) ⟨r, hr, fun t' h1 h2 => absurd h2 (by omega)⟩⟩
  · intro f _ υ uQ hr
    obtain ⟨r, hr, hr2⟩ := hr
    simp (disch := omega) only [wbX11_runBy_2, I_lt]
    refine ⟨fun _ => hp υ uQ (RUs_iff.mpr ⟨r, hr⟩) (fun t h1 h2 => (hr.2.2 t (by omega) (hr2 t h1 (by omega))).2), fun z => absurd (by omega) z⟩
  · intro f t ht ih hat υ uQ hr
    obtain ⟨r, hr, hr2⟩ := hr
    have uA := SQ_A hA uQ
    have uB := SQ_B hA hB uQ (RUs_iff.mpr ⟨r, hr⟩)
    have t6 : t < 6 := by omega
    simp (disch := omega) only [wbX11_runBy_2, I_lt]
    refine ⟨fun z => absurd z (by omega), fun _ => ?_⟩
    have r64 := hr.2.1
    simp (disch := omega) only [wpX7_hasRun, hr.1, I_lit, I_tb1, fe, I_add]
    refine ⟨fun q => ?_, fun q => ?_⟩
    · refine ⟨fun z => absurd trivial z, fun _ => ?_⟩
      have C := IvCK uA uB (-1) false t (by omega) (by omega)
      have GC0 := run_GC (K := KB m U T (-1) false t) hW 0
      have ub := uB.2.2.2.2.1
      have h67 := uB.2.2.2.2.2.2.2.2.1
      refine beginFrom_ok (k0 := 1) (k1 := 0) (G := run (KB m U T (-1) false t) 0) (GC_GB GC0.1) (by omega) ?_ GC0.2 ?_
      · intro Y hY g hg j hj
        rw [ub.2.1 Y (by omega) g hg j hj, run_told _ g j Y hY]
        rfl
      · intro τ tB tE
        have tE2 : Eqx (BM 1) υ τ := fun c hc => tE c (by simp [BM] at hc; simp; omega)
        have t6' : gI τ 47 6 = II (-1) := by rw [Eqx_gI tE (by simp)]; exact h67.1
        have t7 : gI τ 47 7 = II 0 := by rw [Eqx_gI tE (by simp)]; exact h67.2
        have t1 : B1 τ (KB m U T (-1) false t) 0 := by
          refine ⟨fun Y hY => tB.2.1 Y (by omega), fun z hz => absurd hz (by omega), fun j hj => ?_, fun z => absurd z (by omega)⟩
          have := tB.2.2.2.1 j hj
          rw [show 41 + 0 = 40 + 1 from rfl, lat_nil GC0.2] at this
          exact this
        have k2 := up (P := fun g i => ∀ ω, Eqx (BM 1) υ ω → B1 ω (KB m U T (-1) false t) i → gI ω 47 6 = II (-1) → gI ω 47 7 = II 0 → wbX11_runBy_32 (wbX11_runBy_2 post f) post g (II b) (II t) (II i) ω) 61 ?_ ?_ 0 (by omega)
        · obtain ⟨g, hg⟩ := k2
          exact ⟨g, hg τ tE2 t1 t6' t7⟩
        · intro g ω wE wB w6 w7
          have wr : gI ω 64 6 = II r := by rw [Eqx_gI wE (by simp [BM])]; exact hr.1
          simp (disch := omega) only [wbX11_runBy_32, I_lit, I_lt, fe, I_add]
          refine ⟨fun _ => ?_, fun z => absurd (by decide) z⟩
          refine keepRun_ok (G := run (KB m U T (-1) false t) 61) wB.2.1 t6 wr r64 ?_
          intro ρ rE r1 r2 r3 r4
          have e : ∀ c, ¬ (25 ≤ c ∧ c ≤ 28 ∨ 47 ≤ c ∧ c ≤ 50 ∨ c = 64 ∨ c = 69) → ρ c = υ c := fun c hc => ((wE c (by simp [BM]; omega)).trans (rE c (by simp; omega))).symm
          have rQ : SQ υ ρ := ⟨fun c hc => e c (by omega), by rw [r1 0 (by omega), Eqx_gI wE (by simp [BM])], by rw [Eqx_gI rE (by simp), w6, h67.1], by rw [Eqx_gI rE (by simp), w7, h67.2], fun k _ => by rw [gI_of (e 75 (by omega))]⟩
          have tb : ∀ i, (r ||| 2 ^ t).testBit i = (r.testBit i || decide (i = t)) := fun i => by
            rw [Nat.testBit_or]
            by_cases e : i = t
            · rw [e, Nat.testBit_two_pow_self]; simp
            · rw [Nat.testBit_two_pow_of_ne (by omega)]; simp [e]
          refine ih (by omega) ρ (uQ.trans rQ) ⟨r ||| 2 ^ t, ⟨r2, Nat.or_lt_two_pow (n := 6) r64 (Nat.pow_lt_pow_right (by decide) t6), fun t' ht' hb => ?_⟩, fun t' h1 h2 => ?_⟩
          · by_cases c : t' = t
            · rw [c]; exact ⟨by omega, r3⟩
            · rw [tb] at hb
              simp [c] at hb
              obtain ⟨x1, x2⟩ := hr.2.2 t' ht' hb
              refine ⟨x1, fun y hy i hi => ?_⟩
              rw [r4 t' ht' c y hy i hi, Eqx_gL wE (by simp [BM])]
              exact x2 y hy i hi
          · rw [tb]
            by_cases c : t' = t
            · simp [c]
            · rw [hr2 t' h1 (by omega)]; rfl
        · intro g i hi ih2 ω wE wB w6 w7
          simp (disch := omega) only [wbX11_runBy_32, I_lit, I_lt, fe, I_add]
          refine ⟨fun z => absurd z (by omega), fun _ => ?_⟩
          have rG := run_GC (K := KB m U T (-1) false t) hW i
          refine pass_ok (K := KB m U T (-1) false t) (k0 := 1) (CK_x C wE (BM_ok (by omega))) (by omega) wB.1 wB.2.1 wB.2.2.1 rG.2 rG.1 (by omega) w6 w7 ?_
          intro ρ oE oB o6 o7
          refine ih2 ρ (fun c hc => (wE c hc).trans (oE c hc)) ⟨?_, ?_, ?_, ?_⟩ o6 o7
          · have := oB.2.1; rw [show 40 + (i + 1) = 41 + i by omega]; exact this
          · exact oB.2.2.1
          · have := oB.2.2.2.1; rw [show 40 + (i + 1) = 41 + i by omega]; exact this
          · intro _; exact oB
    · refine ⟨fun _ => ?_, fun z => ?_⟩
      · refine ih (by omega) υ uQ ⟨r, hr, fun t' h1 h2 => ?_⟩
        by_cases c : t' = t
        · rw [c]; exact q
        · exact hr2 t' h1 (by omega)
      · exact absurd z (by decide)
