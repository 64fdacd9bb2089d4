theorem SR_47 {σ τ : St} (e : ∀ q, q ≠ 47 → q ≠ 48 → q ≠ 49 → q ≠ 50 → τ q = σ q) (h6 : gI τ 47 6 = gI σ 47 6) (h7 : gI τ 47 7 = gI σ 47 7) : SR σ τ :=
  ⟨⟨fun q hq => e q (by omega) (by omega) (by omega) (by omega), by rw [gI_of (e 64 (by omega) (by omega) (by omega) (by omega))], h6, h7, fun k _ => by rw [gI_of (e 75 (by omega) (by omega) (by omega) (by omega))]⟩, e 64 (by omega) (by omega) (by omega) (by omega), e 69 (by omega) (by omega) (by omega) (by omega)⟩
theorem weighAll_ok {σ : St} {m mi : MT} {U : Nat → Nat} {T : TT} {p s x : Nat} {post : Int32 → St → Prop} (hA : IvA σ m mi U T) (hB : IvB σ m mi U T) (hp : p < 3) (hs : s < 2) (hx : x < 2)
    (h0 : m (7 + s) = -1 ∨ m 0 = 61 → post (II 0) σ)
    (h1 : m (7 + s) ≠ -1 → m 0 ≤ 60 → ∀ τ, SR σ τ → (∀ n, n < kn (KK m U T) → gI τ 49 n = II (wo (KK m U T) (run (KK m U T) (m 0).toNat) (m 0).toNat p s n (m (7 + s)).toNat) ∧ gI τ 50 n = II (if my (KK m U T) (run (KK m U T) (m 0).toNat) (m 0).toNat p s x n (m (7 + s)).toNat then 1 else 0)) → post (II 1) τ) : wpX11_weighAll (II p) (II s) (II x) σ post := by
  have hW := hA.2.2.1
  have w0 := hW.1
  have w1 := hW.2.1
  have w4 := hW.2.2.2.2.1
  have v7 := hW.2.2.2.2.2.2.2.1 s hs
  have e13 := hB.2.2.1.2.2.2.2.2.2.2.1 s hs
  have e9 := hB.2.2.1.1
  have hG : GB (run (KK m U T) (m 0).toNat) := GC_GB (run_GC (K := KK m U T) hW _).1
  have kn1 : kn (KK m U T) = (m 1).toNat := rfl
  unfold wpX11_weighAll
  simp (disch := omega) only [I_lit, I_neg, I_in, true_and, I_cl, Int.toNat_natCast, fe, e13, I_eq, e9, I_le]
  refine ⟨fun q => h0 (Or.inl q), fun q => ⟨fun q2 => ?_, fun q2 => h0 (Or.inr (by omega))⟩⟩
  have C := IvCK hA hB (-1) false (-1) (by omega) (by omega)
  rw [show m 0 = (((m 0).toNat : Nat) : Int) by omega]
  refine stand_ok (k0 := 0) C (by omega) ?_
  intro τ tE t5 t6 t7 t8 t9 t10 t11 t12 t13
  have hb : ∀ ω, (∀ q, q ≠ 47 → q ≠ 48 → q ≠ 49 → q ≠ 50 → ω q = σ q) → gI ω 47 6 = gI σ 47 6 → gI ω 47 7 = gI σ 47 7 → CK ω (KK m U T) ∧ Bk ω 0 (run (KK m U T) (m 0).toNat) (m 0).toNat ∧ gI ω 1 0 = II (m 1) := by
    intro ω a b c
    have wR := SR_47 a b c
    have wB := SR_B hA hB wR
    have := wB.2.2.2.2.1
    rw [show min (m 0).toNat 60 = (m 0).toNat by omega] at this
    exact ⟨IvCK (SR_A hA wR) wB (-1) false (-1) (by omega) (by omega), this, wB.1.1⟩
  have key := up (P := fun f i => ∀ ω, Eqx [48, 49, 50] (sR τ 47 5 (some (30 + 2 * (m (7 + s)).toNat))) ω → (∀ n, n < i → gI ω 49 n = II (wo (KK m U T) (run (KK m U T) (m 0).toNat) (m 0).toNat p s n (m (7 + s)).toNat) ∧ gI ω 50 n = II (if my (KK m U T) (run (KK m U T) (m 0).toNat) (m 0).toNat p s x n (m (7 + s)).toNat then 1 else 0)) → wbX11_weighAll_69 post f (II i) ω) (m 1).toNat ?_ ?_ 0 (by omega)
  · obtain ⟨f, hf⟩ := key
    refine ⟨of_eq_true (I_in (by omega)), ?_⟩
    rw [I_cl (by omega)]
    exact ⟨f, hf _ (fun _ _ => rfl) (fun n hn => absurd hn (by omega))⟩
  · intro f ω wE wv
    have ew : ∀ q, q ≠ 47 → q ≠ 48 → q ≠ 49 → q ≠ 50 → ω q = σ q := fun q a b c d => by rw [← wE q (by simp; omega), ce_sR _ _ _ _ _ a, ← tE q (by simp; omega)]
    have g6 : gI ω 47 6 = gI σ 47 6 := by rw [Eqx_gI wE (by simp), gI_sR, t6]
    have g7 : gI ω 47 7 = gI σ 47 7 := by rw [Eqx_gI wE (by simp), gI_sR, t7]
    simp (disch := omega) only [wbX11_weighAll_69, (hb ω ew g6 g7).2.2, I_le]
    exact ⟨fun _ => h1 q q2 ω (SR_47 ew g6 g7) (fun n hn => wv n (by omega)), fun z => absurd (by omega) z⟩
  · intro f i hi ih ω wE wv
    have ew : ∀ q, q ≠ 47 → q ≠ 48 → q ≠ 49 → q ≠ 50 → ω q = σ q := fun q a b c d => by rw [← wE q (by simp; omega), ce_sR _ _ _ _ _ a, ← tE q (by simp; omega)]
    have g6 : gI ω 47 6 = gI σ 47 6 := by rw [Eqx_gI wE (by simp), gI_sR, t6]
    have g7 : gI ω 47 7 = gI σ 47 7 := by rw [Eqx_gI wE (by simp), gI_sR, t7]
    obtain ⟨c1, c2, c3⟩ := hb ω ew g6 g7
    have J : Jd ω (KK m U T) 0 (m (7 + s)).toNat (m 0).toNat p s x := by
      refine ⟨?_, ?_, ?_, ?_, ?_, ?_, ?_, ?_, ?_⟩
      · rw [Eqx_gR wE (by simp), gR_sR, if_pos ⟨rfl, rfl⟩]
      · rw [Eqx_gR wE (by simp), gR_sR, if_neg (by omega)]; exact t8
      · rw [Eqx_gI wE (by simp), gI_sR]; exact t9
      · rw [Eqx_gI wE (by simp), gI_sR]; exact t10
      · rw [Eqx_gI wE (by simp), gI_sR]; exact t11
      · rw [Eqx_gI wE (by simp), gI_sR]; exact t12
      · rw [Eqx_gI wE (by simp), gI_sR]; exact t13
      · rw [g6]; exact hB.2.2.2.2.2.2.2.2.1.1
      · rw [g7]; exact hB.2.2.2.2.2.2.2.2.1.2
    simp (disch := omega) only [wbX11_weighAll_69, c3, I_le, fe, I_lit, I_add]
    refine ⟨fun z => absurd z (by omega), fun _ => weigh_ok c1 J c2 hG (by omega) hp hs hx (by omega) (by show ((m (7 + s)).toNat : Int) < m 4; omega) ?_⟩
    intro υ uE u1 u2 u3 u4
    refine ih υ (fun q hq => (wE q hq).trans (uE q hq)) (fun n hn => ?_)
    by_cases c : n = i
    · rw [c]; exact ⟨u1, u3⟩
    · rw [u2 n c, u4 n c]; exact wv n (by omega)
