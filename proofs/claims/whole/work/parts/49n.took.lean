/-! took, sound -/
def B1 (τ : St) (K : KT) (i : Nat) : Prop := Sums τ 1 (run K i) (40 + i) ∧ Rows τ 1 (run K i) i ∧ Lat τ 1 (run K i) (40 + i) ∧ (1 ≤ i → Bk τ 1 (run K i) (i - 1))
theorem brought_ok {σ : St} {m mi : MT} {U : Nat → Nat} {T : TT} {w : Int} {q : Bool} {n y : Nat} {fl : Int32} {post : Int32 → St → Prop} (hA : IvA σ m mi U T) (hB : IvB σ m mi U T) (hw : -1 ≤ w ∧ w < 8) (hq : fl = II (if q then 1 else 0)) (hn : n < 16) (hy : (y : Int) < m 0)
    (hp : ∀ τ, SR σ τ → post (II (gt (run (KK m U T) (m 0).toNat) (40 + y) 6 n - gt (run (KB m U T w q (-1)) (m 0).toNat) (40 + y) 6 n)) τ) : wpX11_broughtBy (II w) fl (II n) (II y) σ post := by
  have hW := hA.2.2.1
  have w0 := hW.1
  have w4 := hW.2.2.2.2.1
  have hb := hB.2.2.2.2.1
  have h67 := hB.2.2.2.2.2.2.2.2.1
  have C := IvCK hA hB w q (-1) (by omega) (by omega)
  have GC0 := run_GC (K := KB m U T w q (-1)) hW 0
  unfold wpX11_broughtBy
  simp only [fe]
  refine ⟨by rw [hq]; cases q <;> decide, ?_⟩
  have aE : Eqx [47] σ (sI (sI σ 47 6 (II w)) 47 7 fl) := Eqx_tI (Eqx_tI (fun _ _ => rfl) (by simp)) (by simp)
  refine beginFrom_ok (k0 := 1) (k1 := 0) (G := run (KB m U T w q (-1)) 0) (GC_GB GC0.1) (by omega) ?_ GC0.2 ?_
  · intro Y hY g hg j hj
    rw [Eqx_gI aE (by simp), hb.2.1 Y (by omega) g hg j hj, run_told _ g j Y hY]
    rfl
  · intro τ tB tE
    have tE2 : Eqx (BM 1) σ τ := fun c hc => (aE c (by simp [BM] at hc; simp; omega)).trans (tE c (by simp [BM] at hc; simp; omega))
    have t6 : gI τ 47 6 = II w := by rw [Eqx_gI tE (by simp), rI3 (by omega), rI1]
    have t7 : gI τ 47 7 = II (if q then 1 else 0) := by rw [Eqx_gI tE (by simp), rI1, hq]
    have t1 : B1 τ (KB m U T w q (-1)) 0 := by
      refine ⟨fun Y hY => tB.2.1 Y (by omega), fun z hz => absurd hz (by omega), fun j hj => ?_, fun z => absurd z (by omega)⟩
      have := tB.2.2.2.1 j hj
      rw [show 41 + 0 = 40 + 1 from rfl, lat_nil GC0.2] at this
      exact this
    have key := up (P := fun f i => ∀ υ, Eqx (BM 1) σ υ → B1 υ (KB m U T w q (-1)) i → gI υ 47 6 = II w → gI υ 47 7 = II (if q then 1 else 0) → wbX11_broughtBy_30 post f (II n) (II y) (II i) υ) (y + 1) ?_ ?_ 0 (by omega)
    · obtain ⟨f, hf⟩ := key
      exact ⟨f, hf τ tE2 t1 t6 t7⟩
    · intro f υ uE uB u6 u7
      have ub := uB.2.2.2 (by omega)
      simp (disch := omega) only [wbX11_broughtBy_30, I_lt, fe, I_lit, I_neg]
      refine ⟨fun _ => ?_, fun z => absurd (by omega) z⟩
      have vE : Eqx [47] υ (sI (sI υ 47 6 (II (-1))) 47 7 (II 0)) := Eqx_tI (Eqx_tI (fun _ _ => rfl) (by simp)) (by simp)
      have vR : SR σ (sI (sI υ 47 6 (II (-1))) 47 7 (II 0)) := by
        have e : ∀ c, ¬ (25 ≤ c ∧ c ≤ 28 ∨ 47 ≤ c ∧ c ≤ 50) → (sI (sI υ 47 6 (II (-1))) 47 7 (II 0)) c = σ c := fun c hc => ((uE c (by simp [BM]; omega)).trans (vE c (by simp; omega))).symm
        exact ⟨⟨fun c hc => e c (by omega), by rw [gI_of (e 64 (by omega))], by rw [rI3 (by omega), rI1, h67.1], by rw [rI1, h67.2], fun k _ => by rw [gI_of (e 75 (by omega))]⟩, e 64 (by omega), e 69 (by omega)⟩
      have v0 := (SR_B hA hB vR).2.2.2.2.1
      refine between_ok (g := 6) v0 (by omega) hn (by omega) (by omega) ?_
      refine between_ok (k0 := 1) (g := 6) (Bk_eq ub (fun c c1 c2 => (vE c (by simp; omega)).symm)) (by omega) hn (by omega) (by omega) ?_
      rw [show ((y : Int) + 41).toNat = ((y : Int) + 40).toNat + 1 by omega, rg_one, rg_one, show ((y : Int) + 40).toNat = 40 + y by omega, I_sub]
      have eg : gy (run (KB m U T w q (-1)) (y + 1)) 6 n (40 + y) = gt (run (KB m U T w q (-1)) (m 0).toNat) (40 + y) 6 n := by
        show gt _ _ _ _ = _
        unfold gt
        refine sm_congr (fun c _ => ?_)
        rw [run_past (N := y + 1) (M := (m 0).toNat) (by omega) (by omega)]
      rw [eg]
      exact hp _ vR
    · intro f i hi ih υ uE uB u6 u7
      simp (disch := omega) only [wbX11_broughtBy_30, I_lt, fe, I_lit, I_neg, I_add]
      refine ⟨fun z => absurd z (by omega), fun _ => ?_⟩
      have rG := run_GC (K := KB m U T w q (-1)) hW i
      refine pass_ok (K := KB m U T w q (-1)) (k0 := 1) (CK_x C uE (BM_ok (by omega))) (by omega) uB.1 uB.2.1 uB.2.2.1 rG.2 rG.1 (by omega) u6 u7 ?_
      intro ω oE oB o6 o7
      refine ih ω (fun c hc => (uE c hc).trans (oE c hc)) ⟨?_, ?_, ?_, ?_⟩ o6 o7
      · have := oB.2.1; rw [show 40 + (i + 1) = 41 + i by omega]; exact this
      · exact oB.2.2.1
      · have := oB.2.2.2.1; rw [show 40 + (i + 1) = 41 + i by omega]; exact this
      · intro _; exact oB
theorem rbrought {σ : St} {m mi : MT} {U : Nat → Nat} {T : TT} {w : Int} {q : Bool} {n y : Nat} {post : Int32 → St → Prop} (hA : IvA σ m mi U T) (hB : IvB σ m mi U T) (hw : -1 ≤ w ∧ w < 8) (hn : n < 16) (hy : (y : Int) < m 0)
    (hp : ∀ τ, SR σ τ → post (II (gt (run (KK m U T) (m 0).toNat) (40 + y) 6 n - gt (run (KB m U T w q (-1)) (m 0).toNat) (40 + y) 6 n)) τ) :
    wpX12_runsAll σ (fun σ_8 => wpX12_all (II y) (II n) σ_8 (fun r_9 σ_10 => vp_in 0 9680 ∧ (wpX12_runs (gI σ_10 76 (0 : Int32).toNatClampNeg) (II w) (II (if q then 1 else 0)) (-1) σ_10 (fun σ_12 => wpX12_all (II y) (II n) σ_12 (fun r_13 σ_14 => post (r_9 - r_13) σ_14))))) := by
  have w0 := hA.2.2.1.1
  have w4 := hA.2.2.1.2.2.2.2.1
  refine runsAll_ok hA hB ?_
  intro τ tR tG tn
  refine all_ok tG hn (by omega) ?_
  rw [if_neg (show ¬ ((y : Int) < -40) by omega), show ((y : Int) + 40).toNat = 40 + y by omega]
  have tA := SR_A hA tR
  have tB := SR_B hA hB tR
  have e0 : gI τ 76 0 = II (((m 0).toNat : Nat) : Int) := by rw [show (((m 0).toNat : Nat) : Int) = m 0 by omega]; exact tA.1 0
  refine ⟨of_eq_true (I_in (a := 0) (N := 9680) (by omega)), ?_⟩
  rw [show (0 : Int32).toNatClampNeg = 0 from rfl, e0]
  refine runs_ok (K := KB m U T w q (-1)) (N := (m 0).toNat) (IvCy tA tB w q (-1) (by omega) (by omega)) (by omega) ?_
  intro υ uE uF uG un
  refine all_ok uG hn (by omega) ?_
  rw [if_neg (show ¬ ((y : Int) < -40) by omega), show ((y : Int) + 40).toNat = 40 + y by omega, I_sub]
  exact hp υ (tR.trans (SR_rl uE uF))
theorem took_ok {σ : St} (h : Inv σ) (a b c : Int32) : wpX11_took a b c σ (fun r τ => wpX12_took a b c τ (Q2 r)) := by
  obtain ⟨m, mi, U, T, hA, hB⟩ := id h
  obtain ⟨w, a1, a2, rfl⟩ := I_of a
  obtain ⟨n, n1, n2, rfl⟩ := I_of b
  obtain ⟨y, y1, y2, rfl⟩ := I_of c
  have hM := hA.1
  have hW := hA.2.2.1
  have w0 := hW.1
  have w1 := hW.2.1
  have w3 := hW.2.2.2.1
  have e9 := hB.2.2.1.1
  have e11 := hB.2.2.1.2.2.2.1
  have j3 : ∀ τ : St, RM τ m → gI τ 76 (3 : Int32).toNatClampNeg = II (m 3) := fun τ z => z 3
  have ref : ∀ (τ : St) (r : Int32), SR σ τ → (¬ ((0 ≤ w ∧ w < m 3) ∧ (0 ≤ n ∧ n < m 1) ∧ (0 ≤ y ∧ y < m 0)) → r = II (-1000)) → ((0 ≤ w ∧ w < m 3) ∧ (0 ≤ n ∧ n < m 1) ∧ (0 ≤ y ∧ y < m 0) → r = II (gt (run (KK m U T) (m 0).toNat) (40 + y.toNat) 6 n.toNat - gt (run (KB m U T w false (-1)) (m 0).toNat) (40 + y.toNat) 6 n.toNat)) → wpX12_took (II w) (II n) (II y) τ (Q2 r) := by
    intro τ r tR r0 r1
    have tA := SR_A hA tR
    have tB := SR_B hA hB tR
    have tI := SR_I h tR
    unfold wpX12_took
    refine ⟨of_eq_true (I_in (a := 3) (N := 9680) (by omega)), ?_⟩
    rw [j3 τ tA.1, show (1 : Int32) = II 1 from rfl, I_sub, show (0 : Int32) = II 0 from rfl]
    refine in_ok (by omega) (fun z => t1 ?_) (fun z => t0 ⟨r0 (by omega), tI⟩)
    refine isName_ok tA.1 w1 (by omega) (fun q => t1 ?_) (fun q => t0 ⟨r0 (by omega), tI⟩)
    refine isGone_ok tA.1 w0 (by omega) (fun q2 => s1 ?_) (fun q2 => s0 ⟨r0 (by omega), tI⟩)
    have := rbrought (w := w) (q := false) (n := n.toNat) (y := y.toNat) (post := Q2 r) tA tB (by omega) (by omega) (by omega) (fun υ uR => ⟨r1 ⟨by omega, q, q2⟩, SR_I tI uR⟩)
    rw [show ((n.toNat : Nat) : Int) = n by omega, show ((y.toNat : Nat) : Int) = y by omega] at this
    exact this
  unfold wpX11_took
  rw [e11, show (1 : Int32) = II 1 from rfl, I_sub, show (0 : Int32) = II 0 from rfl]
  refine wi_ok (by omega) (fun z => t1 ?_) (fun z => t0 (ref σ _ (SR.refl σ) (fun _ => rfl) (fun q => absurd z (by omega))))
  refine has_ok hB.1.1 w1 (by omega) (fun x => t1 ?_) (fun x => t0 (ref σ _ (SR.refl σ) (fun _ => rfl) (fun q => absurd x (by omega))))
  refine wentBy_ok e9 w0 (by omega) (fun v => s1 ?_) (fun v => s0 (ref σ _ (SR.refl σ) (fun _ => rfl) (fun q => absurd v (by omega))))
  have := brought_ok (w := w) (q := false) (n := n.toNat) (y := y.toNat) (fl := II 0) (post := fun r_7 σ_8 => wpX12_took (II w) (II n) (II y) σ_8 (Q2 r_7)) hA hB (by omega) rfl (by omega) (by omega) (fun τ tR => ref τ _ tR (fun q => absurd ⟨by omega, x, v⟩ q) (fun _ => rfl))
  rw [show ((n.toNat : Nat) : Int) = n by omega, show ((y.toNat : Nat) : Int) = y by omega] at this
  exact this
theorem sound_ok {σ : St} (h : Inv σ) (b c : Int32) : wpX11_sound b c σ (fun r τ => wpX12_sound b c τ (Q2 r)) := by
  obtain ⟨m, mi, U, T, hA, hB⟩ := id h
  obtain ⟨n, n1, n2, rfl⟩ := I_of b
  obtain ⟨y, y1, y2, rfl⟩ := I_of c
  have hM := hA.1
  have hW := hA.2.2.1
  have w0 := hW.1
  have w1 := hW.2.1
  have e9 := hB.2.2.1.1
  have ref : ∀ (τ : St) (r : Int32), SR σ τ → (¬ ((0 ≤ n ∧ n < m 1) ∧ (0 ≤ y ∧ y < m 0)) → r = II (-1000)) → ((0 ≤ n ∧ n < m 1) ∧ (0 ≤ y ∧ y < m 0) → r = II (gt (run (KK m U T) (m 0).toNat) (40 + y.toNat) 6 n.toNat - gt (run (KB m U T (-1) true (-1)) (m 0).toNat) (40 + y.toNat) 6 n.toNat)) → wpX12_sound (II n) (II y) τ (Q2 r) := by
    intro τ r tR r0 r1
    have tA := SR_A hA tR
    have tB := SR_B hA hB tR
    have tI := SR_I h tR
    unfold wpX12_sound
    refine isName_ok tA.1 w1 (by omega) (fun q => t1 ?_) (fun q => t0 ⟨r0 (by omega), tI⟩)
    refine isGone_ok tA.1 w0 (by omega) (fun q2 => s1 ?_) (fun q2 => s0 ⟨r0 (by omega), tI⟩)
    have := rbrought (w := -1) (q := true) (n := n.toNat) (y := y.toNat) (post := Q2 r) tA tB (by omega) (by omega) (by omega) (fun υ uR => ⟨r1 ⟨q, q2⟩, SR_I tI uR⟩)
    rw [show ((n.toNat : Nat) : Int) = n by omega, show ((y.toNat : Nat) : Int) = y by omega] at this
    exact this
  unfold wpX11_sound
  refine has_ok hB.1.1 w1 (by omega) (fun x => t1 ?_) (fun x => t0 (ref σ _ (SR.refl σ) (fun _ => rfl) (fun q => absurd x (by omega))))
  refine wentBy_ok e9 w0 (by omega) (fun v => s1 ?_) (fun v => s0 (ref σ _ (SR.refl σ) (fun _ => rfl) (fun q => absurd v (by omega))))
  have := brought_ok (w := -1) (q := true) (n := n.toNat) (y := y.toNat) (fl := II 1) (post := fun r_7 σ_8 => wpX12_sound (II n) (II y) σ_8 (Q2 r_7)) hA hB (by omega) rfl (by omega) (by omega) (fun τ tR => ref τ _ tR (fun q => absurd ⟨x, v⟩ q) (fun _ => rfl))
  rw [show ((n.toNat : Nat) : Int) = n by omega, show ((y.toNat : Nat) : Int) = y by omega] at this
  exact this
