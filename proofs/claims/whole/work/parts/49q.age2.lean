/-! age: the call -/
theorem halfBorn_ok {σ : St} {m : MT} {G : GV} {o N Zh : Nat} {post : Int32 → St → Prop} (B : Bk σ 0 G o) (C : CL σ m) (hW : WFm m) (hG : GB G) (hN : N < 16) (a b : Nat) (tot : Int) (ea : a = (m 0 - m 6 + 40).toNat) (eb : b = (m 0 + 40).toNat) (et : tot = rg (gy G 6 N) a b)
    (hz : a ≤ Zh ∧ Zh < b) (hz2 : tot ≤ 2 * rg (gy G 6 N) a (Zh + 1)) (hz3 : ∀ Z, a ≤ Z → Z < Zh → ¬ tot ≤ 2 * rg (gy G 6 N) a (Z + 1)) (hp : post (II ((Zh : Int) - 40)) σ) : wpX10_halfBorn (II N) σ post := by
  have w0 := hW.1
  have w6 := hW.2.2.2.2.2.2.1
  have tb := sgb hG N a b (by omega)
  rw [← et] at tb
  unfold wpX10_halfBorn
  refine firstLiving_ok C hW ?_
  rw [C.1, show (1 : Int32) = II 1 from rfl, I_sub]
  simp only [fe]
  refine between_ok (g := 6) B (by omega) hN (by omega) (by omega) ?_
  rw [show (max (m 0 - m 6) (-40) + 40).toNat = a by omega, show (m 0 - 1 + 41).toNat = b by omega, ← et, show max (m 0 - m 6) (-40) = (a : Int) - 40 by omega, show m 0 - 1 = (b : Int) - 41 by omega]
  have key := up (P := fun f Z => a ≤ Z → wbX10_halfBorn_32 post f (II N) (II ((a : Int) - 40)) (II ((b : Int) - 41)) (II tot) (II ((Z : Int) - 40)) σ) Zh ?_ ?_ a hz.1
  · obtain ⟨f, hf⟩ := key
    exact ⟨f, hf (Nat.le_refl _)⟩
  · intro f _
    have sb := sgb hG N a (Zh + 1) (by omega)
    simp (disch := omega) only [wbX10_halfBorn_32, I_le, I_lit]
    refine ⟨fun q => ?_, fun q => ?_⟩
    · rw [show (b : Int) - 41 = (Zh : Int) - 40 by omega]; exact hp
    · refine between_ok (g := 6) B (by omega) hN (by omega) (by omega) ?_
      rw [show ((a : Int) - 40 + 40).toNat = a by omega, show ((Zh : Int) - 40 + 41).toNat = Zh + 1 by omega, I_mul, I_lt (by omega)]
      exact ⟨fun q => absurd q (by omega), fun _ => hp⟩
  · intro f Z hZ ih hle
    have ih := ih (by omega)
    rw [show ((Z + 1 : Nat) : Int) - 40 = (Z : Int) - 40 + 1 by omega] at ih
    have sb := sgb hG N a (Z + 1) (by omega)
    have nz := hz3 Z hle hZ
    simp (disch := omega) only [wbX10_halfBorn_32, I_le, I_lit]
    refine ⟨fun q => absurd q (by omega), fun q => ?_⟩
    refine between_ok (g := 6) B (by omega) hN (by omega) (by omega) ?_
    rw [show ((a : Int) - 40 + 40).toNat = a by omega, show ((Z : Int) - 40 + 41).toNat = Z + 1 by omega, I_mul, I_lt (by omega)]
    simp only [fe, I_add]
    exact ⟨fun _ => ih, fun q => absurd (by omega) q⟩
theorem rhalf_ok {σ : St} {G : GV} {N Zh a b : Nat} {tot : Int} {post : Int32 → St → Prop} (hR : RG σ G) (hG : GB G) (hN : N < 16) (hb : b ≤ 101) (ht : 0 ≤ tot ∧ tot ≤ 12118788)
    (hz : a ≤ Zh ∧ Zh < b) (hz2 : tot ≤ 2 * rg (gy G 6 N) a (Zh + 1)) (hz3 : ∀ Z, a ≤ Z → Z < Zh → ¬ tot ≤ 2 * rg (gy G 6 N) a (Z + 1)) (hp : post (II ((Zh : Int) - 40)) σ) :
    wpX12_all (II ((a : Int) - 40)) (II N) σ (fun r_14 σ_15 => ∃ m_100, wbX12_age_100 post m_100 (II N) (II tot) (II ((a : Int) - 40)) r_14 σ_15) := by
  refine all_ok hR hN (by omega) ?_
  rw [if_neg (by omega), show ((a : Int) - 40 + 40).toNat = a by omega]
  have key := up (P := fun f Z => a ≤ Z → wbX12_age_100 post f (II N) (II tot) (II ((Z : Int) - 40)) (II (rg (gy G 6 N) a (Z + 1))) σ) Zh ?_ ?_ a hz.1
  · obtain ⟨f, hf⟩ := key
    have := hf (Nat.le_refl _)
    rw [rg_one] at this
    exact ⟨f, this⟩
  · intro f _
    have sb := sgb hG N a (Zh + 1) (by omega)
    simp (disch := omega) only [wbX12_age_100, I_le, I_lit, I_mul]
    exact ⟨fun _ => hp, fun q => absurd hz2 q⟩
  · intro f Z hZ ih hle
    have ih := ih (by omega)
    rw [rg_succ (show a ≤ Z + 1 by omega), show ((Z + 1 : Nat) : Int) - 40 = (Z : Int) - 40 + 1 by omega] at ih
    have sb := sgb hG N a (Z + 1) (by omega)
    have nz := hz3 Z hle hZ
    simp (disch := omega) only [wbX12_age_100, I_le, I_lit, I_mul, fe, I_add]
    refine ⟨fun q => absurd q nz, fun _ => ?_⟩
    refine all_ok hR hN (by omega) ?_
    rw [if_neg (by omega), show ((Z : Int) - 40 + 1 + 40).toNat = Z + 1 by omega, I_add]
    exact ih
theorem age_ok {σ : St} (h : Inv σ) (a b c : Int32) : wpX11_age a b c σ (fun r τ => wpX12_age a b c τ (Q2 r)) := by
  obtain ⟨m, mi, U, T, hA, hB⟩ := id h
  obtain ⟨n, n1, n2, rfl⟩ := I_of a
  obtain ⟨v, v1, v2, rfl⟩ := I_of b
  obtain ⟨k, k1, k2, rfl⟩ := I_of c
  have hM := hA.1
  have hW := hA.2.2.1
  have w0 := hW.1
  have w1 := hW.2.1
  have w6 := hW.2.2.2.2.2.2.1
  have e9 := hB.2.2.1.1
  have ref0 : ¬ ((0 ≤ n ∧ n < m 1) ∧ (1 ≤ v ∧ v ≤ 100) ∧ (0 ≤ k ∧ k ≤ 2)) → wpX12_age (II n) (II v) (II k) σ (Q2 (II (-1000))) := by
    intro hz
    unfold wpX12_age
    refine isName_ok hM w1 (by omega) (fun q => t1 ?_) (fun q => t0 ⟨rfl, h⟩)
    refine in_ok (b := 1) (c := 100) (by omega) (fun q2 => t1 ?_) (fun q2 => t0 ⟨rfl, h⟩)
    exact in_ok (b := 0) (c := 2) (by omega) (fun q3 => absurd ⟨q, q2, q3⟩ hz) (fun q3 => s0 ⟨rfl, h⟩)
  unfold wpX11_age
  refine has_ok hB.1.1 w1 (by omega) (fun z => t1 ?_) (fun z => t0 (ref0 (fun q => z q.1)))
  refine wi_ok (b := 1) (c := 100) (by omega) (fun z2 => t1 ?_) (fun z2 => t0 (ref0 (fun q => z2 q.2.1)))
  refine wi_ok (b := 0) (c := 2) (by omega) (fun z3 => s1 ?_) (fun z3 => s0 (ref0 (fun q => z3 q.2.2)))
  obtain ⟨N, rfl⟩ : ∃ N : Nat, n = N := ⟨n.toNat, by omega⟩
  have hG : GB (run (KK m U T) (m 0).toNat) := GC_GB (run_GC (K := KK m U T) hW _).1
  obtain ⟨A, eA⟩ : ∃ A, A = (m 0 - m 6 + 40).toNat := ⟨_, rfl⟩
  obtain ⟨B, eB⟩ : ∃ B, B = (m 0 + 40).toNat := ⟨_, rfl⟩
  obtain ⟨tot, et⟩ : ∃ tot, tot = rg (gy (run (KK m U T) (m 0).toNat) 6 N) A B := ⟨_, rfl⟩
  have tb := sgb hG N A B (by omega)
  rw [← et] at tb
  obtain ⟨H1, eH1⟩ : ∃ H1 : Int32 → Prop, H1 = fun r => (tot ≠ 0 → k = 2 → ∃ Zh, (A ≤ Zh ∧ Zh < B) ∧ (tot ≤ 2 * rg (gy (run (KK m U T) (m 0).toNat) 6 N) A (Zh + 1)) ∧ (∀ Z, A ≤ Z → Z < Zh → ¬ tot ≤ 2 * rg (gy (run (KK m U T) (m 0).toNat) 6 N) A (Z + 1)) ∧ r = II ((Zh : Int) - 40)) := ⟨_, rfl⟩
  obtain ⟨H2, eH2⟩ : ∃ H2 : Int32 → Prop, H2 = fun r => (tot ≠ 0 → k ≠ 2 → ∃ L Zs, (1 ≤ L ∧ A + L ≤ B) ∧ (A ≤ Zs ∧ Zs + L ≤ B) ∧ (v * tot ≤ 100 * rg (gy (run (KK m U T) (m 0).toNat) 6 N) Zs (Zs + L)) ∧ (∀ Y, A ≤ Y → Y < Zs → ¬ v * tot ≤ 100 * rg (gy (run (KK m U T) (m 0).toNat) 6 N) Y (Y + L)) ∧ (∀ l, 1 ≤ l → l < L → ∀ Z, A ≤ Z → Z + l ≤ B → ¬ v * tot ≤ 100 * rg (gy (run (KK m U T) (m 0).toNat) 6 N) Z (Z + l)) ∧ (k = 0 → r = II ((Zs : Int) - 40)) ∧ (k ≠ 0 → r = II ((Zs : Int) - 40 + L - 1))) := ⟨_, rfl⟩
  have ref : ∀ r : Int32, (tot = 0 → r = II (-1000)) → H1 r → H2 r → wpX12_age (II N) (II v) (II k) σ (Q2 r) := by
    intro r r0 r1 r2
    unfold wpX12_age
    refine isName_ok hM w1 (by omega) (fun _ => t1 ?_) (fun q => absurd z q)
    refine in_ok (b := 1) (c := 100) (by omega) (fun _ => t1 ?_) (fun q => absurd z2 q)
    refine in_ok (b := 0) (c := 2) (by omega) (fun _ => s1 ?_) (fun q => absurd z3 q)
    refine runsAll_ok hA hB ?_
    intro τ tR tG tn
    have tA := SR_A hA tR
    have tI := SR_I h tR
    have e0 : gI τ 76 0 = II (m 0) := tA.1 0
    have e6 : gI τ 76 6 = II (m 6) := tA.1 6
    simp (disch := omega) only [I_lit, I_in, true_and, I_cl, Int.reduceToNat, e0, e6, fe, I_sub, I_add, I_neg, I_eq]
    refine greater_ok (by omega) ?_
    rw [show max (-40) (m 0 - 1 - m 6 + 1) = (A : Int) - 40 by omega]
    refine living_ok tG tA.1 w6 (by omega) (by omega) ?_
    rw [show (m 0 - 1 - m 6 + 41).toNat = A by omega, show (m 0 - 1 + 41).toNat = B by omega, ← et, show m 0 - 1 = (B : Int) - 41 by omega, I_eq (by omega)]
    refine ⟨fun q => ⟨fun q2 => ?_, fun q2 => ?_⟩, fun q => ⟨r0 q, tI⟩⟩
    · rw [eH2] at r2
      have jj : B ≤ 101 ∧ N < 16 := ⟨by clear r2; omega, by clear r2; omega⟩
      have r2 := r2 q q2
      clear r1
      obtain ⟨L, Zs, x1, x2, x3, x4, x5, x6, x7⟩ := r2
      exact rspan_ok tG hG jj.2 z2 jj.1 tb ⟨k1, k2⟩ x1 x2 x3 x4 x5 ⟨fun y => ⟨x6 y, tI⟩, fun y => ⟨x7 y, tI⟩⟩
    · rw [eH1] at r1
      have r1 := r1 q q2
      clear r2
      obtain ⟨Zh, x1, x2, x3, x4⟩ := r1
      exact rhalf_ok tG hG (by omega) (by omega) tb x1 x2 x3 ⟨x4, tI⟩
  rw [eH1, eH2] at ref
  rw [e9, show (1 : Int32) = II 1 from rfl, I_sub]
  refine clivingAt_ok hB.2.2.2.2.1 hB.2.2.1.2.1 w6 (by omega) (by omega) ?_
  rw [show (m 0 - 1 - m 6 + 41).toNat = A by omega, show (m 0 - 1 + 41).toNat = B by omega, ← et, show (0 : Int32) = II 0 from rfl, I_eq (by omega)]
  refine ⟨fun q => ?_, fun q => ref _ (fun _ => rfl) (fun y => absurd q y) (fun y => absurd q y)⟩
  rw [show (2 : Int32) = II 2 from rfl, I_eq (by omega)]
  refine ⟨fun q2 => ?_, fun q2 => ?_⟩
  · obtain ⟨L, ⟨l1, l2, Z0, l3, l4, l5⟩, l6⟩ := pk_least (fun L => 1 ≤ L ∧ A + L ≤ B ∧ ∃ Z, A ≤ Z ∧ Z + L ≤ B ∧ v * tot ≤ 100 * rg (gy (run (KK m U T) (m 0).toNat) 6 N) Z (Z + L)) ⟨B - A, by omega, by omega, A, Nat.le_refl _, by omega, by
      rw [show A + (B - A) = B by omega, ← et]
      exact Int.mul_le_mul_of_nonneg_right z2.2 tb.1⟩
    obtain ⟨Zs, ⟨p1, p2, p3⟩, p4⟩ := pk_least (fun Z => A ≤ Z ∧ Z + L ≤ B ∧ v * tot ≤ 100 * rg (gy (run (KK m U T) (m 0).toNat) 6 N) Z (Z + L)) ⟨Z0, l3, l4, l5⟩
    have p5 : ∀ Y, A ≤ Y → Y < Zs → ¬ v * tot ≤ 100 * rg (gy (run (KK m U T) (m 0).toNat) 6 N) Y (Y + L) := fun Y y1 y2 y3 => p4 Y y2 ⟨y1, by omega, y3⟩
    have l7 : ∀ l, 1 ≤ l → l < L → ∀ Z, A ≤ Z → Z + l ≤ B → ¬ v * tot ≤ 100 * rg (gy (run (KK m U T) (m 0).toNat) 6 N) Z (Z + l) := fun l y1 y2 Z y3 y4 y5 => l6 l y2 ⟨y1, by omega, Z, y3, y4, y5⟩
    refine shortestSpan_ok hB.2.2.2.2.1 hB.2.2.1 hW hG (by omega) z2 A B tot eA eB et ⟨l1, l2⟩ ⟨Z0, l3, l4, l5⟩ l7 ?_
    refine spanStart_ok hB.2.2.2.2.1 hB.2.2.1 hW hG (by omega) z2 (by omega) A B tot eA eB et (fun Z y1 y2 y3 y4 => ?_) (fun y => absurd l5 (y Z0 l3 l4))
    have eZ : Z = Zs := by
      rcases Nat.lt_trichotomy Z Zs with c | c | c
      · exact absurd y3 (p5 Z y1 c)
      · exact c
      · exact absurd p3 (y4 Zs p1 c)
    subst eZ
    rw [I_eq (by omega), I_add, I_sub]
    have fin := fun r a1 a2 => ref r (fun y => absurd y q) (fun _ y => absurd y q2) (fun _ _ => ⟨L, Z, ⟨l1, l2⟩, ⟨p1, p2⟩, p3, p5, l7, a1, a2⟩)
    exact ⟨fun y => fin _ (fun e => absurd e y) (fun _ => rfl), fun y => fin _ (fun _ => rfl) (fun e => absurd y e)⟩
  · obtain ⟨Zh, ⟨p1, p2, p3⟩, p4⟩ := pk_least (fun Z => A ≤ Z ∧ Z < B ∧ tot ≤ 2 * rg (gy (run (KK m U T) (m 0).toNat) 6 N) A (Z + 1)) ⟨B - 1, by omega, by omega, by
      rw [show B - 1 + 1 = B by omega, ← et]; omega⟩
    have p5 : ∀ Z, A ≤ Z → Z < Zh → ¬ tot ≤ 2 * rg (gy (run (KK m U T) (m 0).toNat) 6 N) A (Z + 1) := fun Z y1 y2 y3 => p4 Z y2 ⟨y1, by omega, y3⟩
    exact halfBorn_ok hB.2.2.2.2.1 hB.2.2.1 hW hG (by omega) A B tot eA eB et ⟨p1, p2⟩ p3 p5 (ref _ (fun y => absurd y q) (fun _ _ => ⟨Zh, ⟨p1, p2⟩, p3, p5, rfl⟩) (fun _ y => absurd q2 y))
