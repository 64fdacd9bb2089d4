theorem run_told {K : KT} (y : Nat) (g n Y : Nat) (hY : Y ≤ 40) : sm (gy (run K y) g n) Y = sm (gy (G0 K.1 (kn K)) g n) Y := by
  refine sm_congr (fun Z hZ => ?_)
  show gt (run K y) Z g n = gt (G0 K.1 (kn K)) Z g n
  unfold gt
  exact sm_congr (fun c _ => by rw [run_past (N := 0) (M := y) (by omega) (by omega)]; rfl)
theorem keep_ok {σ : St} {m : MT} {post : St → Prop} (hC : CL σ m)
    (hS : ∀ Y, Y ≤ 40 → ∀ g, g < 7 → ∀ n, n < 16 → gI σ 23 (Y * 112 + (g * 16 + n)) = II (sm (gy (G0 m (m 1).toNat) g n) Y))
    (hp : ∀ τ, Eqx [70, 71, 72, 73, 74] σ τ → (∀ a b c, IMs (sI (sI (sI τ 70 0 a) 70 1 b) 70 2 c) m ↔ a = II (m 1) ∧ b = II (m 4) ∧ c = II (m 5)) → post τ) : wpX2_keep 0 σ post := by
  obtain ⟨d1, d2, d3, d4, d5, d6, d7, d8, d9, d10, d11⟩ := id hC
  have z0 : (0 : Int32).toNatClampNeg = 0 := rfl
  have k12 : (12 : Int32).toNatClampNeg = 12 := rfl
  have k2 : (2 : Int32).toNatClampNeg = 2 := rfl
  have k3 : (7680 : Int32).toNatClampNeg = 7680 := rfl
  have k4 : (4592 : Int32).toNatClampNeg = 4592 := rfl
  unfold wpX2_keep
  simp only [fe, z0, k12, k2, k3, k4]
  refine ⟨by decide, by decide, by decide, by omega, by omega, by decide, by decide, by decide, by omega, by omega, by decide, by decide, by decide, by omega, by omega, by decide, by decide, by decide, by omega, by omega, ?_⟩
  refine hp _ ?_ ?_
  · exact Eqx_tA (Eqx_tA (Eqx_tA (Eqx_tA (Eqx_tI (Eqx_tI (Eqx_tI (Eqx_tI (Eqx.refl _ _) (by simp)) (by simp)) (by simp)) (by simp)) (by simp)) (by simp)) (by simp)) (by simp)
  · intro a b c
    unfold IMs
    simp (disch := omega) only [rI1, rI2, rI3, rA1, rA2, ce_sI, ce_sA, ne_eq, sb_cpy0]
    constructor
    · intro h; exact ⟨h.1, h.2.1, h.2.2.1⟩
    · intro h
      refine ⟨h.1, h.2.1, h.2.2, d1, d2, d3, d4, fun c hc => ?_, fun s hs => ?_, fun Y hY c hc n hn => ?_, fun Y hY g hg n hn => ?_⟩
      · rw [sb_cpy0 hc]; exact d6 c hc
      · rw [sb_cpy0 hs]; exact d8 s hs
      · rw [sb_cpy0 (by omega)]; exact d5 Y hY c hc n hn
      · rw [sb_cpy0 (by omega)]; exact hS Y hY g hg n hn
theorem image_ok {σ : St} (h : Inv σ) : wpX11_image σ (fun r τ => wpX12_image τ (Q2 r)) := by
  obtain ⟨m, mi, U, T, hA, hB⟩ := id h
  obtain ⟨a1, a2, a3, a4, a5, a6, a7, a8, a9⟩ := id hA
  obtain ⟨b1, b2, b3, b4, b5, b6, b7, b8, b9, b10, b11⟩ := id hB
  unfold wpX11_image
  refine keep_ok b3 (fun Y hY g hg n hn => ?_) ?_
  · have := b5.2.1 Y (by omega) g hg n hn
    rw [run_told _ _ _ _ hY] at this
    exact this
  · intro τ tE tI
    simp only [fe]
    have n1 : gI τ 1 0 = II (m 1) := by rw [Eqx_gI tE (by simp)]; exact b1.1
    have n2 : gI (sI τ 70 0 (gI τ 1 0)) 0 5 = II (m 4) := by rw [rI2 (by omega), Eqx_gI tE (by simp)]; exact b4.2
    have n3 : gI (sI (sI τ 70 0 (gI τ 1 0)) 70 1 (gI (sI τ 70 0 (gI τ 1 0)) 0 5)) 64 0 = II (m 5) := by rw [rI2 (by omega), rI2 (by omega), Eqx_gI tE (by simp)]; exact b7.1
    have hI := (tI (II (m 1)) (II (m 4)) (II (m 5))).mpr ⟨rfl, rfl, rfl⟩
    rw [n3, n2, n1]
    have n4 : gI (sI (sI (sI τ 70 0 (II (m 1))) 70 1 (II (m 4))) 70 2 (II (m 5))) 9 0 = II (m 0) := by rw [rI2 (by omega), rI2 (by omega), rI2 (by omega), Eqx_gI tE (by simp)]; exact b3.1
    rw [n4]
    have vE : Eqx [70, 71, 72, 73, 74] σ (sI (sI (sI τ 70 0 (II (m 1))) 70 1 (II (m 4))) 70 2 (II (m 5))) := Eqx_tI (Eqx_tI (Eqx_tI tE (by simp)) (by simp)) (by simp)
    generalize sI (sI (sI τ 70 0 (II (m 1))) 70 1 (II (m 4))) 70 2 (II (m 5)) = υ at *
    unfold wpX12_image
    refine copies_ok (a := m) (b := mi) (out := 1) (fun k => by rw [Eqx_gI vE (by simp)]; exact a1 k) (fun k => by rw [Eqx_gI vE (by simp)]; exact a2 k) (Or.inr rfl) (fun k hk => a9.1.2.2.2.2.2.2.2.2.2.2.2.2.2.2 k hk) ?_
    intro ρ rE r76 r77
    rw [if_neg (by omega)] at r76
    simp only [show ¬ ((1 : Int) = 0) by omega, if_false] at r77
    have c0 : (0 : Int32).toNatClampNeg = 0 := rfl
    refine ⟨of_eq_true (I_in (a := 0) (N := 9680) (by omega)), ?_⟩
    rw [c0, r76 0]
    refine ⟨rfl, ?_⟩
    have e : ∀ q, q ∉ [70, 71, 72, 73, 74] → q ≠ 76 → q ≠ 77 → ρ q = σ q := fun q p1 p2 p3 => by rw [← rE q (by simp; omega), ← vE q p1]
    refine ⟨m, m, U, T, ⟨r76, r77, a3, a3, a5, a5, a7, a7, Ex1.refl m⟩, ?_⟩
    refine ⟨NMs_c b1 (fun q p1 p2 => e q (by simp; omega) (by omega) (by omega)) (e 78 (by simp) (by omega) (by omega)) rfl (fun _ _ => ⟨rfl, rfl⟩), ⟨NP_c b2.1 (e 83 (by simp) (by omega) (by omega)) (e 84 (by simp) (by omega) (by omega)), RW_eq b2.2 (fun q p1 p2 => e q (by simp; omega) (by omega) (by omega))⟩, CL_eq b3 (fun q hq => e q ?_ ?_ ?_), ⟨CW_eq a3.2.2.2.2.1.2 b4.1 (fun q p1 p2 => e q (by simp; omega) (by omega) (by omega)), by rw [gI_of (e 0 (by simp) (by omega) (by omega))]; exact b4.2⟩, Bk_eq b5 (fun q p1 p2 => e q (by simp; omega) (by omega) (by omega)), fun y hy => by rw [gI_of (e 15 (by simp) (by omega) (by omega))]; exact b6 y hy, PRs_c b7 (fun q p1 p2 => e q (by simp; omega) (by omega) (by omega)) (by rw [gI_of (e 64 (by simp) (by omega) (by omega))]) rfl (fun _ _ _ _ => rfl), RUs_c b8 (by rw [gI_of (e 64 (by simp) (by omega) (by omega))]) (e 69 (by simp) (by omega) (by omega)), by rw [gI_of (e 47 (by simp) (by omega) (by omega)), gI_of (e 47 (by simp) (by omega) (by omega))]; exact b9, TPs_c b10 (fun k _ => by rw [gI_of (e 42 (by simp) (by omega) (by omega))]) (e 43 (by simp) (by omega) (by omega)) (e 79 (by simp) (by omega) (by omega)) (fun k p1 p2 => by rw [gI_of (e 75 (by simp) (by omega) (by omega))]), IMs_c hI (fun q p1 p2 => (rE q (by simp; omega)).symm)⟩
    · simp only [CE, List.mem_cons, List.not_mem_nil, or_false] at hq; simp; omega
    · simp only [CE, List.mem_cons, List.not_mem_nil, or_false] at hq; omega
    · simp only [CE, List.mem_cons, List.not_mem_nil, or_false] at hq; omega
theorem back_ok {σ : St} (h : Inv σ) : wpX11_back σ (fun r τ => wpX12_back τ (Q2 r)) := by
  obtain ⟨m, mi, U, T, hA, hB⟩ := id h
  obtain ⟨a1, a2, a3, a4, a5, a6, a7, a8, a9⟩ := id hA
  obtain ⟨b1, b2, b3, b4, b5, b6, b7, b8, b9, b10, b11⟩ := id hB
  obtain ⟨i1, i2, i3, i4, i5, i6, i7, i8, i9, i10, i11⟩ := id b11
  obtain ⟨p0, p1, p2, p3, p4, p5, p6, p7, p8, p9, p10, p11, p12, p13, p14⟩ := id a9.1
  obtain ⟨d1, d2, d3, d4, d5, d6, d7, d8, d9, d10, d11⟩ := id b3
  have w0 := a4.1
  have w0' := a3.1
  have z0 : (0 : Int32).toNatClampNeg = 0 := rfl
  have k12 : (12 : Int32).toNatClampNeg = 12 := rfl
  have k2 : (2 : Int32).toNatClampNeg = 2 := rfl
  have k3 : (7680 : Int32).toNatClampNeg = 7680 := rfl
  have k4 : (4592 : Int32).toNatClampNeg = 4592 := rfl
  -- what the class's restore leaves, ahead of reopening
  have hre : ∀ post : St → Prop, (∀ τ : St, Eqx [9, 10, 11, 13, 23] σ τ → gI τ 9 0 = II (mi 0) → gI τ 9 1 = II (mi 6) → gI τ 9 8 = II (mi 2) → gI τ 9 11 = II (mi 3) → (∀ c, c < 12 → gI τ 11 c = II (mi (10 + c))) → (∀ s, s < 2 → gI τ 13 s = II (mi (7 + s))) → (∀ Y, Y < 40 → ∀ c, c < 12 → ∀ n, n < 16 → gI τ 10 ((Y * 12 + c) * 16 + n) = II (mi (2000 + (39 - Y) * 192 + c * 16 + n))) → (∀ Y, Y ≤ 40 → ∀ g, g < 7 → ∀ n, n < 16 → gI τ 23 (Y * 112 + (g * 16 + n)) = II (sm (gy (G0 mi (mi 1).toNat) g n) Y)) → (∀ k, 4592 ≤ k → gI τ 23 k = gI σ 23 k) → wpX0_reopen 0 (II (mi 0)) τ post) → wpX2_restore 0 σ post := by
    intro post hh
    unfold wpX2_restore
    simp only [fe, z0, k12, k2, k3, k4]
    refine ⟨by decide, by decide, by decide, by omega, by omega, by decide, by decide, by decide, by omega, by omega, by decide, by decide, by decide, by omega, by omega, by decide, by decide, by decide, by omega, by omega, ?_⟩
    have e3 : ∀ f1 f2 f3 f4 : Nat → Int32, gI (sA (sA (sA (sA (sI (sI (sI (sI σ 9 0 (gI σ 70 3)) 9 1 (gI (sI σ 9 0 (gI σ 70 3)) 70 4)) 9 8 (gI (sI (sI σ 9 0 (gI σ 70 3)) 9 1 (gI (sI σ 9 0 (gI σ 70 3)) 70 4)) 70 5)) 9 11 (gI (sI (sI (sI σ 9 0 (gI σ 70 3)) 9 1 (gI (sI σ 9 0 (gI σ 70 3)) 70 4)) 9 8 (gI (sI (sI σ 9 0 (gI σ 70 3)) 9 1 (gI (sI σ 9 0 (gI σ 70 3)) 70 4)) 70 5)) 70 6)) 11 f1) 13 f2) 10 f3) (21 + 4 * 0 + 2) f4) 70 3 = II (mi 0) := by
      intro f1 f2 f3 f4
      simp (disch := omega) only [rI2, rA2]; exact i4
    rw [e3]
    refine hh _ ?_ ?_ ?_ ?_ ?_ ?_ ?_ ?_ ?_ ?_
    · exact Eqx_tA (Eqx_tA (Eqx_tA (Eqx_tA (Eqx_tI (Eqx_tI (Eqx_tI (Eqx_tI (Eqx.refl _ _) (by simp)) (by simp)) (by simp)) (by simp)) (by simp)) (by simp)) (by simp)) (by simp)
    · simp (disch := omega) only [rI1, rI2, rI3, rA2]; exact i4
    · simp (disch := omega) only [rI1, rI2, rI3, rA2]; exact i5
    · simp (disch := omega) only [rI1, rI2, rI3, rA2]; exact i6
    · simp (disch := omega) only [rI1, rI2, rI3, rA2]; exact i7
    · intro c hc
      simp (disch := omega) only [rA2, rA1, ce_sI]
      rw [sb_cpy0 hc]; exact i8 c hc
    · intro s hs
      simp (disch := omega) only [rA2, rA1, ce_sI, ce_sA]
      rw [sb_cpy0 hs]; exact i9 s hs
    · intro Y hY c hc n hn
      simp (disch := omega) only [rA2, rA1, ce_sI, ce_sA]
      rw [sb_cpy0 (by omega)]; exact i10 Y hY c hc n hn
    · intro Y hY g hg n hn
      rw [show (23 : Nat) = 21 + 4 * 0 + 2 by omega, rA1]
      simp (disch := omega) only [ce_sI, ce_sA]
      rw [sb_cpy0 (by omega)]; exact i11 Y hY g hg n hn
    · intro k hk
      rw [show (23 : Nat) = 21 + 4 * 0 + 2 by omega, rA1]
      simp (disch := omega) only [ce_sI, ce_sA]
      rw [pk_cpy_out (by omega)]; rfl
  unfold wpX11_back
  refine hre _ ?_
  intro τ tE t0' t1' t8' t11' tc ts tt tS thi
  have rG := run_GC (K := KK mi U T) a4 (mi 0).toNat
  have same : 0 < mi 0 → ∀ y, y ≤ (mi 0).toNat → run (KK m U T) y = run (KK mi U T) y ∧ (y < (mi 0).toNat → nml (KK m U T) y = nml (KK mi U T) y) := fun hp => run_grow a4 a3 a9.1 (a9.2 hp) a6 (fun _ _ => ⟨rfl, rfl, rfl, rfl⟩) (fun _ _ => rfl)
  have past : 0 < mi 0 → ∀ Z, Z < 40 + (mi 0).toNat → ∀ c n, run (KK m U T) (m 0).toNat Z c n = run (KK mi U T) (mi 0).toNat Z c n := fun hp Z hZ c n => by
    rw [run_past (N := (mi 0).toNat) (M := (m 0).toNat) (by omega) hZ, (same hp _ (Nat.le_refl _)).1]
  rw [show mi 0 = (((mi 0).toNat : Nat) : Int) by omega]
  refine reopen_ok (y := (mi 0).toNat) (G := run (KK mi U T) (mi 0).toNat) rG.1.gb ?_ ?_ rG.2 (by omega) ?_
  · intro Y hY g hg n hn
    by_cases c : Y ≤ 40
    · rw [show (21 + 4 * 0 + 2) = 23 by omega, tS Y c g hg n hn, run_told _ _ _ _ c]; rfl
    · have hp : 0 < mi 0 := by omega
      rw [show (21 + 4 * 0 + 2) = 23 by omega, thi _ (by omega)]
      have := b5.2.1 Y (by omega) g hg n hn
      rw [show (21 + 4 * 0 + 2) = 23 by omega] at this
      rw [this]
      congr 1
      refine sm_congr (fun Z hZ => ?_)
      show gt _ Z g n = gt _ Z g n
      unfold gt
      exact sm_congr (fun c _ => by rw [past hp Z (by omega)])
  · intro y hy c hc
    have hp : 0 < mi 0 := by omega
    rw [Eqx_gL tE (by simp), b5.2.2.1 y (by omega) c hc]
    congr 2
    funext n
    exact past hp _ (by omega) c n
  · intro υ uB uE
    simp only [fe, wpX7_forgetRuns]
    have hE : Eqx [9, 10, 11, 13, 21, 22, 23, 24] σ υ := Eqx.trans (Eqx.mono tE (by simp)) (Eqx.mono uE (by simp))
    have n1 : gI υ 70 0 = II (mi 1) := by rw [Eqx_gI hE (by simp)]; exact i1
    have n2 : gI (sI υ 1 0 (gI υ 70 0)) 70 1 = II (mi 4) := by rw [rI2 (by omega), Eqx_gI hE (by simp)]; exact i2
    have n3 : gI (sI (sI υ 1 0 (gI υ 70 0)) 0 5 (gI (sI υ 1 0 (gI υ 70 0)) 70 1)) 70 2 = II (mi 5) := by rw [rI2 (by omega), rI2 (by omega), Eqx_gI hE (by simp)]; exact i3
    rw [n3, n2, n1]
    have n4 : gI (sI (sI (sI (sI υ 1 0 (II (mi 1))) 0 5 (II (mi 4))) 64 0 (II (mi 5))) 64 6 0) 9 0 = II (mi 0) := by rw [rI2 (by omega), rI2 (by omega), rI2 (by omega), rI2 (by omega), Eqx_gI uE (by simp)]; exact t0'
    rw [n4]
    unfold wpX12_back
    have g : ∀ q, q ≠ 1 → q ≠ 0 → q ≠ 64 → sI (sI (sI (sI υ 1 0 (II (mi 1))) 0 5 (II (mi 4))) 64 0 (II (mi 5))) 64 6 0 q = υ q := fun q x1 x2 x3 => by rw [ce_sI _ _ _ _ _ x3, ce_sI _ _ _ _ _ x3, ce_sI _ _ _ _ _ x2, ce_sI _ _ _ _ _ x1]
    refine copies_ok (a := m) (b := mi) (out := 0) (fun k => by rw [gI_of (g 76 (by omega) (by omega) (by omega)), Eqx_gI hE (by simp)]; exact a1 k) (fun k => by rw [gI_of (g 77 (by omega) (by omega) (by omega)), Eqx_gI hE (by simp)]; exact a2 k) (Or.inl rfl) (fun k hk => p14 k hk) ?_
    intro ρ rE r76 r77
    rw [if_pos rfl] at r76
    simp only [if_true] at r77
    refine ⟨of_eq_true (I_in (a := 0) (N := 9680) (by omega)), ?_⟩
    rw [z0, r76 0]
    refine ⟨rfl, ?_⟩
    have e1 : ∀ q, q ≠ 1 → q ≠ 0 → q ≠ 64 → q ≠ 76 → q ≠ 77 → ρ q = υ q := fun q x1 x2 x3 x4 x5 => by rw [← rE q (by simp; omega), g q x1 x2 x3]
    have e : ∀ q, q ∉ [0, 1, 9, 10, 11, 13, 21, 22, 23, 24, 64, 76, 77] → ρ q = σ q := fun q hq => by
      simp only [List.mem_cons, List.not_mem_nil, or_false, not_or] at hq
      rw [e1 q (by omega) (by omega) (by omega) (by omega) (by omega), ← hE q (by simp; omega)]
    refine ⟨mi, mi, U, T, ⟨r76, r77, a4, a4, a6, a6, a8, a8, Ex1.refl mi⟩, ?_⟩
    have w4 := a3.2.2.2.2.1
    refine ⟨?_, ⟨fun t ht => by rw [gI_of (e 83 (by simp)), gI_of (e 84 (by simp))]; exact b2.1 t (by omega), fun t ht => RW_eq b2.2 (fun q x1 x2 => e q (by simp; omega)) t (by omega)⟩, ?_, ⟨fun t ht => CW_eq w4.2 b4.1 (fun q x1 x2 => e q (by simp; omega)) t (by omega), ?_⟩, Bk_eq uB (fun q x1 x2 => e1 q (by omega) (by omega) (by omega) (by omega) (by omega)), fun y hy => ?_, ?_, RUs_0 ?_, by rw [gI_of (e 47 (by simp)), gI_of (e 47 (by simp))]; exact b9, TPs_c b10 (fun k _ => by rw [gI_of (e 42 (by simp))]) (e 43 (by simp)) (e 79 (by simp)) (fun k x1 x2 => by rw [gI_of (e 75 (by simp))]), IMs_c b11 (fun q x1 x2 => e q (by simp; omega))⟩
    · refine ⟨by rw [Eqx_gI rE (by simp), rI2 (by omega), rI2 (by omega), rI2 (by omega), rI1], fun n hn => ?_⟩
      obtain ⟨x1, x2, x3, x4, x5, x6, x7, x8, x9⟩ := b1.2 n (by omega)
      obtain ⟨q1, q2⟩ := p6 n hn
      rw [gL_of (e 78 (by simp)), gL_of (e 2 (by simp)), gI_of (e 3 (by simp)), gI_of (e 4 (by simp)), gI_of (e 5 (by simp)), gL_of (e 6 (by simp)), gI_of (e 8 (by simp)), ← q1, ← q2]
      exact ⟨x1, x2, x3, x4, x5, x6, x7, x8, fun j hj => by rw [gI_of (e 7 (by simp))]; exact x9 j hj⟩
    · have v9 : ∀ k, gI ρ 9 k = gI τ 9 k := fun k => by rw [gI_of (e1 9 (by omega) (by omega) (by omega) (by omega) (by omega)), Eqx_gI uE (by simp)]
      refine ⟨by rw [v9]; exact t0', by rw [v9]; exact t1', by rw [v9]; exact t8', by rw [v9]; exact t11', fun Y hY c hc n hn => ?_, fun c hc => ?_, fun y hy c hc => ?_, fun s hs => ?_, fun y hy s hs => ?_, fun k hk => ?_, fun k hk => ?_⟩
      · rw [gI_of (e1 10 (by omega) (by omega) (by omega) (by omega) (by omega)), Eqx_gI uE (by simp)]; exact tt Y hY c hc n hn
      · rw [gI_of (e1 11 (by omega) (by omega) (by omega) (by omega) (by omega)), Eqx_gI uE (by simp)]; exact tc c hc
      · rw [gI_of (e 12 (by simp)), d7 y (by omega) c hc, p12 y hy c (by omega)]
      · rw [gI_of (e1 13 (by omega) (by omega) (by omega) (by omega) (by omega)), Eqx_gI uE (by simp)]; exact ts s hs
      · have q := p12 y hy (12 + s) (by omega)
        rw [show 1000 + 14 * y + (12 + s) = 1000 + 14 * y + 12 + s by omega] at q
        rw [gI_of (e 14 (by simp)), d9 y (by omega) s hs, q]
      · rw [gI_of (e 16 (by simp)), gI_of (e 17 (by simp)), ← (p8 k hk).1, ← (p8 k hk).2]; exact d10 k (by omega)
      · rw [gI_of (e 18 (by simp)), gI_of (e 19 (by simp)), gI_of (e 20 (by simp)), ← (p10 k hk).1, ← (p10 k hk).2.1, ← (p10 k hk).2.2]; exact d11 k (by omega)
    · rw [Eqx_gI rE (by simp), rI2 (by omega), rI2 (by omega), rI1]
    · have hp : 0 < mi 0 := by omega
      rw [gI_of (e 15 (by simp)), b6 y (by omega), ((same hp y (by omega)).2 (by omega))]
    · refine ⟨by rw [Eqx_gI rE (by simp), rI3 (by omega), rI1], fun k hk => ?_⟩
      have q := p13 k hk
      have q0 := q 0 (by omega)
      rw [Nat.add_zero] at q0
      rw [gI_of (e 65 (by simp)), gI_of (e 66 (by simp)), gI_of (e 67 (by simp)), gI_of (e 68 (by simp)), ← q0, ← q 1 (by omega), ← q 2 (by omega), ← q 3 (by omega), ← q 4 (by omega), ← q 5 (by omega)]
      exact b7.2 k (by omega)
    · rw [Eqx_gI rE (by simp), rI1]; rfl
