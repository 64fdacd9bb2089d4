/-! queries -/
def SR (σ τ : St) : Prop := SQ σ τ ∧ τ 64 = σ 64 ∧ τ 69 = σ 69
theorem SR.refl (σ : St) : SR σ σ := ⟨SQ.refl σ, rfl, rfl⟩
theorem SR.trans {σ τ υ : St} (h : SR σ τ) (h2 : SR τ υ) : SR σ υ := ⟨h.1.trans h2.1, h2.2.1.trans h.2.1, h2.2.2.trans h.2.2⟩
theorem SR_A {σ τ : St} {m mi : MT} {U : Nat → Nat} {T : TT} (h : IvA σ m mi U T) (s : SR σ τ) : IvA τ m mi U T := SQ_A h s.1
theorem SR_B {σ τ : St} {m mi : MT} {U : Nat → Nat} {T : TT} (hA : IvA σ m mi U T) (h : IvB σ m mi U T) (s : SR σ τ) : IvB τ m mi U T := SQ_B hA h s.1 (RUs_c h.2.2.2.2.2.2.2.1 (by rw [gI_of s.2.1]) s.2.2)
theorem SR_I {σ τ : St} (h : Inv σ) (s : SR σ τ) : Inv τ := by
  obtain ⟨m, mi, U, T, hA, hB⟩ := h
  exact ⟨m, mi, U, T, SR_A hA s, SR_B hA hB s⟩
theorem SR_x {σ τ : St} {L : List Nat} (h : Eqx L σ τ) (hL : ∀ q, q ∈ L → 25 ≤ q ∧ q ≤ 28 ∨ 44 ≤ q ∧ q ≤ 46 ∨ 48 ≤ q ∧ q ≤ 63 ∨ 87 ≤ q) : SR σ τ := by
  have e : ∀ q, ¬ (25 ≤ q ∧ q ≤ 28 ∨ 44 ≤ q ∧ q ≤ 46 ∨ 48 ≤ q ∧ q ≤ 63 ∨ 87 ≤ q) → τ q = σ q := fun q hq => (h q (fun z => hq (hL q z))).symm
  exact ⟨⟨fun q hq => e q (by omega), by rw [gI_of (e 64 (by omega))], by rw [gI_of (e 47 (by omega))], by rw [gI_of (e 47 (by omega))], fun k _ => by rw [gI_of (e 75 (by omega))]⟩, e 64 (by omega), e 69 (by omega)⟩
theorem SR_rl {σ τ : St} (h : Eqx RL σ τ) (hF : F75 σ τ) : SR σ τ := by
  have e : ∀ q, q ≠ 75 → q < 96 → τ q = σ q := fun q h1 h2 => (h q (by simp [RL]; omega)).symm
  exact ⟨⟨fun q hq => e q (by omega) (by omega), by rw [gI_of (e 64 (by omega) (by omega))], by rw [gI_of (e 47 (by omega) (by omega))], by rw [gI_of (e 47 (by omega) (by omega))], fun k hk => hF k (by omega)⟩, e 64 (by omega) (by omega), e 69 (by omega) (by omega)⟩
theorem runsAll_ok {σ : St} {m mi : MT} {U : Nat → Nat} {T : TT} {post : St → Prop} (hA : IvA σ m mi U T) (hB : IvB σ m mi U T)
    (hp : ∀ τ, SR σ τ → RG τ (run (KK m U T) (m 0).toNat) → (∀ y : Nat, (y : Int) < m 0 → gI τ 103 y = II (nml (KK m U T) y)) → post τ) : wpX12_runsAll σ post := by
  have w0 := hA.2.2.1.1
  have w4 := hA.2.2.1.2.2.2.2.1
  have c0 : (0 : Int32).toNatClampNeg = 0 := rfl
  unfold wpX12_runsAll
  refine ⟨of_eq_true (I_in (a := 0) (N := 9680) (by omega)), ?_⟩
  rw [c0, hA.1 0, show m 0 = (((m 0).toNat : Nat) : Int) by omega]
  refine runs_ok (K := KK m U T) (IvCy hA hB (-1) false (-1) (by omega) (by omega)) (by omega) ?_
  intro τ tE tF tG tn
  refine hp τ (SR_rl tE tF) tG (fun y hy => ?_)
  rw [tn y (by omega), if_pos (by omega)]
theorem cin_ok {σ : St} {G : GV} {o n : Nat} {y : Int} {post : Int32 → St → Prop} (B : Bk σ 0 G o) (hn : n < 16) (hy : -40 ≤ y ∧ y ≤ 60) (hp : post (II (gt G (y + 40).toNat 6 n)) σ) : wpX10_in (II n) (II y) σ post := by
  unfold wpX10_in
  refine between_ok (g := 6) B (by omega) hn (by omega) (by omega) ?_
  rw [show (y + 41).toNat = (y + 40).toNat + 1 by omega, rg_one]
  exact hp
theorem clivingAt_ok {σ : St} {G : GV} {o n : Nat} {y f : Int} {post : Int32 → St → Prop} (B : Bk σ 0 G o) (h1 : gI σ 9 1 = II f) (hf : 20 ≤ f ∧ f ≤ 90) (hn : n < 16) (hy : -41 ≤ y ∧ y ≤ 60) (hp : post (II (rg (gy G 6 n) (y - f + 41).toNat (y + 41).toNat)) σ) : wpX10_livingAt (II n) (II y) σ post := by
  unfold wpX10_livingAt
  rw [h1, I_lit, I_sub, I_lit, I_add]
  refine between_ok (g := 6) B (by omega) hn (by omega) (by omega) ?_
  rw [show (y - f + 1 + 40).toNat = (y - f + 41).toNat by omega]
  exact hp
theorem living_ok {σ : St} {m : MT} {G : GV} {n : Nat} {y : Int} {post : Int32 → St → Prop} (hG : RG σ G) (hM : RM σ m) (h6 : 20 ≤ m 6 ∧ m 6 ≤ 90) (hn : n < 16) (hy : -41 ≤ y ∧ y ≤ 60) (hp : post (II (rg (gy G 6 n) (y - m 6 + 41).toNat (y + 41).toNat)) σ) : wpX12_living (II n) (II y) σ post := by
  have e6 : gI σ 76 6 = II (m 6) := hM 6
  simp (disch := omega) only [wpX12_living, I_lit, I_in, true_and, I_cl, Int.reduceToNat, e6, I_sub, I_add, I_neg]
  refine greater_ok (by omega) ?_
  have key := up (P := fun f Z => (y - m 6 + 41).toNat ≤ Z → wbX12_living_20 post f (II n) (II y) (II (rg (gy G 6 n) (y - m 6 + 41).toNat Z)) (II ((Z : Int) - 40)) σ) (max (y - m 6 + 41).toNat (y + 41).toNat) ?_ ?_ (y - m 6 + 41).toNat (by omega)
  · obtain ⟨f, hf⟩ := key
    have := hf (Nat.le_refl _)
    rw [rg_nil (Nat.le_refl _)] at this
    rw [show max (-40) (y - m 6 + 1) = (((y - m 6 + 41).toNat : Nat) : Int) - 40 by omega]
    exact ⟨f, this⟩
  · intro f _
    simp (disch := omega) only [wbX12_living_20, I_lt]
    refine ⟨fun _ => ?_, fun z => absurd (by omega) z⟩
    by_cases c : (y - m 6 + 41).toNat ≤ (y + 41).toNat
    · rw [Nat.max_eq_right c]; exact hp
    · rw [Nat.max_eq_left (by omega), rg_nil (Nat.le_refl _)]
      rw [rg_nil (by omega)] at hp; exact hp
  · intro f Z hZ ih hle
    simp (disch := omega) only [wbX12_living_20, I_lt]
    refine ⟨fun z => absurd z (by omega), fun _ => ?_⟩
    refine all_ok hG hn (by omega) ?_
    rw [if_neg (by omega), show ((Z : Int) - 40 + 40).toNat = Z by omega]
    simp only [fe, I_lit, I_add]
    rw [show (Z : Int) - 40 + 1 = ((Z + 1 : Nat) : Int) - 40 by omega]
    have := ih (by omega)
    rw [rg_succ hle] at this
    exact this
def lwE (E : Nat → Nat → Bool) (n : Nat) : Nat → Nat → Nat
  | 0, i => i
  | f + 1, i => if E i n = true then i else lwE E n f (i + 1)
theorem lowest_both {σ : St} {m mi : MT} {U : Nat → Nat} {T : TT} {n : Nat} (hA : IvA σ m mi U T) (hB : IvB σ m mi U T) (hn : (n : Int) < m 1) :
    ∃ k : Nat, k ≤ n ∧ (∀ post : Int32 → St → Prop, post (II k) σ → wpX5_lowestOfEnding (II n) σ post) ∧ (∀ post : Int32 → St → Prop, post (II k) σ → wpX12_lowestOf (II n) σ post) := by
  have hW := hA.2.2.1
  have w1 := hW.2.1
  obtain ⟨k, ⟨hk1, hk2⟩, hk3⟩ := pk_least (fun k => k ≤ n ∧ enN (U k) = enN (U n)) ⟨n, Nat.le_refl _, rfl⟩
  have hCN := NMs_CN hW hB.1 T (-1) false (-1)
  have x : ∀ i : Nat, i ≤ n → U i < 2 ^ 50 ∧ gL σ 78 i = lN (U i) := fun i hi => by
    have := hB.1.2 i (by omega)
    exact ⟨good_lt this.1, this.2.1⟩
  refine ⟨k, hk1, fun post hp => ?_, fun post hp => ?_⟩
  · unfold wpX5_lowestOfEnding
    have key := up (P := fun f i => i ≤ k → wbX5_lowestOfEnding_2 post f (II n) (II i) σ) n ?_ ?_ 0 (by omega)
    · obtain ⟨f, hf⟩ := key
      exact ⟨f, hf (by omega)⟩
    · intro f hi
      simp (disch := omega) only [wbX5_lowestOfEnding_2, I_le]
      have : k = n := by omega
      rw [this] at hp
      exact ⟨fun _ => hp, fun z => absurd (by omega) z⟩
    · intro f i hi ih hik
      simp (disch := omega) only [wbX5_lowestOfEnding_2, I_le]
      refine ⟨fun z => absurd z (by omega), fun _ => ?_⟩
      refine sameEnding_ok hCN (by rw [kn_KB]; omega) (by rw [kn_KB]; omega) (by rw [kn_KB]; omega) ?_
      by_cases c : enN (U i) = enN (U n)
      · have e : kE (KB m U T (-1) false (-1)) i n = true := decide_eq_true c
        have ek : i = k := by
          rcases Nat.lt_trichotomy i k with q | q | q
          · exact absurd ⟨by omega, c⟩ (hk3 i q)
          · exact q
          · omega
        rw [e]
        refine t1 ?_
        rw [ek]; exact hp
      · have e : kE (KB m U T (-1) false (-1)) i n = false := decide_eq_false c
        have ek : i ≠ k := fun q => c (by rw [q]; exact hk2)
        rw [e]
        refine t0 ?_
        simp only [fe, I_lit, I_add]
        exact ih (by omega)
  · unfold wpX12_lowestOf
    have key := up (P := fun f i => wbX12_lowestOf_2 post f (II n) (II i) σ) k ?_ ?_ 0 (by omega)
    · exact key
    · intro f
      obtain ⟨a1, a2⟩ := x k hk1
      obtain ⟨b1, b2⟩ := x n (Nat.le_refl _)
      simp (disch := omega) only [wbX12_lowestOf_2, I_in, true_and, I_cl, Int.toNat_natCast, a2, b2]
      refine rending_ok (by omega) ?_
      rw [b2]
      refine rending_ok (by omega) ?_
      exact ⟨fun _ => hp, fun z => absurd (by rw [hk2]) z⟩
    · intro f i hi ih
      obtain ⟨a1, a2⟩ := x i (by omega)
      obtain ⟨b1, b2⟩ := x n (Nat.le_refl _)
      have l1 : enN (U i) ≤ U i := Nat.div_le_self _ _
      have l2 : enN (U n) ≤ U n := Nat.div_le_self _ _
      simp (disch := omega) only [wbX12_lowestOf_2, I_in, true_and, I_cl, Int.toNat_natCast, a2, b2]
      refine rending_ok (by omega) ?_
      rw [b2]
      refine rending_ok (by omega) ?_
      refine ⟨fun z => absurd ?_ (hk3 i hi), fun _ => ?_⟩
      · exact ⟨by omega, (pk_lEQ (by omega) (by omega)).mp z⟩
      · simp only [fe, I_lit, I_add]; exact ih
theorem of_ok {σ : St} (h : Inv σ) (a b : Int32) : wpX11_of a b σ (fun r τ => wpX12_of a b τ (Q2 r)) := by
  obtain ⟨m, mi, U, T, hA, hB⟩ := id h
  obtain ⟨n, n1, n2, rfl⟩ := I_of a
  obtain ⟨w, w1', w2', rfl⟩ := I_of b
  have hM := hA.1
  have hW := hA.2.2.1
  have w0 := hW.1
  have w1 := hW.2.1
  have w6 := hW.2.2.2.2.2.2.1
  unfold wpX11_of
  refine has_ok hB.1.1 w1 (by omega) (fun z => s1 ?_) (fun z => s0 ?_)
  · obtain ⟨N, rfl⟩ : ∃ N : Nat, n = N := ⟨n.toNat, by omega⟩
    obtain ⟨x1, x2, x3, x4, x5, x6, x7, x8, x9⟩ := hB.1.2 N (by omega)
    obtain ⟨k, hk, kc1, kr1⟩ := lowest_both hA hB (n := N) (by omega)
    have gl := good_lt x1
    have sin := SN_in x1
    have npk := nl_pkq (s := SN (U N)) (c := SC (U N)) (by omega) (fun j hj => by have := sin.2 j hj; omega)
    have ref : ∀ r : Int32, (w = 0 → r = II (nl (U N))) → (w = 1 → r = II (m (30 + N))) → (w = 2 → r = II k) → (w = 3 → r = II (SC (U N))) → (w = 4 → r = II (rg (gy (run (KK m U T) (m 0).toNat) 6 N) (m 0 - 1 - m 6 + 41).toNat (m 0 - 1 + 41).toNat)) → (¬ (0 ≤ w ∧ w ≤ 4) → r = II (-1)) → wpX12_of (II N) (II w) σ (Q2 r) := by
      intro r r0 r1 r2 r3 r4 rn
      unfold wpX12_of
      refine isName_ok hM w1 (by omega) (fun _ => s1 ?_) (fun q => absurd z q)
      have j1 : (30 + (N : Int)).toNat = 30 + N := by omega
      simp (disch := omega) only [I_lit, I_eq, I_in, true_and, I_cl, Int.toNat_natCast, I_add, j1, hM (30 + N), x2]
      refine ⟨fun q => size_ok (by omega) ⟨r0 q, h⟩, fun q0 => ⟨fun q => ⟨r1 q, h⟩, fun q1 => ⟨fun q => kr1 _ ⟨r2 q, h⟩, fun q2 => ⟨fun q => soundsOf_ok x1 (size_ok ?_ ?_), fun q3 => ⟨fun q => ?_, fun q4 => ⟨rn (by omega), h⟩⟩⟩⟩⟩⟩
      · have := pkq_lt (s := SN (U N)) (c := SC (U N)) (fun j hj => by have := sin.2 j hj; omega)
        exact Nat.lt_of_lt_of_le this (Nat.pow_le_pow_right (by decide) (by omega))
      · rw [npk]; exact ⟨r3 q, h⟩
      · have hra := runsAll_ok (post := fun τ => wpX12_living (II N) (gI τ 76 (Int.toNat 0) - II 1) τ (fun r_13 σ_14 => Q2 r r_13 σ_14)) hA hB (by
          intro τ tR tG tn
          have c0 : Int.toNat 0 = 0 := rfl
          have tA := SR_A hA tR
          rw [c0, tA.1 0, I_sub]
          refine living_ok tG tA.1 w6 (by omega) (by omega) ?_
          exact ⟨r4 q, SR_I h tR⟩)
        unfold wpX12_runsAll at hra
        exact hra.2
    have j := hB.2.2.1
    simp (disch := omega) only [I_lit, I_eq, I_in, true_and, I_cl, Int.toNat_natCast, x4, x5, x8, j.1, I_sub]
    refine ⟨fun q => ref _ (fun _ => rfl) (by omega) (by omega) (by omega) (by omega) (by omega), fun q0 => ⟨fun q => ref _ (by omega) (fun _ => rfl) (by omega) (by omega) (by omega) (by omega), fun q1 => ⟨fun q => kc1 _ (ref _ (by omega) (by omega) (fun _ => rfl) (by omega) (by omega) (by omega)), fun q2 => ⟨fun q => ref _ (by omega) (by omega) (by omega) (fun _ => rfl) (by omega) (by omega), fun q3 => ⟨fun q => ?_, fun q4 => ref _ (by omega) (by omega) (by omega) (by omega) (by omega) (fun _ => rfl)⟩⟩⟩⟩⟩
    exact clivingAt_ok hB.2.2.2.2.1 j.2.1 w6 (by omega) (by omega) (ref _ (by omega) (by omega) (by omega) (by omega) (fun _ => rfl) (by omega))
  · show wpX12_of (II n) (II w) σ (Q2 (-1))
    unfold wpX12_of
    exact isName_ok hM w1 (by omega) (fun q => absurd q z) (fun _ => s0 ⟨rfl, h⟩)
theorem alike_ok {σ : St} (h : Inv σ) (a b : Int32) : wpX11_alike a b σ (fun r τ => wpX12_alike a b τ (Q2 r)) := by
  obtain ⟨m, mi, U, T, hA, hB⟩ := id h
  obtain ⟨n, n1, n2, rfl⟩ := I_of a
  obtain ⟨k, k1, k2, rfl⟩ := I_of b
  have hM := hA.1
  have hW := hA.2.2.1
  have w1 := hW.2.1
  have ref0 : ¬ ((0 ≤ n ∧ n < m 1) ∧ (0 ≤ k ∧ k < m 1)) → wpX12_alike (II n) (II k) σ (Q2 (II (-1))) := by
    intro hz
    unfold wpX12_alike
    refine isName_ok hM w1 (by omega) (fun q => t1 ?_) (fun q => t0 ⟨rfl, h⟩)
    exact isName_ok hM w1 (by omega) (fun q2 => absurd ⟨q, q2⟩ hz) (fun q2 => s0 ⟨rfl, h⟩)
  unfold wpX11_alike
  refine has_ok hB.1.1 w1 (by omega) (fun z => t1 ?_) (fun z => t0 (ref0 (fun q => z q.1)))
  refine has_ok hB.1.1 w1 (by omega) (fun y => s1 ?_) (fun y => s0 (ref0 (fun q => y q.2)))
  obtain ⟨N, rfl⟩ : ∃ N : Nat, n = N := ⟨n.toNat, by omega⟩
  obtain ⟨K, rfl⟩ : ∃ K : Nat, k = K := ⟨k.toNat, by omega⟩
  obtain ⟨x1, x2, x3, x4, x5, x6, x7, x8, x9⟩ := hB.1.2 N (by omega)
  obtain ⟨y1, y2, y3, y4, y5, y6, y7, y8, y9⟩ := hB.1.2 K (by omega)
  have sx := SN_in x1
  have sy := SN_in y1
  have ref : ∀ r : Int32, r = II (if alb (SN (U N)) (SC (U N)) (SN (U K)) (SC (U K)) then 1 else 0) → wpX12_alike (II N) (II K) σ (Q2 r) := by
    intro r hr
    unfold wpX12_alike
    refine isName_ok hM w1 (by omega) (fun q => t1 ?_) (fun q => absurd z q)
    refine isName_ok hM w1 (by omega) (fun q => s1 ?_) (fun q => absurd y q)
    simp (disch := omega) only [I_in, true_and, I_cl, Int.toNat_natCast, x2, y2]
    refine areAlike_ok x1 y1 ?_
    cases hb : alb (SN (U N)) (SC (U N)) (SN (U K)) (SC (U K)) with
    | false => rw [hb] at hr; exact t0 ⟨hr, h⟩
    | true => rw [hb] at hr; exact t1 ⟨hr, h⟩
  refine akin_ok (by omega) (by omega) sx.1 sy.1 x8 y8 (fun j hj => ⟨x9 j hj, by have := sx.2 j hj; omega⟩) (fun j hj => ⟨y9 j hj, by have := sy.2 j hj; omega⟩) ?_
  cases hb : alb (SN (U N)) (SC (U N)) (SN (U K)) (SC (U K)) with
  | false => exact t0 (ref _ (by rw [hb]; rfl))
  | true => exact t1 (ref _ (by rw [hb]; rfl))
