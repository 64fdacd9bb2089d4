/-! let: does a taste agree with what was printed -/
def ag1 (m : MT) (U : Nat → Nat) (T : TT) (t : Nat) (Y0 : Int) (k : Nat) : Prop := m (100 + 6 * k + 5) ≤ Y0 → bro (Gt m U T t) (40 + (m (100 + 6 * k)).toNat) (m (100 + 6 * k + 1)).toNat (m (100 + 6 * k + 2)).toNat (m (100 + 6 * k + 3)).toNat = m (100 + 6 * k + 4)
noncomputable def agr (m : MT) (U : Nat → Nat) (T : TT) (t : Nat) (Y0 : Int) : Bool := @decide (∀ k : Nat, (k : Int) < m 5 → ag1 m U T t Y0 k) (Classical.propDecidable _)
theorem agr_iff (m : MT) (U : Nat → Nat) (T : TT) (t : Nat) (Y0 : Int) : agr m U T t Y0 = true ↔ ∀ k : Nat, (k : Int) < m 5 → ag1 m U T t Y0 k := @decide_eq_true_iff _ (Classical.propDecidable _)
theorem agreeing_ok {σ : St} {m : MT} {U : Nat → Nat} {T : TT} {a : Nat} {b Y0 : Int} {post : Int32 → St → Prop} (hW : WFm m) (hPW : PW m) (hP : PRs σ m) (ha : a ≤ 6) (hb : -1 ≤ b ∧ b < m 4) (hY : 0 ≤ Y0 ∧ Y0 ≤ 61) (hK : ∀ t : Nat, a ≤ t → (t : Int) ≤ b → KR σ (Gt m U T t) t)
    (hp : ∀ x : Nat, x < 64 → (∀ t, x.testBit t = (decide (a ≤ t ∧ (t : Int) ≤ b) && agr m U T t Y0)) → post (II x) σ) : wpX7_agreeing (II a) (II b) (II Y0) σ post := by
  have w4 := hW.2.2.2.2.1
  have w5 := hW.2.2.2.2.2.1
  have w1 := hW.2.1
  unfold wpX7_agreeing
  have key := up (P := fun f t => a ≤ t → ∀ x : Nat, x < 2 ^ t → x < 64 → (∀ i, i < t → x.testBit i = (decide (a ≤ i ∧ (i : Int) ≤ b) && agr m U T i Y0)) → wbX7_agreeing_6 post f (II b) (II Y0) (II x) (II t) σ) (max a (b + 1).toNat) ?_ ?_ a (by omega)
  · obtain ⟨f, hf⟩ := key
    refine ⟨f, hf (Nat.le_refl _) 0 (Nat.pow_pos (by decide)) (by decide) (fun i hi => ?_)⟩
    rw [decide_eq_false (by omega)]; simp
  · intro f _ x x1 x2 x3
    simp (disch := omega) only [wbX7_agreeing_6, I_lt]
    refine ⟨fun _ => hp x x2 (fun t => ?_), fun z => absurd (by omega) z⟩
    by_cases c : t < max a (b + 1).toNat
    · exact x3 t c
    · rw [Nat.testBit_lt_two_pow (Nat.lt_of_lt_of_le x1 (Nat.pow_le_pow_right (by decide) (by omega))), decide_eq_false (by omega)]; rfl
  · intro f t ht ih hat x x1 x2 x3
    have t6 : t < 6 := by omega
    have hG : GC (Gt m U T t) := (run_GC (K := KB m U T (-1) false t) hW 61).1
    have sh := I_shl1 t (by omega)
    simp (disch := omega) only [wbX7_agreeing_6, I_lt]
    refine ⟨fun z => absurd z (by omega), fun _ => ?_⟩
    have tb : ∀ i, (x ||| 2 ^ t).testBit i = (x.testBit i || decide (i = t)) := fun i => by
      rw [Nat.testBit_or]
      by_cases e : i = t
      · rw [e, Nat.testBit_two_pow_self]; simp
      · rw [Nat.testBit_two_pow_of_ne (by omega)]; simp [e]
    have c86t : agr m U T t Y0 = true → wbX7_agreeing_86 (wbX7_agreeing_6 post f) post (II b) (II Y0) (II x) (II t) (II 1) σ := fun z => by
      simp (disch := omega) only [wbX7_agreeing_86, I_lit, fe, sh, I_or, I_add, I_eq]
      refine ⟨fun y => absurd y (by omega), fun _ => ih (by omega) (x ||| 2 ^ t) (Nat.or_lt_two_pow (by rw [Nat.pow_succ]; omega) (Nat.pow_lt_pow_right (by decide) (by omega))) (Nat.or_lt_two_pow (n := 6) x2 (Nat.pow_lt_pow_right (by decide) t6)) (fun i hi => ?_)⟩
      rw [tb]
      by_cases c : i = t
      · rw [c, z, decide_eq_true (show a ≤ t ∧ (t : Int) ≤ b by omega)]; simp
      · rw [x3 i (by omega)]; simp [c]
    have c86f : agr m U T t Y0 = false → wbX7_agreeing_86 (wbX7_agreeing_6 post f) post (II b) (II Y0) (II x) (II t) (II 0) σ := fun z => by
      have o0 : II (x : Int) ||| II 0 = II (x : Int) := by
        have := I_or (a := x) (b := 0)
        rw [Nat.or_zero] at this; exact this
      simp (disch := omega) only [wbX7_agreeing_86, I_lit, fe, o0, I_add, I_eq]
      refine ⟨fun _ => ih (by omega) x (by rw [Nat.pow_succ]; omega) x2 (fun i hi => ?_), fun y => absurd trivial y⟩
      by_cases c : i = t
      · rw [c, z, Nat.testBit_lt_two_pow x1]; simp
      · exact x3 i (by omega)
    have k2 := up (P := fun g k => ((∀ k', k' < k → ag1 m U T t Y0 k') → wbX7_agreeing_18 (wbX7_agreeing_6 post f) post g (II b) (II Y0) (II x) (II t) (II 1) (II k) σ) ∧ (agr m U T t Y0 = false → wbX7_agreeing_18 (wbX7_agreeing_6 post f) post g (II b) (II Y0) (II x) (II t) (II 0) (II k) σ)) (m 5).toNat ?_ ?_ 0 (by omega)
    · obtain ⟨g, hg⟩ := k2
      exact ⟨g, hg.1 (fun k' hk => absurd hk (by omega))⟩
    · intro g
      simp (disch := omega) only [wbX7_agreeing_18, hP.1, I_le]
      refine ⟨fun z => ⟨fun _ => c86t ((agr_iff m U T t Y0).mpr (fun k hk => z k (by omega))), fun y => absurd (by omega) y⟩, fun z => ⟨fun _ => c86f z, fun y => absurd (by omega) y⟩⟩
    · intro g k hk ihk
      obtain ⟨i1, i0⟩ := ihk
      obtain ⟨p1, p2, p3, p4⟩ := hP.2 k (by omega)
      obtain ⟨q1, q2, q3, q4, q5, q6⟩ := hPW k (by omega)
      refine ⟨fun hpre => ?_, fun z => ?_⟩
      · have yes : ag1 m U T t Y0 k → wbX7_agreeing_18 (wbX7_agreeing_6 post f) post g (II b) (II Y0) (II x) (II t) (II 1) (II ((k : Int) + 1)) σ := fun z => i1 (fun k' hk' => by
          by_cases c : k' = k
          · rw [c]; exact z
          · exact hpre k' (by omega))
        simp (disch := omega) only [wbX7_agreeing_18, hP.1, I_le, I_lit, I_eq, I_in, true_and, I_cl, Int.toNat_natCast, p1, p2, p3, p4, I_lt, fe, I_add]
        refine ⟨fun y => absurd y (by omega), fun _ => ⟨fun y => absurd y (by omega), fun _ => ⟨fun y => yes (fun w => by omega), fun y => ?_⟩⟩⟩
        have cb := cbro_ok (σ := σ) (G := Gt m U T t) (t := t) (y := (m (100 + 6 * k)).toNat) (p := (m (100 + 6 * k + 1)).toNat) (x := (m (100 + 6 * k + 2)).toNat) (n := (m (100 + 6 * k + 3)).toNat) (post := fun r_2 σ_3 => (¬ r_2 = (gI σ_3 67 k) → wbX7_agreeing_18 (wbX7_agreeing_6 post f) post g (II b) (II Y0) (II x) (II t) (II 0) (II ((k : Int) + 1)) σ_3) ∧ (r_2 = (gI σ_3 67 k) → wbX7_agreeing_18 (wbX7_agreeing_6 post f) post g (II b) (II Y0) (II x) (II t) (II 1) (II ((k : Int) + 1)) σ_3)) (hK t (by omega) (by omega)) hG (by omega) (by omega) (by omega) (by omega) (by omega) (by
          have bb := bro_b hG (Y := 40 + (m (100 + 6 * k)).toNat) (by omega) (m (100 + 6 * k + 1)).toNat (m (100 + 6 * k + 2)).toNat (m (100 + 6 * k + 3)).toNat
          rw [p3, I_eq (by omega)]
          refine ⟨fun w => i0 ?_, fun w => yes (fun _ => w)⟩
          cases e : agr m U T t Y0 with
          | false => rfl
          | true => exact absurd ((agr_iff m U T t Y0).mp e k (by omega) (by omega)) w)
        rw [show (((m (100 + 6 * k)).toNat : Nat) : Int) = m (100 + 6 * k) by omega, show (((m (100 + 6 * k + 1)).toNat : Nat) : Int) = m (100 + 6 * k + 1) by omega, show (((m (100 + 6 * k + 2)).toNat : Nat) : Int) = m (100 + 6 * k + 2) by omega, show (((m (100 + 6 * k + 3)).toNat : Nat) : Int) = m (100 + 6 * k + 3) by omega] at cb
        exact cb
      · simp (disch := omega) only [wbX7_agreeing_18, hP.1, I_le, I_lit, I_eq]
        exact ⟨fun y => absurd y (by omega), fun _ => ⟨fun _ => c86f z, fun y => absurd trivial y⟩⟩
theorem bro_past {m : MT} {U : Nat → Nat} {T : TT} {t N Y : Nat} (hN : N ≤ 61) (hY : Y < 40 + N) (p x n : Nat) : bro (run (KB m U T (-1) false t) N) Y p x n = bro (Gt m U T t) Y p x n := by
  show run _ N Y _ n + run _ N Y _ n = run _ 61 Y _ n + run _ 61 Y _ n
  rw [run_past (N := N) (M := 61) hN hY, run_past (N := N) (M := 61) hN hY]
/-- the last year that was printed by Y0 -/
def mx (m : MT) (Y0 : Int) : Nat → Int
  | 0 => -1
  | k + 1 => if m (100 + 6 * k + 5) ≤ Y0 then max (mx m Y0 k) (m (100 + 6 * k)) else mx m Y0 k
theorem mx_in {m : MT} (h : PW m) (Y0 : Int) : ∀ k : Nat, (k : Int) ≤ m 5 → (-1 ≤ mx m Y0 k ∧ mx m Y0 k ≤ 60) ∧ ∀ j, j < k → m (100 + 6 * j + 5) ≤ Y0 → m (100 + 6 * j) ≤ mx m Y0 k := by
  intro k
  induction k with
  | zero => intro _; exact ⟨⟨by show (-1 : Int) ≤ -1; omega, by show (-1 : Int) ≤ 60; omega⟩, fun j hj => absurd hj (by omega)⟩
  | succ k ih =>
    intro hk
    obtain ⟨i1, i2⟩ := ih (by omega)
    have q := (h k (by omega)).1
    simp only [mx]
    by_cases c : m (100 + 6 * k + 5) ≤ Y0
    · rw [if_pos c]
      refine ⟨by omega, fun j hj hy => ?_⟩
      by_cases e : j = k
      · rw [e]; omega
      · have := i2 j (by omega) hy; omega
    · rw [if_neg c]
      refine ⟨i1, fun j hj hy => ?_⟩
      by_cases e : j = k
      · rw [e] at hy; exact absurd hy c
      · exact i2 j (by omega) hy
theorem isLetE_ok {σ : St} {m mi : MT} {U : Nat → Nat} {T : TT} {t : Nat} {Y0 : Int} {post : Int32 → St → Prop} (hA : IvA σ m mi U T) (hB : IvB σ m mi U T) (ht : (t : Int) < m 4) (hY : 0 ≤ Y0 ∧ Y0 ≤ 61)
    (hp : ∀ τ, Eqx RL σ τ → F75 σ τ → post (II (if agr m U T t Y0 = true then 1 else 0)) τ) : wpX12_isLet (II t) (II Y0) σ post := by
  have hW := hA.2.2.1
  have hPW := hA.2.2.2.2.2.2.1
  have w1 := hW.2.1
  have w4 := hW.2.2.2.2.1
  have w5 := hW.2.2.2.2.2.1
  unfold wpX12_isLet
  refine up (P := fun f k => wbX12_isLet_5 post f (II t) (II Y0) (II (mx m Y0 k)) (II k) σ) (m 5).toNat ?_ ?_ 0 (by omega)
  · intro f
    have e5 : gI σ 76 5 = II (m 5) := hA.1 5
    obtain ⟨x1, x2⟩ := mx_in hPW Y0 (m 5).toNat (by omega)
    generalize mx m Y0 (m 5).toNat = v at *
    simp (disch := omega) only [wbX12_isLet_5, I_lit, I_neg, I_in, true_and, I_cl, Int.reduceToNat, e5, I_le, I_add]
    refine ⟨fun _ => ?_, fun z => absurd (by omega) z⟩
    rw [show v + 1 = (((v + 1).toNat : Nat) : Int) by omega]
    refine runs_ok (K := KB m U T (-1) false t) (N := (v + 1).toNat) (IvCy hA hB (-1) false t (by omega) (by omega)) (by omega) ?_
    intro τ tE tF tG tn
    have tR := SR_rl tE tF
    have tA := SR_A hA tR
    have f5 : gI τ 76 5 = II (m 5) := tA.1 5
    have hp := hp τ tE tF
    have hG : GC (Gt m U T t) := (run_GC (K := KB m U T (-1) false t) hW 61).1
    have key := up (P := fun g k => ((∀ k', k' < k → ag1 m U T t Y0 k') → wbX12_isLet_77 post g (II Y0) (II 1) (II k) τ) ∧ (agr m U T t Y0 = false → wbX12_isLet_77 post g (II Y0) (II 0) (II k) τ)) (m 5).toNat ?_ ?_ 0 (by omega)
    · obtain ⟨g, hg⟩ := key
      exact ⟨g, hg.1 (fun k' hk => absurd hk (by omega))⟩
    · intro g
      simp (disch := omega) only [wbX12_isLet_77, I_lit, I_in, true_and, I_cl, Int.reduceToNat, f5, I_le]
      refine ⟨fun z => ⟨fun _ => ⟨Or.inr trivial, ?_⟩, fun y => absurd (by omega) y⟩, fun z => ⟨fun _ => ⟨Or.inl trivial, ?_⟩, fun y => absurd (by omega) y⟩⟩
      · rw [if_pos ((agr_iff m U T t Y0).mpr (fun k hk => z k (by omega)))] at hp; exact hp
      · rw [if_neg (by rw [z]; decide)] at hp; exact hp
    · intro g k hk ihk
      obtain ⟨i1, i0⟩ := ihk
      obtain ⟨q1, q2, q3, q4, q5, q6⟩ := hPW k (by omega)
      have g0 : gI τ 76 (100 + 6 * k) = II (m (100 + 6 * k)) := tA.1 _
      have g1 : gI τ 76 (100 + 6 * k + 1) = II (m (100 + 6 * k + 1)) := tA.1 _
      have g2 : gI τ 76 (100 + 6 * k + 2) = II (m (100 + 6 * k + 2)) := tA.1 _
      have g3 : gI τ 76 (100 + 6 * k + 3) = II (m (100 + 6 * k + 3)) := tA.1 _
      have g4 : gI τ 76 (100 + 6 * k + 4) = II (m (100 + 6 * k + 4)) := tA.1 _
      have g5 : gI τ 76 (100 + 6 * k + 5) = II (m (100 + 6 * k + 5)) := tA.1 _
      have j0 : (100 + 6 * (k : Int)).toNat = 100 + 6 * k := by omega
      have j1 : (100 + 6 * (k : Int) + 1).toNat = 100 + 6 * k + 1 := by omega
      have j2 : (100 + 6 * (k : Int) + 2).toNat = 100 + 6 * k + 2 := by omega
      have j3 : (100 + 6 * (k : Int) + 3).toNat = 100 + 6 * k + 3 := by omega
      have j4 : (100 + 6 * (k : Int) + 4).toNat = 100 + 6 * k + 4 := by omega
      have j5 : (100 + 6 * (k : Int) + 5).toNat = 100 + 6 * k + 5 := by omega
      refine ⟨fun hpre => ?_, fun z => ?_⟩
      · have yes : ag1 m U T t Y0 k → wbX12_isLet_77 post g (II Y0) (II 1) (II ((k : Int) + 1)) τ := fun z => i1 (fun k' hk' => by
          by_cases c : k' = k
          · rw [c]; exact z
          · exact hpre k' (by omega))
        simp (disch := omega) only [wbX12_isLet_77, I_lit, I_neg, I_in, true_and, I_cl, Int.reduceToNat, f5, I_le, I_eq, fe, I_mul, I_add, j0, j1, j2, j3, j5, g0, g1, g2, g3, g5, I_lt]
        refine ⟨fun y => absurd y (by omega), fun _ => ⟨fun y => absurd y (by omega), fun _ => ⟨fun y => yes (fun w => by omega), fun y => ?_⟩⟩⟩
        refine rgiven_ok tG tA.1 w1 (by omega) (by omega) (by omega) (by omega) (by omega) ?_
        have bb := bro_b hG (Y := 40 + (m (100 + 6 * k)).toNat) (by omega) (m (100 + 6 * k + 1)).toNat (m (100 + 6 * k + 2)).toNat (m (100 + 6 * k + 3)).toNat
        have et : toG (run (KB m U T (-1) false t) (v + 1).toNat) (m (100 + 6 * k) + 40).toNat (m (100 + 6 * k + 1)) (-1) (m (100 + 6 * k + 2)) (m (100 + 6 * k + 3)) (m 1).toNat 12 = bro (Gt m U T t) (40 + (m (100 + 6 * k)).toNat) (m (100 + 6 * k + 1)).toNat (m (100 + 6 * k + 2)).toNat (m (100 + 6 * k + 3)).toNat := by
          have h1 := toG_bro (run (KB m U T (-1) false t) (v + 1).toNat) (40 + (m (100 + 6 * k)).toNat) (m (100 + 6 * k + 1)).toNat (m (100 + 6 * k + 2)).toNat (m (100 + 6 * k + 3)).toNat (m 1).toNat (by omega) (by omega) (by omega)
          rw [show (((m (100 + 6 * k + 1)).toNat : Nat) : Int) = m (100 + 6 * k + 1) by omega, show (((m (100 + 6 * k + 2)).toNat : Nat) : Int) = m (100 + 6 * k + 2) by omega, show (((m (100 + 6 * k + 3)).toNat : Nat) : Int) = m (100 + 6 * k + 3) by omega] at h1
          rw [show (m (100 + 6 * k) + 40).toNat = 40 + (m (100 + 6 * k)).toNat by omega, h1]
          have h2 := x2 k hk (by omega)
          exact bro_past (by omega) (by omega) _ _ _
        rw [et]
        simp (disch := omega) only [I_in, true_and, I_cl, j4, g4, I_eq]
        refine ⟨fun w => i0 ?_, fun w => yes (fun _ => w)⟩
        cases e : agr m U T t Y0 with
        | false => rfl
        | true => exact absurd ((agr_iff m U T t Y0).mp e k (by omega) (by omega)) w
      · simp (disch := omega) only [wbX12_isLet_77, I_lit, I_in, true_and, I_cl, Int.reduceToNat, f5, I_le, I_eq]
        rw [if_neg (by rw [z]; decide)] at hp
        exact ⟨fun y => absurd y (by omega), fun _ => ⟨fun _ => ⟨Or.inl trivial, hp⟩, fun y => absurd trivial y⟩⟩
  · intro f k hk ih
    have e5 : gI σ 76 5 = II (m 5) := hA.1 5
    have g0 : gI σ 76 (100 + 6 * k) = II (m (100 + 6 * k)) := hA.1 _
    have g5 : gI σ 76 (100 + 6 * k + 5) = II (m (100 + 6 * k + 5)) := hA.1 _
    have j0 : (100 + 6 * (k : Int)).toNat = 100 + 6 * k := by omega
    have j5 : (100 + 6 * (k : Int) + 5).toNat = 100 + 6 * k + 5 := by omega
    obtain ⟨q1, q2, q3, q4, q5, q6⟩ := hPW k (by omega)
    obtain ⟨x1, -⟩ := mx_in hPW Y0 k (by omega)
    simp only [mx] at ih
    simp (disch := omega) only [wbX12_isLet_5, I_lit, I_in, true_and, I_cl, Int.reduceToNat, e5, I_le, fe, I_mul, I_add, j0, j5, g0, g5, I_lt]
    refine ⟨fun z => absurd z (by omega), fun _ => ⟨fun z => ?_, fun z => greater_ok (by omega) ?_⟩⟩
    · rw [if_neg (by omega)] at ih; exact ih
    · rw [if_pos (by omega)] at ih; exact ih
theorem isLet_ok {σ : St} {m mi : MT} {U : Nat → Nat} {T : TT} {t : Nat} {Y0 : Int} {post : Int32 → St → Prop} (hA : IvA σ m mi U T) (hB : IvB σ m mi U T) (ht : (t : Int) < m 4) (hY : 0 ≤ Y0 ∧ Y0 ≤ 61)
    (hp : ∀ τ, SR σ τ → post (II (if agr m U T t Y0 = true then 1 else 0)) τ) : wpX12_isLet (II t) (II Y0) σ post := isLetE_ok hA hB ht hY (fun τ a b => hp τ (SR_rl a b))
