theorem given_ref {σ : St} {m mi : MT} {U : Nat → Nat} {T : TT} {G : GV} {y p s x a : Int} (h : Inv σ) (hA : IvA σ m mi U T) (hB : IvB σ m mi U T) (eG : G = run (KK m U T) (m 0).toNat) (y1 : -2147483648 ≤ y ∧ y < 2147483648) (p1 : -2147483648 ≤ p ∧ p < 2147483648) (s1 : -2147483648 ≤ s ∧ s < 2147483648) (x1 : -2147483648 ≤ x ∧ x < 2147483648) (a1 : -2147483648 ≤ a ∧ a < 2147483648)
    (r : Int32) (r0 : ¬ ((-40 ≤ y ∧ y ≤ m 0 - 1) ∧ (-1 ≤ p ∧ p ≤ 2) ∧ (-1 ≤ s ∧ s ≤ 1) ∧ (-1 ≤ x ∧ x ≤ 1) ∧ (-1 ≤ a ∧ a ≤ m 1 - 1)) → r = II (-1)) (r1 : (-40 ≤ y ∧ y ≤ m 0 - 1) ∧ (-1 ≤ p ∧ p ≤ 2) ∧ (-1 ≤ s ∧ s ≤ 1) ∧ (-1 ≤ x ∧ x ≤ 1) ∧ (-1 ≤ a ∧ a ≤ m 1 - 1) → r = II (toG G (y + 40).toNat p s x a (m 1).toNat 12)) : wpX12_given (II y) (II p) (II s) (II x) (II a) σ (Q2 r) := by
  have hM := hA.1
  have w0 := hA.2.2.1.1
  have w1 := hA.2.2.1.2.1
  have e0 : gI σ 76 0 = II (m 0) := hM 0
  have no : ¬ ((-40 ≤ y ∧ y ≤ m 0 - 1) ∧ (-1 ≤ p ∧ p ≤ 2) ∧ (-1 ≤ s ∧ s ≤ 1) ∧ (-1 ≤ x ∧ x ≤ 1) ∧ (-1 ≤ a ∧ a ≤ m 1 - 1)) → Q2 r (II (-1)) σ := fun z => ⟨r0 z, h⟩
  unfold wpX12_given
  simp (disch := omega) only [I_lit, I_neg, I_in, true_and, I_cl, Int.reduceToNat, e0, I_sub]
  refine in_ok (b := -40) (by clear r0 r1 no; omega) (fun q1 => ?_) (fun q1 => ⟨fun _ => no (fun z => q1 z.1), fun z => absurd rfl z⟩)
  refine ⟨fun z => absurd z (by decide), fun _ => isPart_ok (by clear r0 r1 no; omega) (fun q2 => ?_) (fun q2 => ⟨fun _ => no (fun z => q2 z.2.1), fun z => absurd rfl z⟩)⟩
  refine ⟨fun z => absurd z (by decide), fun _ => isPart_ok (by clear r0 r1 no; omega) (fun q3 => ?_) (fun q3 => ⟨fun _ => no (fun z => q3 z.2.2.1), fun z => absurd rfl z⟩)⟩
  refine ⟨fun z => absurd z (by decide), fun _ => isPart_ok (by clear r0 r1 no; omega) (fun q4 => ?_) (fun q4 => ⟨fun _ => no (fun z => q4 z.2.2.2.1), fun z => absurd rfl z⟩)⟩
  refine ⟨fun z => absurd z (by decide), fun _ => ?_⟩
  have fin : -1 ≤ a ∧ a ≤ m 1 - 1 → wbX12_given_59 (Q2 r) (II y) (II p) (II s) (II x) (II a) σ := by
    intro q5
    have r2 := r1 ⟨q1, q2, q3, q4, q5⟩
    clear r0 r1 no
    unfold wbX12_given_59
    refine runsAll_ok hA hB ?_
    intro τ tR tG tn
    rw [← eG] at tG
    exact rgiven_ok tG (SR_A hA tR).1 w1 (by omega) (by omega) q2 q3 q4 ⟨r2, SR_I h tR⟩
  rw [I_eq (by clear r0 r1 no; omega)]
  refine ⟨fun q5 => fin (by clear r0 r1 no; omega), fun q5 => isName_ok hM w1 (by clear r0 r1 no; omega) (fun q6 => ?_) (fun q6 => ?_)⟩
  · exact ⟨fun _ => fin (by clear r0 r1 no; omega), fun z => absurd z (by decide)⟩
  · exact ⟨fun z => absurd rfl z, fun _ => no (fun z => q6 (by have z5 := z.2.2.2.2; clear r0 r1 no z; omega))⟩
theorem given_ok {σ : St} (h : Inv σ) (b1 b2 b3 b4 b5 : Int32) : wpX11_given b1 b2 b3 b4 b5 σ (fun r τ => wpX12_given b1 b2 b3 b4 b5 τ (Q2 r)) := by
  obtain ⟨m, mi, U, T, hA, hB⟩ := id h
  obtain ⟨y, y1, y2, rfl⟩ := I_of b1
  obtain ⟨p, p1, p2, rfl⟩ := I_of b2
  obtain ⟨s, s1, s2, rfl⟩ := I_of b3
  obtain ⟨x, x1, x2, rfl⟩ := I_of b4
  obtain ⟨a, a1, a2, rfl⟩ := I_of b5
  have hW := hA.2.2.1
  have w0 := hW.1
  have w1 := hW.2.1
  have e9 := hB.2.2.1.1
  have hn := hB.1.1
  obtain ⟨G, eG⟩ : ∃ G, G = run (KK m U T) (m 0).toNat := ⟨_, rfl⟩
  have hG := (run_GC (K := KK m U T) hW (m 0).toNat).1
  have hb := hB.2.2.2.2.1
  rw [← eG] at hG hb
  have ref := given_ref (y := y) (p := p) (s := s) (x := x) (a := a) h hA hB eG ⟨y1, y2⟩ ⟨p1, p2⟩ ⟨s1, s2⟩ ⟨x1, x2⟩ ⟨a1, a2⟩
  unfold wpX11_given
  simp (disch := omega) only [I_lit, I_neg, e9, hn, I_sub]
  refine wi_ok (b := -40) (by clear ref; omega) (fun q1 => ?_) (fun q1 => ⟨fun _ => ref _ (fun _ => rfl) (fun z => absurd z.1 q1), fun z => absurd rfl z⟩)
  refine ⟨fun z => absurd z (by decide), fun _ => ?_⟩
  rw [hn, I_sub]
  refine wi_ok (b := -1) (by clear ref; omega) (fun q2 => ?_) (fun q2 => ⟨fun z => absurd rfl z, fun _ => ref _ (fun _ => rfl) (fun z => absurd z.2.2.2.2 q2)⟩)
  refine ⟨fun _ => wi_ok (b := -1) (by clear ref; omega) (fun q3 => ?_) (fun q3 => ⟨fun _ => ref _ (fun _ => rfl) (fun z => absurd z.2.1 q3), fun z => absurd rfl z⟩), fun z => absurd z (by decide)⟩
  refine ⟨fun z => absurd z (by decide), fun _ => wi_ok (b := -1) (by clear ref; omega) (fun q4 => ?_) (fun q4 => ⟨fun _ => ref _ (fun _ => rfl) (fun z => absurd z.2.2.1 q4), fun z => absurd rfl z⟩)⟩
  refine ⟨fun z => absurd z (by decide), fun _ => wi_ok (b := -1) (by clear ref; omega) (fun q5 => ?_) (fun q5 => ⟨fun z => absurd rfl z, fun _ => ref _ (fun _ => rfl) (fun z => absurd z.2.2.2.1 q5)⟩)⟩
  refine ⟨fun _ => ?_, fun z => absurd z (by decide)⟩
  have last := ref _ (fun z => absurd ⟨q1, q3, q4, q5, q2⟩ z) (fun _ => rfl)
  clear ref
  refine cgiven_ok hn w1 hG (by omega) (by omega) q3 q4 q5 (fun z => ?_) (fun z c hc n hn => ?_) last
  · intro y' hy'
    exact hb.2.2.1 y' (by omega)
  · have e10 := hB.2.2.1.2.2.2.2.1 (y + 40).toNat (by omega) c hc n (by omega)
    rw [e10, eG, run_past (N := 0) (by omega) (by omega)]
    show _ = II (G0 m (m 1).toNat (y + 40).toNat c n)
    unfold G0
    rw [if_pos ⟨by omega, hc, by omega⟩]
