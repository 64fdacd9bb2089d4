theorem rnow_ok {σ : St} {m mi : MT} {U : Nat → Nat} {T : TT} {p s x k : Int} {r : Int32} (h : Inv σ) (hA : IvA σ m mi U T) (hB : IvB σ m mi U T) (hb : -2147483648 ≤ p ∧ p < 2147483648 ∧ -2147483648 ≤ s ∧ s < 2147483648 ∧ -2147483648 ≤ x ∧ x < 2147483648) (hkb : -2147483648 ≤ k ∧ k < 2147483648) (K : KT) (eK : K = KK m U T) (G : GV) (eG : G = run (KK m U T) (m 0).toNat)
    (q0 : ¬ ((0 ≤ p ∧ p ≤ 2) ∧ (0 ≤ s ∧ s ≤ 1) ∧ (0 ≤ x ∧ x ≤ 1)) → r = II (-2000000000)) (q1 : m 0 = 61 → r = II (-2000000000)) (q2 : 0 ≤ s ∧ s ≤ 1 → m (7 + s.toNat) = -1 → r = II (-2000000000))
    (q3 : ¬ (0 ≤ k ∧ k ≤ 1) → ¬ (100 ≤ k ∧ k ≤ 99 + m 1) → ¬ (200 ≤ k ∧ k ≤ 199 + m 1) → r = II (-2000000000))
    (q4 : (0 ≤ p ∧ p ≤ 2) → (0 ≤ s ∧ s ≤ 1) → (0 ≤ x ∧ x ≤ 1) → m 0 ≠ 61 → m (7 + s.toNat) ≠ -1 → (k = 0 → r = II (chp K G (m 0).toNat p.toNat s.toNat x.toNat)) ∧ (k = 1 → r = II (if chp K G (m 0).toNat p.toNat s.toNat x.toNat = -1 then -2000000000 else wo K G (m 0).toNat p.toNat s.toNat (chp K G (m 0).toNat p.toNat s.toNat x.toNat).toNat (m (7 + s.toNat)).toNat)) ∧
      (100 ≤ k ∧ k ≤ 99 + m 1 → r = II (wo K G (m 0).toNat p.toNat s.toNat (k - 100).toNat (m (7 + s.toNat)).toNat)) ∧ (200 ≤ k ∧ k ≤ 199 + m 1 → r = II (if my K G (m 0).toNat p.toNat s.toNat x.toNat (k - 200).toNat (m (7 + s.toNat)).toNat then 1 else 0))) :
    wpX12_now (II p) (II s) (II x) (II k) σ (Q2 r) := by
  have hM := hA.1
  have w0 := hA.2.2.1.1
  have w1 := hA.2.2.1.2.1
  have w4 := hA.2.2.1.2.2.2.2.1
  have w7 := hA.2.2.1.2.2.2.2.2.2.2.1
  have e0 : gI σ 76 0 = II (m 0) := hM 0
  have e1 : gI σ 76 1 = II (m 1) := hM 1
  unfold wpX12_now
  refine isCradle_ok hb (fun z => ?_) (fun z => t0 ⟨q0 z, h⟩)
  refine t1 ?_
  obtain ⟨z1, z2, z3⟩ := z
  obtain ⟨P, rfl⟩ : ∃ P : Nat, p = P := ⟨p.toNat, by omega⟩
  obtain ⟨S, rfl⟩ : ∃ S : Nat, s = S := ⟨s.toNat, by omega⟩
  obtain ⟨X, rfl⟩ : ∃ X : Nat, x = X := ⟨x.toNat, by omega⟩
  have e7 : gI σ 76 (7 + S) = II (m (7 + S)) := hM (7 + S)
  have v7 := w7 S (by omega)
  have j7 : ((7 : Int) + (S : Int)).toNat = 7 + S := by omega
  have q4' := q4 z1 z2 z3
  have q2' := q2 z2
  clear q0 q4 q2
  simp only [Int.toNat_natCast] at q4' q2'
  have go : m 0 ≠ 61 → m (7 + S) ≠ -1 → ∀ j : Bool, (j = false ∧ ¬ (100 ≤ k ∧ k ≤ 99 + m 1) ∧ ¬ (200 ≤ k ∧ k ≤ 199 + m 1) ∨ j = true ∧ (100 ≤ k ∧ k ≤ 99 + m 1 ∨ 200 ≤ k ∧ k ≤ 199 + m 1)) → wbX12_now_82 (Q2 r) (II P) (II S) (II X) (II k) (II (bI j)) σ := by
    intro c1 c2 j hj
    obtain ⟨f0, f1, f2, f3⟩ := q4' c1 c2
    clear q4' q2' q1
    have main : (j = false ∧ (k = 0 ∨ k = 1) ∨ j = true ∧ (100 ≤ k ∧ k ≤ 99 + m 1 ∨ 200 ≤ k ∧ k ≤ 199 + m 1)) → wbX12_now_103 (Q2 r) (II P) (II S) (II X) (II k) (II (bI j)) σ := by
      intro hj2
      have hk3 : 100 ≤ k → k < 200 → 100 ≤ k ∧ k ≤ 99 + m 1 := by
        intro a b
        rcases hj2 with ⟨_, z⟩ | ⟨_, z⟩ <;> omega
      have hk4 : 200 ≤ k → 200 ≤ k ∧ k ≤ 199 + m 1 := by
        intro a
        rcases hj2 with ⟨_, z⟩ | ⟨_, z⟩ <;> omega
      exact rnow1 h hA hB (by omega) (by omega) (by omega) (by omega) c2 K eK G eG hj2 f0 f1 (fun a b => f2 (hk3 a b)) (fun a => f3 (hk4 a))
    unfold wbX12_now_82
    refine in_ok (b := 0) (c := 1) (by omega) (fun c => ?_) (fun c => ?_)
    · refine ⟨fun _ => main ?_, fun z => absurd z i10⟩
      rcases hj with ⟨a, b⟩ | ⟨a, b⟩
      · exact Or.inl ⟨a, by omega⟩
      · omega
    · refine ⟨fun z => absurd i00 z, fun _ => ?_⟩
      rcases hj with ⟨a, b⟩ | ⟨a, b⟩
      · rw [a]; exact ⟨fun z => absurd rfl z, fun _ => ⟨q3 c b.1 b.2, h⟩⟩
      · rw [a] at main ⊢; exact ⟨fun _ => main (Or.inr ⟨rfl, b⟩), fun z => absurd z (by decide)⟩
  simp (disch := omega) only [I_lit, I_neg, I_in, true_and, I_cl, Int.reduceToNat, e0, e1, I_add, I_eq, j7, e7]
  refine ⟨fun c => ⟨q1 c, h⟩, fun c => ⟨fun c2 => ?_, fun c2 => ⟨q2' c2, h⟩⟩⟩
  refine in_ok (b := 100) (by omega) (fun c3 => ?_) (fun c3 => ?_)
  · exact ⟨fun _ => go c c2 true (Or.inr ⟨rfl, Or.inl c3⟩), fun z => absurd z i10⟩
  · refine ⟨fun z => absurd i00 z, fun _ => ?_⟩
    rw [e1, I_add]
    refine in_ok (b := 200) (by omega) (fun c4 => ?_) (fun c4 => ?_)
    · exact ⟨fun z => absurd z i10, fun _ => go c c2 true (Or.inr ⟨rfl, Or.inr c4⟩)⟩
    · exact ⟨fun _ => go c c2 false (Or.inl ⟨rfl, c3, c4⟩), fun z => absurd i00 z⟩
