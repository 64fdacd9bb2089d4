theorem now_ok {σ : St} (h : Inv σ) (b1 b2 b3 b4 : Int32) : wpX11_now b1 b2 b3 b4 σ (fun r τ => wpX12_now b1 b2 b3 b4 τ (Q2 r)) := by
  obtain ⟨m, mi, U, T, hA, hB⟩ := id h
  obtain ⟨p, p1, p2, rfl⟩ := I_of b1
  obtain ⟨s, s1, s2, rfl⟩ := I_of b2
  obtain ⟨x, x1, x2, rfl⟩ := I_of b3
  obtain ⟨k, k1, k2, rfl⟩ := I_of b4
  have hW := hA.2.2.1
  have w0 := hW.1
  have w1 := hW.2.1
  unfold wpX11_now
  simp only [I_lit, I_neg]
  refine isRow_ok (by omega) (fun z => ?_) (fun z => ⟨fun _ => ?_, fun c => absurd rfl c⟩)
  · refine ⟨fun c => absurd c i10, fun _ => ?_⟩
    obtain ⟨z1, z2, z3⟩ := z
    obtain ⟨P, rfl⟩ : ∃ P : Nat, p = P := ⟨p.toNat, by omega⟩
    obtain ⟨S, rfl⟩ : ∃ S : Nat, s = S := ⟨s.toNat, by omega⟩
    obtain ⟨X, rfl⟩ : ∃ X : Nat, x = X := ⟨x.toNat, by omega⟩
    refine weighAll_ok hA hB (by omega) (by omega) (by omega) (fun c => ?_) (fun c1 c2 τ tR tv => ?_)
    · refine ⟨fun d => absurd rfl d, fun _ => ?_⟩
      refine rnow_ok h hA hB (by omega) (by omega) _ rfl _ rfl (fun _ => rfl) (fun _ => rfl) (fun _ _ => rfl) (fun _ _ _ => rfl) (fun _ _ _ e1 e2 => ?_)
      rw [Int.toNat_natCast] at e2
      exact absurd c (by omega)
    · have tA := SR_A hA tR
      have tB := SR_B hA hB tR
      have tI := SR_I h tR
      have t1 := tB.1.1
      have kn1 : kn (KK m U T) = (m 1).toNat := rfl
      refine ⟨fun _ => ?_, fun d => absurd d i10⟩
      have ref : ∀ r : Int32, (¬ (0 ≤ k ∧ k ≤ 1) → ¬ (100 ≤ k ∧ k ≤ 99 + m 1) → ¬ (200 ≤ k ∧ k ≤ 199 + m 1) → r = II (-2000000000)) → ((k = 0 → r = II (chp (KK m U T) (run (KK m U T) (m 0).toNat) (m 0).toNat P S X)) ∧ (k = 1 → r = II (if chp (KK m U T) (run (KK m U T) (m 0).toNat) (m 0).toNat P S X = -1 then -2000000000 else wo (KK m U T) (run (KK m U T) (m 0).toNat) (m 0).toNat P S (chp (KK m U T) (run (KK m U T) (m 0).toNat) (m 0).toNat P S X).toNat (m (7 + S)).toNat)) ∧
          (100 ≤ k ∧ k ≤ 99 + m 1 → r = II (wo (KK m U T) (run (KK m U T) (m 0).toNat) (m 0).toNat P S (k - 100).toNat (m (7 + S)).toNat)) ∧ (200 ≤ k ∧ k ≤ 199 + m 1 → r = II (if my (KK m U T) (run (KK m U T) (m 0).toNat) (m 0).toNat P S X (k - 200).toNat (m (7 + S)).toNat then 1 else 0))) → wpX12_now (II P) (II S) (II X) (II k) τ (Q2 r) := by
        intro r r0 r1
        exact rnow_ok tI tA tB (by omega) (by omega) _ rfl _ rfl (fun d => absurd ⟨z1, z2, z3⟩ d) (fun d => by omega) (fun _ d => absurd d c1) r0 (fun _ _ _ _ _ => r1)
      have ec : chp (KK m U T) (run (KK m U T) (m 0).toNat) (m 0).toNat P S X = pck (fun n => my (KK m U T) (run (KK m U T) (m 0).toNat) (m 0).toNat P S X n (m (7 + S)).toNat) (fun n => wo (KK m U T) (run (KK m U T) (m 0).toNat) (m 0).toNat P S n (m (7 + S)).toNat) (m 1).toNat := by
        unfold chp; rw [tas_now, if_neg c1]; rfl
      sorry
  · exact rnow_ok h hA hB (by omega) (by omega) _ rfl _ rfl (fun _ => rfl) (fun _ => rfl) (fun _ _ => rfl) (fun _ _ _ => rfl) (fun a b c => absurd ⟨a, b, c⟩ z)
