theorem now_ok {σ : St} (h : Inv σ) (b1 b2 b3 b4 : Int32) : wpX11_now b1 b2 b3 b4 σ (fun r τ => wpX12_now b1 b2 b3 b4 τ (Q2 r)) := by
  obtain ⟨m, mi, U, T, hA, hB⟩ := id h
  obtain ⟨p, p1, p2, rfl⟩ := I_of b1
  obtain ⟨s, s1, s2, rfl⟩ := I_of b2
  obtain ⟨x, x1, x2, rfl⟩ := I_of b3
  obtain ⟨k, k1, k2, rfl⟩ := I_of b4
  have hW := hA.2.2.1
  have w0 := hW.1
  have w1 := hW.2.1
  unfold wpX11_now
  simp only [I_lit, I_neg]
  refine isRow_ok (by omega) (fun z => ?_) (fun z => ⟨fun _ => ?_, fun c => absurd rfl c⟩)
  · refine ⟨fun c => absurd c i10, fun _ => ?_⟩
    obtain ⟨z1, z2, z3⟩ := z
    obtain ⟨P, rfl⟩ : ∃ P : Nat, p = P := ⟨p.toNat, by omega⟩
    obtain ⟨S, rfl⟩ : ∃ S : Nat, s = S := ⟨s.toNat, by omega⟩
    obtain ⟨X, rfl⟩ : ∃ X : Nat, x = X := ⟨x.toNat, by omega⟩
    refine weighAll_ok hA hB (by omega) (by omega) (by omega) (fun c => ?_) (fun c1 c2 τ tR tv => ?_)
    · refine ⟨fun d => absurd rfl d, fun _ => ?_⟩
      refine rnow_ok h hA hB (by omega) (by omega) _ rfl _ rfl (fun _ => rfl) (fun _ => rfl) (fun _ _ => rfl) (fun _ _ _ => rfl) (fun _ _ _ e1 e2 => ?_)
      rw [Int.toNat_natCast] at e2
      exact absurd c (by omega)
    · have tA := SR_A hA tR
      have tB := SR_B hA hB tR
      have tI := SR_I h tR
      have t1 := tB.1.1
      have kn1 : kn (KK m U T) = (m 1).toNat := rfl
      refine ⟨fun _ => ?_, fun d => absurd d i10⟩
      have ref : ∀ r : Int32, (¬ (0 ≤ k ∧ k ≤ 1) → ¬ (100 ≤ k ∧ k ≤ 99 + m 1) → ¬ (200 ≤ k ∧ k ≤ 199 + m 1) → r = II (-2000000000)) → ((k = 0 → r = II (chp (KK m U T) (run (KK m U T) (m 0).toNat) (m 0).toNat P S X)) ∧ (k = 1 → r = II (if chp (KK m U T) (run (KK m U T) (m 0).toNat) (m 0).toNat P S X = -1 then -2000000000 else wo (KK m U T) (run (KK m U T) (m 0).toNat) (m 0).toNat P S (chp (KK m U T) (run (KK m U T) (m 0).toNat) (m 0).toNat P S X).toNat (m (7 + S)).toNat)) ∧
          (100 ≤ k ∧ k ≤ 99 + m 1 → r = II (wo (KK m U T) (run (KK m U T) (m 0).toNat) (m 0).toNat P S (k - 100).toNat (m (7 + S)).toNat)) ∧ (200 ≤ k ∧ k ≤ 199 + m 1 → r = II (if my (KK m U T) (run (KK m U T) (m 0).toNat) (m 0).toNat P S X (k - 200).toNat (m (7 + S)).toNat then 1 else 0))) → wpX12_now (II P) (II S) (II X) (II k) τ (Q2 r) := by
        intro r r0 r1
        exact rnow_ok tI tA tB (by omega) (by omega) _ rfl _ rfl (fun d => absurd ⟨z1, z2, z3⟩ d) (fun d => by omega) (fun _ d => absurd d c1) r0 (fun _ _ _ _ _ => r1)
      have ec : chp (KK m U T) (run (KK m U T) (m 0).toNat) (m 0).toNat P S X = pck (fun n => my (KK m U T) (run (KK m U T) (m 0).toNat) (m 0).toNat P S X n (m (7 + S)).toNat) (fun n => wo (KK m U T) (run (KK m U T) (m 0).toNat) (m 0).toNat P S n (m (7 + S)).toNat) (m 1).toNat := by
        unfold chp; rw [tas_now, if_neg c1]; rfl
      have v7 := hW.2.2.2.2.2.2.2.1 S (by omega)
      have w4 := hW.2.2.2.2.1
      have hG : GB (run (KK m U T) (m 0).toNat) := GC_GB (run_GC (K := KK m U T) hW _).1
      have tC := IvCy tA tB (-1) false (-1) (by omega) (by omega)
      have hws : ∀ n, n < kn (KK m U T) → -2000000000 < wo (KK m U T) (run (KK m U T) (m 0).toNat) (m 0).toNat P S n (m (7 + S)).toNat ∧ wo (KK m U T) (run (KK m U T) (m 0).toNat) (m 0).toNat P S n (m (7 + S)).toNat < 2000000000 := by
        intro n hn
        obtain ⟨-, -, -, -, nr5, -⟩ := tC.1.2.2.1 (m (7 + S)).toNat (by show _ < m 4; omega)
        obtain ⟨_, -, -, en3⟩ := tC.1.2.2.2
        have wb := wv_wb (p := P) (s := S) hG tC.1.2.1 ⟨(en3 n hn).1, (en3 n hn).2.1⟩ (show (m 0).toNat ≤ 60 by omega) nr5
        exact (tC.2.1 (m (7 + S)).toNat (by show _ < m 4; omega) (fun q => if q = 96 then ((τ 96).1, (fun i => LL (wv (KK m U T) (run (KK m U T) (m 0).toNat) (40 + (m 0).toNat) P S n (m (7 + S)).toNat i)), (τ 96).2.2) else τ q) (RWe_of (fun q a b => if_neg (by omega))) _ wb (fun i hi => by unfold gL; simp)).1
      have hMW : MW τ (fun n => my (KK m U T) (run (KK m U T) (m 0).toNat) (m 0).toNat P S X n (m (7 + S)).toNat) (fun n => wo (KK m U T) (run (KK m U T) (m 0).toNat) (m 0).toNat P S n (m (7 + S)).toNat) (m 1).toNat := fun i hi => ⟨(tv i (by omega)).2, fun _ => ⟨(tv i (by omega)).1, hws i (by omega)⟩⟩
      have pr := pck_range (fun n => my (KK m U T) (run (KK m U T) (m 0).toNat) (m 0).toNat P S X n (m (7 + S)).toNat) (fun n => wo (KK m U T) (run (KK m U T) (m 0).toNat) (m 0).toNat P S n (m (7 + S)).toNat) (m 1).toNat
      have t1' : gI τ 1 0 = II (((m 1).toNat : Nat) : Int) := by rw [show (((m 1).toNat : Nat) : Int) = m 1 by omega]; exact t1
      rw [I_eq (by omega), I_eq (by omega)]
      refine ⟨fun d => ⟨fun d2 => ?_, fun d2 => ?_⟩, fun d => ?_⟩
      · rw [t1, I_add]
        refine wi_ok (b := 100) (by omega) (fun d3 => ?_) (fun d3 => ?_)
        · refine ⟨fun e => absurd e i10, fun _ => ?_⟩
          rw [I_sub, show k - 100 = (((k - 100).toNat : Nat) : Int) by omega]
          refine ⟨of_eq_true (I_in (by omega)), ?_⟩
          rw [I_cl (by omega), Int.toNat_natCast, (tv (k - 100).toNat (by omega)).1]
          exact ref _ (fun a b c => absurd d3 b) ⟨fun a => absurd a d, fun a => absurd a d2, fun _ => rfl, fun a => by omega⟩
        · refine ⟨fun _ => ?_, fun e => absurd rfl e⟩
          rw [t1, I_add]
          refine wi_ok (b := 200) (by omega) (fun d4 => ?_) (fun d4 => ?_)
          · refine ⟨fun e => absurd e i10, fun _ => ?_⟩
            rw [I_sub, show k - 200 = (((k - 200).toNat : Nat) : Int) by omega]
            refine ⟨of_eq_true (I_in (by omega)), ?_⟩
            rw [I_cl (by omega), Int.toNat_natCast, (tv (k - 200).toNat (by omega)).2]
            have fin := fun r hr => ref r (fun a b c => absurd d4 c) ⟨fun a => absurd a d, fun a => absurd a d2, fun a => absurd a d3, hr⟩
            cases hm : my (KK m U T) (run (KK m U T) (m 0).toNat) (m 0).toNat P S X (k - 200).toNat (m (7 + S)).toNat with
            | true => exact ⟨fun e => absurd e i10, fun _ => fin _ (fun _ => by rw [hm]; rfl)⟩
            | false => exact ⟨fun _ => fin _ (fun _ => by rw [hm]; rfl), fun e => absurd rfl e⟩
          · refine ⟨fun _ => ref _ (fun _ _ _ => rfl) ⟨fun a => absurd a d, fun a => absurd a d2, fun a => absurd a d3, fun a => absurd a d4⟩, fun e => absurd rfl e⟩
      · refine pick_ok t1' (by omega) hMW ?_
        rw [← ec] at pr ⊢
        rw [I_eq (by omega)]
        refine ⟨fun e => ?_, fun e => ?_⟩
        · refine ⟨of_eq_true (I_in (by omega)), ?_⟩
          rw [I_cl (by omega), (tv (chp (KK m U T) (run (KK m U T) (m 0).toNat) (m 0).toNat P S X).toNat (by omega)).1]
          exact ref _ (fun a => absurd (by omega) a) ⟨fun a => absurd a d, fun _ => by rw [if_neg e], fun a => by omega, fun a => by omega⟩
        · exact ref _ (fun a => absurd (by omega) a) ⟨fun a => absurd a d, fun _ => by rw [if_pos e], fun a => by omega, fun a => by omega⟩
      · refine pick_ok t1' (by omega) hMW ?_
        rw [← ec]
        exact ref _ (fun a => absurd (by omega) a) ⟨fun _ => rfl, fun a => by omega, fun a => by omega, fun a => by omega⟩
  · exact rnow_ok h hA hB (by omega) (by omega) _ rfl _ rfl (fun _ => rfl) (fun _ => rfl) (fun _ _ => rfl) (fun _ _ _ => rfl) (fun a b c => absurd ⟨a, b, c⟩ z)
