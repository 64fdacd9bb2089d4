/-! chance: the call -/
def bcn (G : GV) (Y t : Nat) (i : Nat) : Int := if (bcg G Y i t : Int) ≤ 0 then 0 else 1
theorem chance_ok {σ : St} (h : Inv σ) (a b c : Int32) : wpX11_chance a b c σ (fun r τ => wpX12_chance a b c τ (Q2 r)) := by
  obtain ⟨m, mi, U, T, hA, hB⟩ := id h
  obtain ⟨n, n1, n2, rfl⟩ := I_of a
  obtain ⟨y, y1, y2, rfl⟩ := I_of b
  obtain ⟨k, k1, k2, rfl⟩ := I_of c
  have hM := hA.1
  have hW := hA.2.2.1
  have w0 := hW.1
  have w1 := hW.2.1
  have e9 := hB.2.2.1.1
  have hGC := (run_GC (K := KK m U T) hW (m 0).toNat).1
  have hN : GN (run (KK m U T) (m 0).toNat) (m 1).toNat := GN_run (KK m U T) _
  obtain ⟨G, eG⟩ : ∃ G, G = run (KK m U T) (m 0).toNat := ⟨_, rfl⟩
  have ref : ∀ (τ : St) (r : Int32), SR σ τ → (¬ ((-1 ≤ n ∧ n < m 1) ∧ (1 ≤ y ∧ y ≤ m 0 - 1) ∧ (2 ≤ k ∧ k ≤ 1000000)) → r = II (-1)) → ((1 ≤ y ∧ y ≤ m 0 - 1) → (gT G 6 (y + 40).toNat = 0 ∨ gT G 6 ((y + 40).toNat - 1) = 0) → r = II (-1)) → ((-1 ≤ n ∧ n < m 1) ∧ (1 ≤ y ∧ y ≤ m 0 - 1) ∧ (2 ≤ k ∧ k ≤ 1000000) → gT G 6 (y + 40).toNat ≠ 0 → gT G 6 ((y + 40).toNat - 1) ≠ 0 → (n = -1 → r = II (sm (bcn G (y + 40).toNat k.toNat) (m 1).toNat)) ∧ (n ≠ -1 → r = II (bcg G (y + 40).toNat n.toNat k.toNat : Nat))) → wpX12_chance (II n) (II y) (II k) τ (Q2 r) := by
    intro τ r tR r0 r1 r2
    have tA := SR_A hA tR
    have tB := SR_B hA hB tR
    have tI := SR_I h tR
    have e0 : gI τ 76 0 = II (m 0) := tA.1 0
    have core : (-1 ≤ n ∧ n < m 1) → wbX12_chance_13 (Q2 r) (II n) (II y) (II k) τ := by
      intro hn
      unfold wbX12_chance_13
      simp (disch := omega) only [I_lit, I_neg, I_in, true_and, I_cl, Int.reduceToNat, e0, I_sub]
      refine in_ok (by omega) (fun z => ?_) (fun z => ?_)
      · refine ⟨fun q => absurd q i10, fun _ => ?_⟩
        refine in_ok (by omega) (fun z2 => ?_) (fun z2 => ?_)
        · refine ⟨fun _ => ?_, fun q => absurd q i10⟩
          refine runsAll_ok tA tB ?_
          intro υ uR uG un
          rw [← eG] at uG
          have uA := SR_A tA uR
          have uI := SR_I tI uR
          rw [← eG] at hGC hN
          obtain ⟨a1, a2, a3⟩ := gT72 hGC (Y := (y + 40).toNat) (by omega)
          obtain ⟨b1, b2, b3⟩ := gT72 hGC (Y := (y + 40).toNat - 1) (by omega)
          refine allOf_ok uG uA.1 w1 hN (by omega) ?_
          rw [I_eq (by omega)]
          refine ⟨fun q => ⟨r1 z (Or.inl q), uI⟩, fun q => ?_⟩
          refine allOf_ok uG uA.1 w1 hN (by omega) ?_
          rw [show (y - 1 + 40).toNat = (y + 40).toNat - 1 by omega, I_eq (by omega)]
          refine ⟨fun q2 => ?_, fun q2 => ⟨r1 z (Or.inr q2), uI⟩⟩
          rw [I_eq (by omega)]
          have r3 := r2 ⟨hn, z, z2⟩ q q2
          obtain ⟨K, rfl⟩ : ∃ K : Nat, k = K := ⟨k.toNat, by omega⟩
          rw [Int.toNat_natCast] at r3
          refine ⟨fun q3 => ?_, fun q3 => ?_⟩
          · have hr := r3.1 q3
            have key := up (P := fun f i => ∀ ω, Eqx [114, 115, 116] υ ω → wbX12_chance_85 (Q2 r) f (II y) (II K) (II (sm (bcn G (y + 40).toNat K) i)) (II i) ω) (m 1).toNat ?_ ?_ 0 (by omega)
            · obtain ⟨f, hf⟩ := key
              exact ⟨f, hf υ (Eqx.refl _ _)⟩
            · intro f ω wE
              have e1 : gI ω 76 1 = II (m 1) := by rw [Eqx_gI wE (by simp)]; exact uA.1 1
              simp (disch := omega) only [wbX12_chance_85, I_lit, I_in, true_and, I_cl, Int.reduceToNat, e1, I_le]
              exact ⟨fun _ => ⟨hr, SR_I uI (SR_x wE (by simp))⟩, fun z => absurd (by omega) z⟩
            · intro f i hi ih ω wE
              have wR : SR υ ω := SR_x wE (by simp)
              have wA := SR_A uA wR
              have e1 : gI ω 76 1 = II (m 1) := wA.1 1
              have es : sm (bcn G (y + 40).toNat K) (i + 1) = sm (bcn G (y + 40).toNat K) i + bcn G (y + 40).toNat K i := rfl
              have bl := bcv_le (gT G 6 ((y + 40).toNat - 1) - gt G ((y + 40).toNat - 1) 6 i).toNat (gt G ((y + 40).toNat - 1) 6 i).toNat (gT G 6 (y + 40).toNat).toNat (gt G (y + 40).toNat 6 i).toNat K
              rw [es] at ih
              simp (disch := omega) only [wbX12_chance_85, I_lit, I_in, true_and, I_cl, Int.reduceToNat, e1, I_le]
              refine ⟨fun z => absurd z (by omega), fun _ => ?_⟩
              refine chanceOf_ok (RG_eq uG (fun q x1 x2 => (wE q (by simp; omega)).symm)) hGC wA.1 w1 hN (by omega) (by omega) (by omega) ?_
              intro ρ rE
              have ih := ih ρ (Eqx.trans wE rE)
              have eb : bcg G (y + 40).toNat i K = bcv (gT G 6 ((y + 40).toNat - 1) - gt G ((y + 40).toNat - 1) 6 i).toNat (gt G ((y + 40).toNat - 1) 6 i).toNat (gT G 6 (y + 40).toNat).toNat (gt G (y + 40).toNat 6 i).toNat K := rfl
              rw [I_le (by omega)]
              simp only [fe, I_add]
              unfold bcn at ih
              refine ⟨fun q => ?_, fun q => ?_⟩
              · rw [if_pos q] at ih; exact ih
              · rw [if_neg q] at ih; exact ih
          · obtain ⟨N, rfl⟩ : ∃ N : Nat, n = N := ⟨n.toNat, by omega⟩
            refine chanceOf_ok uG hGC uA.1 w1 hN (by omega) (by omega) (by omega) ?_
            intro ρ rE
            exact ⟨r3.2 q3, SR_I uI (SR_x rE (by simp))⟩
        · exact ⟨fun q => absurd rfl q, fun _ => ⟨r0 (fun q => z2 q.2.2), tI⟩⟩
      · exact ⟨fun _ => ⟨r0 (fun q => z q.2.1), tI⟩, fun q => absurd rfl q⟩
    simp (disch := omega) only [wpX12_chance, I_lit, I_neg, I_eq]
    refine ⟨fun q => core (by omega), fun q => isName_ok tA.1 w1 (by omega) (fun z => ?_) (fun z => ?_)⟩
    · exact ⟨fun q => absurd q i10, fun _ => core (by omega)⟩
    · exact ⟨fun _ => ⟨r0 (fun x => z (by omega)), tI⟩, fun q => absurd rfl q⟩
  have ref0 : ¬ ((-1 ≤ n ∧ n < m 1) ∧ (1 ≤ y ∧ y ≤ m 0 - 1) ∧ (2 ≤ k ∧ k ≤ 1000000)) → wpX12_chance (II n) (II y) (II k) σ (Q2 (II (-1))) := fun z => ref σ _ (SR.refl σ) (fun _ => rfl) (fun _ _ => rfl) (fun q => absurd q z)
  have b5 := hB.2.2.2.2.1
  rw [← eG] at b5 hGC
  unfold wpX11_chance
  simp (disch := omega) only [I_lit, I_neg, e9, I_sub]
  refine wi_ok (by omega) (fun z => ?_) (fun z => ?_)
  · refine ⟨fun q => absurd q i10, fun _ => ?_⟩
    refine wi_ok (by omega) (fun z2 => ?_) (fun z2 => ?_)
    · refine ⟨fun _ => ?_, fun q => absurd q i10⟩
      rw [hB.1.1, I_sub]
      refine wi_ok (by omega) (fun z3 => ?_) (fun z3 => ?_)
      · refine ⟨fun _ => ?_, fun q => absurd q i10⟩
        obtain ⟨a1, a2, a3⟩ := gT72 hGC (Y := (y + 40).toNat) (by omega)
        obtain ⟨b1, b2, b3⟩ := gT72 hGC (Y := (y + 40).toNat - 1) (by omega)
        refine groupTotal_ok (g := 6) b5 (by omega) (by omega) (by omega) ?_
        rw [show (y + 41).toNat = (y + 40).toNat + 1 by omega, rg_one, I_eq (by omega)]
        refine ⟨fun q => ref σ _ (SR.refl σ) (fun _ => rfl) (fun _ _ => rfl) (fun _ q2 => absurd q q2), fun q => ?_⟩
        refine groupTotal_ok (g := 6) b5 (by omega) (by omega) (by omega) ?_
        rw [show (y - 1 + 41).toNat = (y + 40).toNat - 1 + 1 by omega, show (y - 1 + 40).toNat = (y + 40).toNat - 1 by omega, rg_one, I_eq (by omega)]
        refine ⟨fun q2 => ?_, fun q2 => ref σ _ (SR.refl σ) (fun _ => rfl) (fun _ _ => rfl) (fun _ _ q3 => absurd q2 q3)⟩
        rw [I_eq (by omega)]
        obtain ⟨K, rfl⟩ : ∃ K : Nat, k = K := ⟨k.toNat, by omega⟩
        have ok : (-1 ≤ n ∧ n < m 1) ∧ (1 ≤ y ∧ y ≤ m 0 - 1) ∧ (2 ≤ (K : Int) ∧ (K : Int) ≤ 1000000) := ⟨by omega, z, z2⟩
        have fin := fun τ r tR hr => ref τ r tR (fun x => absurd ok x) (fun _ x => by omega) (fun _ _ _ => hr)
        rw [Int.toNat_natCast] at fin
        refine ⟨fun q3 => ?_, fun q3 => ?_⟩
        · have key := up (P := fun f i => ∀ υ, Eqx [60, 61, 62, 63] σ υ → wbX11_chance_102 (fun r τ => wpX12_chance (II n) (II y) (II K) τ (Q2 r)) f (II y) (II K) (II (sm (bcn G (y + 40).toNat K) i)) (II i) υ) (m 1).toNat ?_ ?_ 0 (by omega)
          · obtain ⟨f, hf⟩ := key
            exact ⟨f, hf σ (Eqx.refl _ _)⟩
          · intro f υ uE
            have uR : SR σ υ := SR_x uE (by simp)
            have u1 := (SR_B hA hB uR).1.1
            simp (disch := omega) only [wbX11_chance_102, u1, I_le]
            exact ⟨fun _ => fin υ _ uR ⟨fun _ => rfl, fun x => absurd q3 x⟩, fun x => absurd (by omega) x⟩
          · intro f i hi ih υ uE
            have uR : SR σ υ := SR_x uE (by simp)
            have uB := SR_B hA hB uR
            have ub5 := uB.2.2.2.2.1
            rw [← eG] at ub5
            have es : sm (bcn G (y + 40).toNat K) (i + 1) = sm (bcn G (y + 40).toNat K) i + bcn G (y + 40).toNat K i := rfl
            have bl := bcv_le (gT G 6 ((y + 40).toNat - 1) - gt G ((y + 40).toNat - 1) 6 i).toNat (gt G ((y + 40).toNat - 1) 6 i).toNat (gT G 6 (y + 40).toNat).toNat (gt G (y + 40).toNat 6 i).toNat K
            have eb : bcg G (y + 40).toNat i K = bcv (gT G 6 ((y + 40).toNat - 1) - gt G ((y + 40).toNat - 1) 6 i).toNat (gt G ((y + 40).toNat - 1) 6 i).toNat (gT G 6 (y + 40).toNat).toNat (gt G (y + 40).toNat 6 i).toNat K := rfl
            rw [es] at ih
            simp (disch := omega) only [wbX11_chance_102, uB.1.1, I_le]
            refine ⟨fun x => absurd x (by omega), fun _ => ?_⟩
            refine beyond_ok ub5 hGC (by omega) (by omega) (by omega) ?_
            intro ρ rE
            have ih := ih ρ (Eqx.trans uE rE)
            unfold bcn at ih
            simp (disch := omega) only [I_lit, I_eq, fe, I_add]
            refine ⟨fun x => ?_, fun x => ?_⟩
            · rw [if_pos (by omega), Int.add_zero] at ih; exact ih
            · rw [if_neg (by omega)] at ih; exact ih
        · obtain ⟨N, rfl⟩ : ∃ N : Nat, n = N := ⟨n.toNat, by omega⟩
          refine beyond_ok b5 hGC (by omega) (by omega) (by omega) ?_
          intro ρ rE
          exact fin ρ _ (SR_x rE (by simp)) ⟨fun x => absurd x q3, fun _ => rfl⟩
      · exact ⟨fun q => absurd rfl q, fun _ => ref0 (fun q => z3 (by omega))⟩
    · exact ⟨fun q => absurd rfl q, fun _ => ref0 (fun q => z2 q.2.2)⟩
  · exact ⟨fun _ => ref0 (fun q => z q.2.1), fun q => absurd rfl q⟩
