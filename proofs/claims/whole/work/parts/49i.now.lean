/-! now -/
theorem laysNow_ok {σ : St} {m mi : MT} {U : Nat → Nat} {T : TT} {post : St → Prop} (hA : IvA σ m mi U T) (hB : IvB σ m mi U T) (h60 : m 0 ≤ 60)
    (hp : ∀ τ, SR σ τ → Cx1 τ (run (KK m U T) (m 0).toNat) (KK m U T) (m 0).toNat (tas (KK m U T) (m 0).toNat) → LY τ (run (KK m U T) (m 0).toNat) (KK m U T) (m 0).toNat (tas (KK m U T) (m 0).toNat) → RW τ (kT (KK m U T)) (m 4) → post τ) : wpX12_laysNow σ post := by
  have hW := hA.2.2.1
  have w0 := hW.1
  have w4 := hW.2.2.2.2.1
  have w7 := hW.2.2.2.2.2.2.2.1
  unfold wpX12_laysNow
  refine runsAll_ok hA hB ?_
  intro τ tR tG tn
  have tA := SR_A hA tR
  have e0 : gI τ 76 0 = II (m 0) := tA.1 0
  have e7 : gI τ 76 7 = II (m 7) := tA.1 7
  have e8 : gI τ 76 8 = II (m 8) := tA.1 8
  simp (disch := omega) only [I_lit, I_in, true_and, I_cl, Int.reduceToNat, fe, e7, rI2, e8, e0]
  have uE : Eqx [104] τ (sI (sI τ 104 0 (II (m 7))) 104 1 (II (m 8))) := Eqx_tI (Eqx_tI (fun _ _ => rfl) (by simp)) (by simp)
  have uR : SR σ (sI (sI τ 104 0 (II (m 7))) 104 1 (II (m 8))) := tR.trans (SR_x uE (by simp))
  have uA := SR_A hA uR
  have uB := SR_B hA hB uR
  have uC := IvCy uA uB (-1) false (-1) (by omega) (by omega)
  have et : ∀ s, tas (KK m U T) (m 0).toNat s = m (7 + s) := fun s => by
    unfold tas
    rw [if_neg (show ¬ kb (KK m U T) ≠ -1 from fun z => z rfl), if_neg (show ¬ (m 0).toNat < kc (KK m U T) from Nat.lt_irrefl _)]
    rfl
  have C : Cx1 (sI (sI τ 104 0 (II (m 7))) 104 1 (II (m 8))) (run (KK m U T) (m 0).toNat) (KK m U T) (m 0).toNat (tas (KK m U T) (m 0).toNat) := by
    refine ⟨uC.1, RG_eq tG (fun q h1 h2 => (uE q (by simp; omega)).symm), GC_GB (run_GC (K := KK m U T) hW _).1, fun s hs => ?_, fun s hs => ?_, by omega⟩
    · rw [et]
      obtain rfl | rfl : s = 0 ∨ s = 1 := by omega
      · rw [rI3 (by omega), rI1]
      · rw [rI1]
    · rw [et]; exact w7 s hs
  have key := lays_ok (post := post) C (by show (-1 : Int) ≤ -1 ∧ (-1 : Int) < 8; omega) (fun υ vE vF vL => by
    have vR : SR σ υ := by
      have e : ∀ q, q ≠ 75 → q < 96 → υ q = (sI (sI τ 104 0 (II (m 7))) 104 1 (II (m 8))) q := fun q h1 h2 => (vE q (by simp; omega)).symm
      refine uR.trans ⟨⟨fun q hq => e q (by omega) (by omega), by rw [gI_of (e 64 (by omega) (by omega))], by rw [gI_of (e 47 (by omega) (by omega))], by rw [gI_of (e 47 (by omega) (by omega))], fun k hk => vF k (by omega)⟩, e 64 (by omega) (by omega), e 69 (by omega) (by omega)⟩
    have vA := SR_A hA vR
    have vB := SR_B hA hB vR
    have vC := IvCy vA vB (-1) false (-1) (by omega) (by omega)
    refine hp υ vR ⟨vC.1, RG_eq C.2.1 (fun q h1 h2 => (vE q (by simp; omega)).symm), C.2.2.1, fun s hs => ?_, C.2.2.2.2⟩ vL vC.2.1
    rw [Eqx_gI vE (by simp)]; exact C.2.2.2.1 s hs)
  rw [show m 0 = (((m 0).toNat : Nat) : Int) by omega]
  exact key
