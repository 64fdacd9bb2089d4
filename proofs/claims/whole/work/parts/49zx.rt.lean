/-! taste: the reference's call -/
theorem rtaste_ok {σ : St} {b : Nat → Nat} {l N k : Nat} {post : Int32 → St → Prop} (hl : l ≤ 300) (h4 : gI σ 75 4 = II l) (hb : ∀ j, j < l → gI σ 79 j = II (xb (b j)) ∧ b j < 256) (h1 : N ≤ l) (h2 : tS b l N = l) (h3 : ∀ j, j < N → tS b l j < l) (hk : k < 6) (h76 : gI σ 76 4 = II k)
    (hS : ∀ r, pAll (tK b l) (tV b l) 14 0 [] 5 50 = .inl r → (ords r.1).length ≤ 300 → ∀ τ, Eqx (76 :: (MC ++ TC)) σ τ → RTs τ k r.1 → (∀ t, t < k → RWe t σ τ ∧ gI τ 83 t = gI σ 83 t ∧ gI τ 84 t = gI σ 84 t) → gI τ 83 k = II r.2.1 → gI τ 84 k = II r.2.2 → (∀ i, i ≠ 4 → gI τ 76 i = gI σ 76 i) → gI τ 76 4 = II ((k : Int) + 1) → gI τ 75 4 = II 0 → gI τ 75 5 = II 0 → gI τ 75 6 = II (-1) → post (II k) τ)
    (hE : ∀ e, pAll (tK b l) (tV b l) 14 0 [] 5 50 = .inr e → ∀ τ, Eqx MC σ τ → gI τ 75 4 = II 0 → gI τ 75 5 = II e.1 → gI τ 75 6 = II (tS b l e.2 : Nat) → post (II (-1)) τ) : wpX12_taste σ post := by
  have hT := tk_Tk hl h1 h2 h3
  unfold wpX12_taste
  rw [show (4 : Int32).toNatClampNeg = 4 from rfl, h76, show (6 : Int32) = II 6 from rfl, I_eq (by omega)]
  refine ⟨of_eq_true (I_in (a := 4) (by omega)), fun _ => ?_, fun z => by omega⟩
  simp only [fe]
  rw [h4]
  obtain ⟨ρ, eρ⟩ : ∃ ρ, ρ = sI (sI σ 75 14 (II l)) 75 4 0 := ⟨_, rfl⟩
  rw [← eρ]
  have rE : Eqx [75] σ ρ := by rw [eρ]; exact Eqx_tI (Eqx_tI (Eqx.refl _ _) (by simp)) (by simp)
  have r14 : gI ρ 75 14 = II l := by rw [eρ, rI3 (by omega), rI1]
  have r4 : gI ρ 75 4 = II 0 := by rw [eρ, rI1]; rfl
  have r76 : ∀ i, gI ρ 76 i = gI σ 76 i := fun i => Eqx_gI rE (by simp) i
  clear eρ
  obtain ⟨α, eα⟩ : ∃ α, α = sI (sI (sI (sI (sI (sI (sI (sI (sI (sI (sI ρ 75 15 0) 75 19 0) 75 20 (-1)) 75 21 0) 75 22 0) 75 26 0) 75 29 4) 75 30 0) 75 35 0) 75 31 5) 75 32 50 := ⟨_, rfl⟩
  rw [← eα]
  have aE : Eqx [75] ρ α := by
    rw [eα]
    exact Eqx_tI (Eqx_tI (Eqx_tI (Eqx_tI (Eqx_tI (Eqx_tI (Eqx_tI (Eqx_tI (Eqx_tI (Eqx_tI (Eqx_tI (Eqx.refl _ _) (by simp)) (by simp)) (by simp)) (by simp)) (by simp)) (by simp)) (by simp)) (by simp)) (by simp)) (by simp)) (by simp)
  have aF : ∀ f, f < 15 → gI α 75 f = gI ρ 75 f := fun f hf => by rw [eα]; simp (disch := omega) only [rI3]
  have a15 : gI α 75 15 = II ((0 : Nat) : Int) := by rw [eα]; simp (disch := omega) only [rI3, rI1]; rfl
  have a19 : gI α 75 19 = II 0 := by rw [eα]; simp (disch := omega) only [rI3, rI1]; rfl
  have a20 : gI α 75 20 = II (-1) := by rw [eα]; simp (disch := omega) only [rI3, rI1]; rfl
  have a21 : gI α 75 21 = II 0 := by rw [eα]; simp (disch := omega) only [rI3, rI1]; rfl
  have a22 : gI α 75 22 = II 0 := by rw [eα]; simp (disch := omega) only [rI3, rI1]; rfl
  have a26 : gI α 75 26 = II 0 := by rw [eα]; simp (disch := omega) only [rI3, rI1]; rfl
  have a29 : gI α 75 29 = II 4 := by rw [eα]; simp (disch := omega) only [rI3, rI1]; rfl
  have a30 : gI α 75 30 = II 0 := by rw [eα]; simp (disch := omega) only [rI3, rI1]; rfl
  have a35 : gI α 75 35 = II 0 := by rw [eα]; simp (disch := omega) only [rI3, rI1]; rfl
  have a31 : gI α 75 31 = II 5 := by rw [eα]; simp (disch := omega) only [rI3, rI1]; rfl
  have a32 : gI α 75 32 = II 50 := by rw [eα]; simp (disch := omega) only [rI1]; rfl
  clear eα
  have brr : ∀ σ' : St, σ' 79 = ρ 79 → gI σ' 75 14 = gI ρ 75 14 → BR σ' b l := fun σ' e1 e2 => ⟨hl, by rw [e2]; exact r14, fun j hj => by rw [gI_of e1, Eqx_gI rE (by simp)]; exact hb j hj⟩
  refine next_ok (brr α (aE 79 (by simp)).symm (aF 14 (by omega))) a15 (by omega) (fun β bN bQ => ?_)
  have bT := TQ_TA (p := 0) (show TQ β b l (tS b l 0) from bQ)
  have bF : ∀ f, f < 15 ∨ 18 < f → gI β 75 f = gI α 75 f := bN.2
  have bE : Eqx [75] ρ β := aE.trans bN.1
  have bR : RCk ρ (ρ 92) (ρ 93) β (tK b l) (tV b l) (tS b l) (tE b l) 0 [] 5 50 := by
    refine ⟨bE.mono (by simp [MC]), (bE 92 (by simp)).symm, (bE 93 (by simp)).symm, fun f hf => by rw [bF f (by omega)]; exact aF f hf, ?_, ?_, ?_, ?_, ?_, ?_, ?_, ?_, ?_, ?_, fun i hi => absurd hi (by simp [ords]), bT⟩
    · rw [bF 19 (by omega)]; exact a19
    · rw [bF 20 (by omega)]; exact a20
    · rw [bF 21 (by omega)]; exact a21
    · rw [bF 22 (by omega)]; exact a22
    · rw [bF 26 (by omega)]; exact a26
    · rw [bF 29 (by omega)]; exact a29
    · rw [bF 30 (by omega)]; exact a30
    · rw [bF 31 (by omega)]; exact a31
    · rw [bF 32 (by omega)]; exact a32
    · rw [bF 35 (by omega)]; exact a35
  have hX : ∀ σ' : St, σ' 79 = ρ 79 → gI σ' 75 14 = gI ρ 75 14 → NX σ' (tK b l) (tV b l) (tS b l) (tE b l) N := fun σ' e1 e2 => NX_ok (brr σ' e1 e2) h3
  have hgo : GoC ρ (ρ 92) (ρ 93) (tK b l) (tV b l) (tS b l) (tE b l) post 0 [] 5 50 := by
    refine cl_sim hX hT 14 0 [] 5 50 _ _ (by simp) (by simp) (fun x hx => absurd hx (by simp)) (fun i hi => absurd hi (by simp)) (by omega) (by simp [ords]) (fun r hr q A' B' c1 c2 c3 c4 c5 c6 => ?_) (fun e he => ?_)
    · -- the end
      refine ⟨1, fun υ hυ => ?_⟩
      obtain ⟨u1, u2, u3, u4, u5, u6, u7, u8, u9, u10, u11, u12, u13, u14, u15, u16⟩ := hυ
      have u17 := u16.1
      rw [c2] at u17
      have e19 : gI (sI (sI υ 75 5 (II 0)) 75 6 (II (-1))) 75 19 = II 0 := by rw [rI3 (by omega), rI3 (by omega)]; exact u5
      have e20 : gI (sI υ 75 5 (II 0)) 75 20 = II (-1) := by rw [rI3 (by omega)]; exact u6
      unfold wbX12_taste_86
      rw [u5, u10, u17]
      refine ⟨fun z => absurd rfl z, fun _ => ⟨fun z => absurd rfl z, fun _ => ⟨fun _ => ?_, fun z => absurd rfl z⟩⟩⟩
      unfold wbX12_taste_179
      simp only [fe]
      rw [u5, e20, e19]
      refine ⟨fun _ => ⟨of_eq_true (I_in (a := 4) (by omega)), ?_⟩, fun z => absurd (show II 0 ≤ 0 by decide) z⟩
      obtain ⟨γ, eγ⟩ : ∃ γ, γ = sI (sI υ 75 5 (II 0)) 75 6 (II (-1)) := ⟨_, rfl⟩
      rw [← eγ]
      have gE : Eqx [75] υ γ := by rw [eγ]; exact Eqx_tI (Eqx_tI (Eqx.refl _ _) (by simp)) (by simp)
      have gF : ∀ f, f ≠ 5 → f ≠ 6 → gI γ 75 f = gI υ 75 f := fun f f5 f6 => by rw [eγ, rI3 f6, rI3 f5]
      have g5 : gI γ 75 5 = II 0 := by rw [eγ, rI3 (by omega), rI1]
      have g6 : gI γ 75 6 = II (-1) := by rw [eγ, rI1]
      clear eγ e19 e20
      have g76 : ∀ i, gI γ 76 i = gI σ 76 i := fun i => by rw [Eqx_gI gE (by simp), Eqx_gI u1 (by simp [MC]), r76]
      have sgE : Eqx MC σ γ := (rE.mono (by simp [MC])).trans (u1.trans (gE.mono (by simp [MC])))
      rw [show (4 : Int32).toNatClampNeg = 4 from rfl, g76, h76]
      refine keeps_ok (A := A') (B := B') (nr := r.2.1) (ps := r.2.2) (cl := r.1) hk c5 (by omega) (by rw [gF 30 (by omega) (by omega)]; exact u11) (by rw [gF 31 (by omega) (by omega)]; exact u12) (by rw [gF 32 (by omega) (by omega)]; exact u13) (by rw [← u2]; exact (gE 92 (by simp)).symm) (by rw [← u3]; exact (gE 93 (by simp)).symm) c4 c3 (by rw [gF 35 (by omega) (by omega)]; exact u14) (PrA_eq u15 (gE 94 (by simp)).symm (gE 95 (by simp)).symm) (fun τ tE tR tO' t83 t84 => ?_)
      have t76 : ∀ i, gI τ 76 i = gI σ 76 i := fun i => by rw [Eqx_gI tE (by simp [TC]), g76]
      refine ⟨of_eq_true (I_in (a := 4) (by omega)), of_eq_true (I_in (a := 4) (by omega)), of_eq_true (I_in (a := 4) (by omega)), ?_⟩
      rw [rI1, t76, h76, show (1 : Int32) = II 1 from rfl, I_add, I_sub, show (k : Int) + 1 - 1 = (k : Int) by omega]
      obtain ⟨δ, eδ⟩ : ∃ δ, δ = sI τ 76 4 (II ((k : Int) + 1)) := ⟨_, rfl⟩
      rw [← eδ]
      have dE : Eqx [76] τ δ := by rw [eδ]; exact Eqx_tI (Eqx.refl _ _) (by simp)
      have d4 : gI δ 76 4 = II ((k : Int) + 1) := by rw [eδ, rI1]
      have dn : ∀ i, i ≠ 4 → gI δ 76 i = gI τ 76 i := fun i hi => by rw [eδ, rI3 hi]
      clear eδ
      have sg : ∀ q, 80 ≤ q → q ≤ 86 → γ q = σ q := fun q a c => (sgE q (by simp [MC]; omega)).symm
      have t75 : ∀ f, gI δ 75 f = gI γ 75 f := fun f => by rw [Eqx_gI dE (by simp), Eqx_gI tE (by simp [TC])]
      refine hS r hr (by have := hT.2.1; omega) δ (fun q hq => ?_) (RTs_eq tR (fun q a c => (dE q (by simp; omega)).symm)) (fun t ht => ?_) (by rw [Eqx_gI dE (by simp)]; exact t83) (by rw [Eqx_gI dE (by simp)]; exact t84) (fun i hi => by rw [dn i hi, t76]) d4 (by rw [t75, gF 4 (by omega) (by omega), u4 4 (by omega)]; exact r4) (by rw [t75]; exact g5) (by rw [t75]; exact g6)
      · have hn : q ∉ MC ∧ q ∉ TC ∧ q ∉ [76] := by
          rw [List.mem_cons, List.mem_append] at hq
          exact ⟨fun z => hq (Or.inr (Or.inl z)), fun z => hq (Or.inr (Or.inr z)), fun z => hq (Or.inl (List.mem_singleton.mp z))⟩
        rw [sgE q hn.1, tE q hn.2.1, dE q hn.2.2]
      · obtain ⟨x1, x2, x3⟩ := tO' t ht
        refine ⟨RWe_tr (RWe_tr (RWe_of sg) x1) (RWe_of (fun q a c => (dE q (by simp; omega)).symm)), ?_, ?_⟩
        · rw [Eqx_gI dE (by simp), x2, gI_of (sg 83 (by omega) (by omega))]
        · rw [Eqx_gI dE (by simp), x3, gI_of (sg 84 (by omega) (by omega))]
    · -- a fault
      refine ⟨1, fun υ hυ => ?_⟩
      obtain ⟨u1, u2, u3, u4, u5⟩ := hυ
      have e19 : gI (sI (sI υ 75 5 (II e.1)) 75 6 (II (tS b l e.2 : Nat))) 75 19 = II e.1 := by rw [rI3 (by omega), rI3 (by omega)]; exact u3
      have e20 : gI (sI υ 75 5 (II e.1)) 75 20 = II (tS b l e.2 : Nat) := by rw [rI3 (by omega)]; exact u4
      unfold wbX12_taste_86
      rw [u3, show (0 : Int32) = II 0 from rfl, I_eq (by omega)]
      refine ⟨fun _ => ?_, fun z => by omega⟩
      unfold wbX12_taste_179
      simp only [fe]
      rw [u3, e20, e19, show (0 : Int32) = II 0 from rfl, I_le (by omega)]
      refine ⟨fun z => by omega, fun _ => hE e he _ ?_ ?_ ?_ ?_⟩
      · exact (rE.mono (by simp [MC])).trans (Eqx_tI (Eqx_tI u1 (by simp [MC])) (by simp [MC]))
      · rw [rI3 (by omega), rI3 (by omega), u2 4 (by omega)]; exact r4
      · rw [rI3 (by omega), rI1]
      · rw [rI1]
  obtain ⟨f, hf⟩ := hgo
  exact ⟨f, hf β bR⟩
