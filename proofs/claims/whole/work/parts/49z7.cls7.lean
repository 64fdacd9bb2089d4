/-! taste: a clause -/
theorem clause_ok {σ υ : St} {K V S : Nat → Nat} {N k p : Nat} {cl : Cls} {nr ps : Nat} {post : St → Prop} (hk : k < 6) (hT : Tk K N) (hK : HK σ K V S N) (h : RC σ υ K k p cl nr ps) (hp : p < N) (hc : (ccode cl).length ≤ p)
    (h1 : ¬ (K p = 14 ∨ K p = 15 ∨ K p = 0 ∨ K p = 16) → ∀ τ, HC σ τ S N k (1, p) → post τ)
    (h4 : (K p = 14 ∨ K p = 15 ∨ K p = 0 ∨ K p = 16) → (K p ≠ 15 ∧ told cl (K p) = true) → ∀ τ, HC σ τ S N k (4, p) → post τ)
    (h5 : (K p = 14 ∨ K p = 15 ∨ K p = 0 ∨ K p = 16) → ¬ (K p ≠ 15 ∧ told cl (K p) = true) → 12 ≤ cl.length → ∀ τ, HC σ τ S N k (5, p) → post τ)
    (h0 : (K p = 14 ∨ K p = 15 ∨ K p = 0 ∨ K p = 16) → ¬ (K p ≠ 15 ∧ told cl (K p) = true) → ¬ 12 ≤ cl.length → (∀ r, pCl K V p = .inl r → ∀ τ, RC σ τ K k r.1 (cl ++ [(K p, r.2)]) (if K p = 0 then V (p + 1) else nr) (if K p = 16 then V (p + 1) else ps) → (ccode (cl ++ [(K p, r.2)])).length ≤ r.1 → r.1 ≤ N → post τ) ∧ (∀ e, pCl K V p = .inr e → ∀ τ, HC σ τ S N k e → post τ))
    (hcl : cl.length ≤ 12) : wpX8_clause (II (cl.length : Nat)) υ post := by
  have n3 := hT.2.1
  have kp := hT.2.2 p hp
  have hK' := HK_x hK hk h.1
  obtain ⟨b, b1, b2, b15, b3⟩ := h.2.2.2.2.2.2.2.1
  have tb : ∀ w : Nat, w < 31 → ((II (b : Int) >>> (II (w : Int) &&& II 31)) &&& II 1 = II 1) = (b.testBit w = true) := fun w hw => I_tb1 ⟨by omega, hw⟩
  have bw : (K p = 14 ∨ K p = 15 ∨ K p = 0 ∨ K p = 16) → b.testBit (K p) = decide (K p ≠ 15 ∧ told cl (K p) = true) := fun z => by
    by_cases e : K p = 15
    · rw [e, b15, decide_eq_false (fun y => y.1 rfl)]
    · rw [b3 (K p) (by omega)]
      by_cases e2 : told cl (K p) = true
      · rw [decide_eq_true ⟨e, e2⟩]; exact e2
      · rw [decide_eq_false (fun y => e2 y.2)]; simpa using e2
  have run : (K p = 14 ∨ K p = 15 ∨ K p = 0 ∨ K p = 16) → ¬ (K p ≠ 15 ∧ told cl (K p) = true) → ¬ 12 ≤ cl.length → wbX8_clause_66 post (II (K p)) υ := by
    intro z z4 z5
    obtain ⟨q1, q2⟩ := h0 z z4 z5
    have step : ∀ b' : Nat, b' < 131072 → b'.testBit 15 = false → (∀ w, (w = 0 ∨ w = 14 ∨ w = 16) → b'.testBit w = (told cl w || K p == w)) → ∀ s0 s1 : Int32, s1 ||| s0 = II b' → wbX8_clause_93 post (II (K p)) s0 s1 υ := by
      intro b' c1 c15 c2 s0 s1 es
      unfold wbX8_clause_93
      simp only [fe]
      rw [es]
      obtain ⟨ρ, eρ⟩ : ∃ ρ, ρ = sI υ 42 10 (II (b' : Int)) := ⟨_, rfl⟩
      rw [← eρ]
      have rE : Eqx (PL k) σ ρ := by rw [eρ]; exact Eqx_tI h.1 (by simp [PL])
      have hR : RD σ ρ K k p cl nr ps b' := by
        refine ⟨rE, ?_, ?_, ?_, ?_, ?_, ?_, ⟨Eqx.refl _ _, ?_, rfl, rfl, rfl, rfl⟩, ?_, ?_, rfl, rfl, ?_, ?_⟩
        · rw [eρ, rI3 (by omega)]; exact h.2.2.1
        · rw [eρ, rI1]
        · rw [eρ, rI3 (by omega)]; exact h.2.2.2.2.2.1
        · rw [eρ, rI3 (by omega)]; exact h.2.2.2.2.2.2.1
        · rw [eρ, rI2 (by omega)]; exact h.2.2.2.2.2.2.2.2.1
        · rw [eρ, rI2 (by omega)]; exact h.2.2.2.2.2.2.2.2.2.1
        · rw [eρ, gR_sI]; exact h.2.1
        · rw [eρ, rI3 (by omega)]; exact h.2.2.2.1
        · rw [eρ, rI3 (by omega)]; exact h.2.2.2.2.1
        · rw [eρ, rI2 (by omega)]; exact h.2.2.2.2.2.2.2.2.2.2.1
        · intro j hj; rw [eρ, rI2 (by omega)]; exact h.2.2.2.2.2.2.2.2.2.2.2 j hj
      clear eρ
      refine adv_ok hk hT (HK_x hK hk rE) hR.2.2.2.2.2.2.2 hp ?_
      intro τ hτ
      rw [show (14 : Int32) = II 14 from rfl, show (15 : Int32) = II 15 from rfl, I_eq (by omega), I_eq (by omega)]
      refine ⟨fun y => ⟨fun y2 => ?_, fun y2 => ?_⟩, fun y => ?_⟩
      · exact win_ok hk hT hK hp hc hR c1 c15 c2 hτ q1 q2 (by omega) (by omega) (by omega)
      · exact bar_ok hk hT hK hp hc hR c1 c15 c2 hτ q1 q2 (by omega)
      · exact wor_ok hk hT hK hp hc hR c1 c15 c2 hτ q1 q2 (by omega)
    have o0 : II (b : Int) ||| II 0 = II (b : Int) := by
      have := I_or (a := b) (b := 0)
      rw [Nat.or_zero] at this; exact this
    unfold wbX8_clause_66
    rw [h.2.2.2.2.1, b2]
    simp (disch := omega) only [I_lit, I_eq]
    refine ⟨fun y => ?_, fun y => ⟨fun _ => ?_, fun y2 => by omega⟩⟩
    · refine step b b1 b15 (fun w hw => ?_) _ _ o0
      rw [b3 w hw]
      have : (K p == w) = false := by simp; omega
      rw [this, Bool.or_false]
    · have sh := I_shl1 (K p) (by omega)
      have tbo : ∀ i, (b ||| 2 ^ K p).testBit i = (b.testBit i || decide (i = K p)) := fun i => by
        rw [Nat.testBit_or]
        by_cases e : i = K p
        · rw [e, Nat.testBit_two_pow_self]; simp
        · rw [Nat.testBit_two_pow_of_ne (by omega)]; simp [e]
      refine step (b ||| 2 ^ K p) (Nat.or_lt_two_pow (n := 17) b1 (Nat.pow_lt_pow_right (by decide) (by omega))) (by rw [tbo, b15]; simp; omega) (fun w hw => ?_) _ _ (by rw [sh, I_or])
      rw [tbo, b3 w hw]
      congr 1
      by_cases e : w = K p
      · simp [e]
      · have : (K p == w) = false := by simp; omega
        rw [this]; simp [e]
  have c35 : (K p = 14 ∨ K p = 15 ∨ K p = 0 ∨ K p = 16) → wbX8_clause_35 (wbX8_clause_66 post) post (II (cl.length : Nat)) (II (K p)) υ := by
    intro z
    unfold wbX8_clause_35
    rw [b2, show (31 : Int32) = II 31 from rfl, show (1 : Int32) = II 1 from rfl, tb (K p) (by omega), bw z]
    refine ⟨fun y => ?_, fun y => ?_⟩
    · have y' : ¬ (K p ≠ 15 ∧ told cl (K p) = true) := fun w => y (decide_eq_true w)
      rw [show (12 : Int32) = II 12 from rfl, I_lt (by omega)]
      refine ⟨fun y2 => run z y' (by omega), fun y2 => ?_⟩
      exact clauseF_ok (f := 5) hk hT hK h (by omega) hc (by omega) (h5 z y' (by omega))
    · exact clauseF_ok (f := 4) hk hT hK h (by omega) hc (by omega) (h4 z (of_decide_eq_true y))
  simp (disch := omega) only [wpX8_clause, h.2.2.2.2.1, I_lit, I_eq, fe]
  refine ⟨fun z => c35 (by omega), fun z1 => ⟨fun z => c35 (by omega), fun z2 => ⟨fun z => c35 (by omega), fun z3 => ⟨fun z => c35 (by omega), fun z4 => ?_⟩⟩⟩⟩
  exact clauseF_ok (f := 1) hk hT hK h (by omega) hc (by omega) (h1 (by omega))
theorem rd48_ok {σ : St} {K V S : Nat → Nat} {N k : Nat} {post : Int32 → St → Prop} (hk : k < 6) (hT : Tk K N) (hK : HK σ K V S N) : ∀ f, ∀ υ p cl nr ps, cl.length ≤ 12 → 14 ≤ cl.length + f → RC σ υ K k p cl nr ps → p ≤ N → (ccode cl).length ≤ p →
    (∀ r, pAll K V f p cl nr ps = .inl r → ∀ τ q, RC σ τ K k q r.1 r.2.1 r.2.2 → post 1 (sI τ 42 1 0)) → (∀ e, pAll K V f p cl nr ps = .inr e → ∀ τ, HC σ τ S N k e → post 0 (sI τ 42 1 0)) → wbX8_read_48 k post f (II (cl.length : Nat)) υ := by
  have rdE : ∀ e τ, HC σ τ S N k e → post 0 (sI τ 42 1 0) → wbX8_read_83 k post τ := fun e τ hτ hq => by
    unfold wbX8_read_83
    simp only [fe]
    rw [rI3 (by omega), hτ.2.2.2.1, show (0 : Int32) = II 0 from rfl, I_eq (by have := hτ.2.2.2.2.2; omega)]
    exact ⟨fun _ => hq, fun z => by have := hτ.2.2.2.2.2; omega⟩
  have rdH : ∀ f i e τ, (i : Int) ≤ 13 → 0 ≤ i → HC σ τ S N k e → post 0 (sI τ 42 1 0) → wbX8_read_48 k post (f + 1) (II i) τ := fun f i e τ hi1 hi0 hτ hq => by
    have := rdE e τ hτ hq
    simp (disch := omega) only [wbX8_read_48, hτ.2.2.1, I_lit, I_lt, I_eq]
    exact ⟨fun _ => this, fun _ => ⟨fun _ => this, fun _ => ⟨fun _ => this, fun z => absurd trivial z⟩⟩⟩
  intro f
  induction f with
  | zero => intro υ p cl nr ps h1 h2; omega
  | succ f ih =>
    intro υ p cl nr ps h1 h2 h hp hc hS hE
    have k38 := Tk_le hT hp
    have ep : pAll K V (f + 1) p cl nr ps = if K p = 37 then .inl (cl, nr, ps)
      else if ¬ (K p = 14 ∨ K p = 15 ∨ K p = 0 ∨ K p = 16) then .inr (1, p)
      else if K p ≠ 15 ∧ told cl (K p) = true then .inr (4, p)
      else if 12 ≤ cl.length then .inr (5, p)
      else match pCl K V p with
        | .inl r => pAll K V f r.1 (cl ++ [(K p, r.2)]) (if K p = 0 then V (p + 1) else nr) (if K p = 16 then V (p + 1) else ps)
        | .inr e => .inr e := rfl
    rw [ep] at hS hE
    have f1 : ∃ g, f = g + 1 := ⟨f - 1, by omega⟩
    simp (disch := omega) only [wbX8_read_48, h.2.2.2.2.1, I_lit, I_lt, I_eq]
    refine ⟨fun z => by omega, fun _ => ⟨fun z => ?_, fun z => ⟨fun z2 => by omega, fun _ => ?_⟩⟩⟩
    · rw [if_pos (by omega)] at hS
      unfold wbX8_read_83
      simp only [fe]
      rw [rI3 (by omega), h.2.2.2.2.2.1]
      exact ⟨fun y => absurd rfl y, fun _ => hS _ rfl υ p h⟩
    · rw [if_neg (by omega)] at hS hE
      have hN : p ≠ N := fun e => by rw [e, hT.1] at z; omega
      have fin : ∀ e, (∀ τ, HC σ τ S N k e → post 0 (sI τ 42 1 0)) → ∀ τ, HC σ τ S N k e → wbX8_read_48 k post f (II ((cl.length : Int) + 1)) τ := fun e hq τ hτ => by
        obtain ⟨g, rfl⟩ := f1
        exact rdH g _ e τ (by omega) (by omega) hτ (hq τ hτ)
      refine clause_ok hk hT hK h (by omega) hc (fun y τ hτ => ?_) (fun y y2 τ hτ => ?_) (fun y y2 y3 τ hτ => ?_) (fun y y2 y3 => ⟨fun r er τ hτ hl hr => ?_, fun e er τ hτ => ?_⟩) h1
      · rw [if_pos y] at hE
        simp only [fe, I_add]
        exact fin _ (fun τ hτ => hE _ rfl τ hτ) τ hτ
      · rw [if_neg (fun w => w y), if_pos y2] at hE
        simp only [fe, I_add]
        exact fin _ (fun τ hτ => hE _ rfl τ hτ) τ hτ
      · rw [if_neg (fun w => w y), if_neg y2, if_pos y3] at hE
        simp only [fe, I_add]
        exact fin _ (fun τ hτ => hE _ rfl τ hτ) τ hτ
      · rw [if_neg (fun w => w y), if_neg y2, if_neg y3, er] at hS hE
        simp only [fe, I_add]
        have := ih τ r.1 (cl ++ [(K p, r.2)]) _ _ (by rw [List.length_append, List.length_singleton]; omega) (by rw [List.length_append, List.length_singleton]; omega) hτ hr hl hS hE
        rw [List.length_append, List.length_singleton] at this
        exact this
      · rw [if_neg (fun w => w y), if_neg y2, if_neg y3, er] at hE
        simp only [fe, I_add]
        exact fin _ (fun τ hτ => hE _ rfl τ hτ) τ hτ
theorem read_ok {σ : St} {K V S : Nat → Nat} {N k : Nat} {post : Int32 → St → Prop} (hk : k < 6) (hT : Tk K N)
    (hcut : ∀ υ, υ 43 = σ 43 → gI υ 42 1 = gI σ 42 1 → ∀ post : St → Prop, (∀ τ, Eqx [44, 45, 46] υ τ → HK τ K V S N → post τ) → wpX8_cut υ post)
    (hS : ∀ r, pAll K V 14 0 [] 5 50 = .inl r → ∀ τ, Eqx [42, 30 + 2 * k, 31 + 2 * k, 44, 45, 46] σ τ → gI τ 42 1 = II 0 → gI τ 42 2 = II 0 → gI τ 42 3 = II (-1) → gI τ (30 + 2 * k) 2 = II r.2.1 → gI τ (30 + 2 * k) 3 = II r.2.2 → CdC τ k (ccode r.1) → post 1 τ)
    (hE : ∀ e, pAll K V 14 0 [] 5 50 = .inr e → ∀ τ, Eqx [42, 30 + 2 * k, 31 + 2 * k, 44, 45, 46] σ τ → gI τ 42 1 = II 0 → gI τ 42 2 = II e.1 → gI τ 42 3 = II (S e.2) → 1 ≤ e.1 → post 0 τ) : wpX8_read k σ post := by
  have n3 := hT.2.1
  unfold wpX8_read
  simp only [fe, wpX9_clear]
  refine ⟨k, by rw [gR_sR, if_pos ⟨rfl, rfl⟩], hk, ?_⟩
  obtain ⟨α, eα⟩ : ∃ α, α = sI (sI (sI (sI (sI (sI (sR σ 42 9 (some (30 + 2 * k))) (30 + 2 * k) 1 0) (30 + 2 * k) 2 5) (30 + 2 * k) 3 50) 42 2 0) 42 3 (-1)) 42 10 0 := ⟨_, rfl⟩
  rw [← eα]
  have aE : Eqx [42, 30 + 2 * k, 31 + 2 * k, 44, 45, 46] σ α := by
    rw [eα]
    exact Eqx_tI (Eqx_tI (Eqx_tI (Eqx_tI (Eqx_tI (Eqx_tI (Eqx_tR (Eqx.refl _ _) (by simp)) (by simp)) (by simp)) (by simp)) (by simp)) (by simp)) (by simp)
  have a1 : gI α 42 1 = gI σ 42 1 := by rw [eα, rI3 (by omega), rI3 (by omega), rI3 (by omega), rI2 (by omega), rI2 (by omega), rI2 (by omega), gI_sR]
  have a9 : gR α 42 9 = some (30 + 2 * k) := by rw [eα, gR_sI, gR_sI, gR_sI, gR_sI, gR_sI, gR_sI, gR_sR, if_pos ⟨rfl, rfl⟩]
  have a2 : gI α 42 2 = II 0 := by rw [eα, rI3 (by omega), rI3 (by omega), rI1]; rfl
  have a3 : gI α 42 3 = II (-1) := by rw [eα, rI3 (by omega), rI1]; rfl
  have a10 : gI α 42 10 = II 0 := by rw [eα, rI1]; rfl
  have at1 : gI α (30 + 2 * k) 1 = II 0 := by rw [eα, rI2 (by omega), rI2 (by omega), rI2 (by omega), rI3 (by omega), rI3 (by omega), rI1]; rfl
  have at2 : gI α (30 + 2 * k) 2 = II 5 := by rw [eα, rI2 (by omega), rI2 (by omega), rI2 (by omega), rI3 (by omega), rI1]; rfl
  have at3 : gI α (30 + 2 * k) 3 = II 50 := by rw [eα, rI2 (by omega), rI2 (by omega), rI2 (by omega), rI1]; rfl
  refine hcut α (aE 43 (by simp; omega)).symm a1 _ ?_
  intro β bE bK
  clear eα
  refine ⟨of_eq_true (I_in (a := 0) (N := 301) (by omega)), ?_⟩
  have k0 : gI (sI β 42 7 0) 44 (0 : Int32).toNatClampNeg = II (K 0) := by
    rw [show (0 : Int32).toNatClampNeg = 0 from rfl, rI2 (by omega)]; exact (bK.1 0 (by omega)).1
  rw [k0]
  obtain ⟨γ, eγ⟩ : ∃ γ, γ = sI (sI β 42 7 0) 42 8 (II (K 0)) := ⟨_, rfl⟩
  rw [← eγ]
  have gE : Eqx [42] β γ := by rw [eγ]; exact Eqx_tI (Eqx_tI (Eqx.refl _ _) (by simp)) (by simp)
  have gA : Eqx [42, 30 + 2 * k, 31 + 2 * k, 44, 45, 46] σ γ := Eqx.trans aE (Eqx.trans (Eqx.mono bE (by simp)) (Eqx.mono gE (by simp)))
  have hKγ : HK γ K V S N := ⟨fun j hj => by rw [Eqx_gI gE (by simp), Eqx_gI gE (by simp)]; exact bK.1 j hj, fun j hj h36 => by rw [Eqx_gI gE (by simp)]; exact bK.2 j hj h36⟩
  have rc : RC γ γ K k 0 [] 5 50 := by
    refine ⟨Eqx.refl _ _, ?_, rfl, ?_, ?_, ?_, ?_, ⟨0, by omega, ?_, by decide, fun w hw => ?_⟩, ?_, ?_, ?_, ?_⟩
    · rw [eγ, gR_sI, gR_sI, Eqx_gR bE (by simp)]; exact a9
    · rw [eγ, rI3 (by omega), rI1]; rfl
    · rw [eγ, rI1]
    · rw [eγ, rI3 (by omega), rI3 (by omega), Eqx_gI bE (by simp)]; exact a2
    · rw [eγ, rI3 (by omega), rI3 (by omega), Eqx_gI bE (by simp)]; exact a3
    · rw [eγ, rI3 (by omega), rI3 (by omega), Eqx_gI bE (by simp)]; exact a10
    · simp [told]
    · rw [eγ, rI2 (by omega), rI2 (by omega), Eqx_gI bE (by simp; omega)]; exact at2
    · rw [eγ, rI2 (by omega), rI2 (by omega), Eqx_gI bE (by simp; omega)]; exact at3
    · rw [eγ, rI2 (by omega), rI2 (by omega), Eqx_gI bE (by simp; omega)]; exact at1
    · intro j hj; exact absurd hj (by simp [ccode])
  refine ⟨14, rd48_ok hk hT hKγ 14 γ 0 [] 5 50 (by simp) (by simp) rc (by omega) (by simp [ccode]) ?_ ?_⟩
  · intro r er τ q hτ
    obtain ⟨x1, x2, x3, x4, x5, x6, x7, x8, x9, x10, x11⟩ := hτ
    refine hS r er _ (Eqx_tI (Eqx.trans gA (Eqx.mono x1 (by simp [PL]))) (by simp)) rI1 ?_ ?_ ?_ ?_ ⟨?_, fun j hj => ?_⟩
    · rw [rI3 (by omega)]; exact x6
    · rw [rI3 (by omega)]; exact x7
    · rw [rI2 (by omega)]; exact x9
    · rw [rI2 (by omega)]; exact x10
    · rw [rI2 (by omega)]; exact x11.1
    · rw [rI2 (by omega)]; exact x11.2 j hj
  · intro e er τ hτ
    obtain ⟨x1, x2, x3, x4, x5, x6, x7⟩ := hτ
    refine hE e er _ (Eqx_tI (Eqx.trans gA (Eqx.mono x1 (by simp [PL]))) (by simp)) rI1 ?_ ?_ x6
    · rw [rI3 (by omega)]; exact x4
    · rw [rI3 (by omega)]; exact x5
