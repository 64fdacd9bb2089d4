/-! taste: the reference's next, whole -/
theorem next_ok {υ : St} {b : Nat → Nat} {l q : Nat} {post : St → Prop} (hb : BR υ b l) (h15 : gI υ 75 15 = II q) (hql : q ≤ l) (hq : ∀ ρ, Nf υ ρ → TQ ρ b l (rE isBl b l q) → post ρ) : wpX12_next υ post := by
  have l3 := hb.1
  obtain ⟨r1, r2, r3, r4⟩ := rE_b (P := isBl) (b := b) (l := l) _ q rfl hql
  obtain ⟨e, he⟩ : ∃ e, e = rE isBl b l q := ⟨_, rfl⟩
  rw [← he] at r1 r2 r3 r4 hq
  have key := up (P := fun f i => q ≤ i → ∀ α, Nf υ α → gI α 75 15 = II i → wbX12_next_0 post f α) e ?_ ?_ q r1
  · obtain ⟨f, hf⟩ := key
    exact ⟨f, hf (Nat.le_refl _) υ ⟨Eqx.refl _ _, fun _ _ => rfl⟩ h15⟩
  · intro f _ α aN a15
    have aB := Nf_B aN hb
    have done : wbX12_next_52 post α := n52_ok hb aN a15 r2 hq
    unfold wbX12_next_0
    rw [a15, aB.2.1, I_le (by omega)]
    refine ⟨fun _ => done, fun y => ?_⟩
    have c := aB.2.2 e (by omega)
    have bf := r3 (by omega)
    have nb : ¬ (b e = 32 ∨ b e = 10) := fun z => by rw [(isBl_iff _).mpr z] at bf; exact absurd bf (by decide)
    have x32 := (xb_b c.2).2.2.1 32 (by omega)
    have x10 := (xb_b c.2).2.2.1 10 (by omega)
    have xx := xb_b c.2
    rw [I_cl (by omega), Int.toNat_natCast, c.1, show (32 : Int32) = II ((32 : Nat) : Int) from rfl, I_eq (by omega), show (10 : Int32) = II ((10 : Nat) : Int) from rfl, I_eq (by omega)]
    exact ⟨of_eq_true (I_in (by omega)), fun v => absurd (Or.inl (x32.mp v)) nb, fun _ => ⟨of_eq_true (I_in (by omega)), fun _ => done, fun v => absurd (Or.inr (x10.mp v)) nb⟩⟩
  · intro f i hi ih hle α aN a15
    have aB := Nf_B aN hb
    have c := aB.2.2 i (by omega)
    have bt := (isBl_iff _).mp (r4 i hle hi)
    have x32 := (xb_b c.2).2.2.1 32 (by omega)
    have x10 := (xb_b c.2).2.2.1 10 (by omega)
    have xx := xb_b c.2
    have nx : wbX12_next_39 (wbX12_next_0 post f) post α := by
      unfold wbX12_next_39
      simp only [fe]
      rw [a15, show (1 : Int32) = II 1 from rfl, I_add]
      exact ih (by omega) _ (Nf_s aN (by omega)) rI1
    unfold wbX12_next_0
    rw [a15, aB.2.1, I_le (by omega)]
    refine ⟨fun y => by omega, fun _ => ?_⟩
    rw [I_cl (by omega), Int.toNat_natCast, c.1, show (32 : Int32) = II ((32 : Nat) : Int) from rfl, I_eq (by omega), show (10 : Int32) = II ((10 : Nat) : Int) from rfl, I_eq (by omega)]
    refine ⟨of_eq_true (I_in (by omega)), fun _ => nx, fun v => ⟨of_eq_true (I_in (by omega)), fun u => ?_, fun _ => nx⟩⟩
    rcases bt with w | w
    · exact absurd (x32.mpr w) v
    · exact absurd (x10.mpr w) u
theorem TQ_TA {τ : St} {b : Nat → Nat} {l p : Nat} (h : TQ τ b l (tS b l p)) : TA τ (tK b l) (tV b l) (tS b l) (tE b l) p := by
  obtain ⟨h1, h2, h3⟩ := h
  have sl := (ps_b (b := b) (l := l) p).2.2.1
  by_cases c : tS b l p < l
  · obtain ⟨a1, a2, a3, a4⟩ := h2 c
    have ek : tK b l p = kdT b l (tS b l p) := by unfold tK; rw [if_pos c]
    have ee : tE b l p = edT b l (tS b l p) := by unfold tE; rw [if_pos c]
    exact ⟨by rw [ek]; exact a1, fun y => by rw [ek]; exact a2 (by rw [← ek]; exact y), fun y => a3 (by rw [← ek]; exact y), h1, by rw [ee]; exact a4⟩
  · have e : tS b l p = l := Nat.le_antisymm sl (Nat.le_of_not_lt c)
    obtain ⟨a1, a2⟩ := h3 e
    have ek : tK b l p = 37 := by unfold tK; rw [if_neg c]
    have ee : tE b l p = l := by unfold tE; rw [if_neg c]
    exact ⟨by rw [ek]; exact a1, fun y => by rw [ek] at y; exact absurd y (by decide), fun y => by rw [ek] at y; exact absurd y (by decide), h1, by rw [ee]; exact a2⟩
theorem RA_nf {σ υ τ : St} {K V S E : Nat → Nat} {st p p' o : Nat} {fr : List (Nat × Int)} {ws L : List (Nat × Nat)} (h : RA σ υ K V S E st p fr ws o L) (hN : Nf υ τ) (ht : TA τ K V S E p') : RA σ τ K V S E st p' fr ws o L := by
  obtain ⟨h1, h2, h3, h4, h5, h6, h7, h8, h9, h10, h11, h12, -⟩ := h
  have ge : ∀ q, q ≠ 75 → τ q = υ q := fun q a => (hN.1 q (by simp; omega)).symm
  have g : ∀ f, f < 15 ∨ 18 < f → gI τ 75 f = gI υ 75 f := hN.2
  refine ⟨fun q hq => ?_, fun f hf => by rw [g f (by omega)]; exact h2 f hf, by rw [g 19 (by omega)]; exact h3, by rw [g 20 (by omega)]; exact h4, by rw [g 21 (by omega)]; exact h5, by rw [g 22 (by omega)]; exact h6, by rw [g 26 (by omega)]; exact h7, by rw [g 29 (by omega)]; exact h8, by rw [g 35 (by omega)]; exact h9, FrA_eq h10 (fun q a b => ge q (by omega)), PrA_eq h11 (ge 90 (by omega)) (ge 91 (by omega)), PrA_eq h12 (ge 94 (by omega)) (ge 95 (by omega)), ht⟩
  rw [h1 q hq, ge q (fun z => hq (by rw [z]; simp [ML]))]
theorem NX_ok {σ : St} {b : Nat → Nat} {l N : Nat} (hb : BR σ b l) (hN : ∀ j, j < N → tS b l j < l) : NX σ (tK b l) (tV b l) (tS b l) (tE b l) N := by
  intro υ st p o fr ws L post hp h hq
  have tl := hN p hp
  have e79 : υ 79 = σ 79 := (h.1 79 (by simp [ML])).symm
  have bu : BR υ b l := ⟨hb.1, by rw [h.2.1 14 (by omega)]; exact hb.2.1, fun j hj => by rw [gI_of e79]; exact hb.2.2 j hj⟩
  have t5 : gI υ 75 15 = II (tE b l p : Nat) := h.2.2.2.2.2.2.2.2.2.2.2.2.2.2.2.2
  have ee : tE b l p = ps' b l (p + 1) := by
    show _ = if tS b l p < l then edT b l (tS b l p) else l
    unfold tE; rfl
  refine next_ok bu t5 (by rw [ee]; exact (ps_b (p + 1)).1) (fun ρ n1 n2 => hq ρ (RA_nf h n1 (TQ_TA ?_)))
  rw [ee] at n2
  exact n2
