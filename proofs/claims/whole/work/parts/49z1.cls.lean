/-! taste: the class's reading -/
/-- what the class has cut -/
def HK (σ : St) (K V S : Nat → Nat) (N : Nat) : Prop := (∀ j, j ≤ N → gI σ 44 j = II (K j) ∧ gI σ 45 j = II (S j)) ∧ (∀ j, j ≤ N → K j = 36 → gI σ 46 j = II (V j) ∧ V j ≤ 10000)
def PL (k : Nat) : List Nat := [42, 30 + 2 * k, 31 + 2 * k]
/-- fields of the reader and of the taste that stay -/
def Fx (σ υ : St) (k : Nat) : Prop := Eqx (PL k) σ υ ∧ gR υ 42 9 = some (30 + 2 * k) ∧ gI υ 42 1 = gI σ 42 1 ∧ gI υ 42 10 = gI σ 42 10 ∧ gI υ (30 + 2 * k) 2 = gI σ (30 + 2 * k) 2 ∧ gI υ (30 + 2 * k) 3 = gI σ (30 + 2 * k) 3
def CdC (υ : St) (k : Nat) (c : List Nat) : Prop := gI υ (30 + 2 * k) 1 = II (c.length : Nat) ∧ ∀ j, j < c.length → gI υ (31 + 2 * k) j = II (c.getD j 0 : Nat)
def RS (σ υ : St) (K : Nat → Nat) (k p : Nat) (c : List Nat) : Prop := Fx σ υ k ∧ gI υ 42 7 = II p ∧ gI υ 42 8 = II (K p) ∧ gI υ 42 2 = gI σ 42 2 ∧ gI υ 42 3 = gI σ 42 3 ∧ CdC υ k c
def HS (σ υ : St) (S : Nat → Nat) (N k : Nat) (e : Nat × Nat) : Prop := Fx σ υ k ∧ (∃ p, (p ≤ N ∧ 1 ≤ e.1 ∧ e.1 ≤ 5) ∧ gI υ 42 7 = II p) ∧ gI υ 42 8 = II 39 ∧ gI υ 42 2 = II e.1 ∧ gI υ 42 3 = II (S e.2) ∧ ∃ L : Nat, L ≤ 300 ∧ gI υ (30 + 2 * k) 1 = II L
/-- where a result has led -/
def Ot (σ υ : St) (K S : Nat → Nat) (N k : Nat) (c : List Nat) (r : Res) : Prop :=
  match r with
  | .inl a => RS σ υ K k a.1 (c ++ a.2)
  | .inr e => HS σ υ S N k e
theorem PL_g {σ τ : St} {k q : Nat} (h : Eqx (PL k) σ τ) (hk : k < 6) (hq : 43 ≤ q) (j : Nat) : gI τ q j = gI σ q j := Eqx_gI h (by simp [PL]; omega) j
theorem adv_ok {σ υ : St} {K V S : Nat → Nat} {N k p : Nat} {c : List Nat} {post : St → Prop} (hk : k < 6) (hT : Tk K N) (hK : HK σ K V S N) (h : RS σ υ K k p c) (hp : p < N) (hq : ∀ τ, RS σ τ K k (p + 1) c → post τ) : wpX8_advance υ post := by
  obtain ⟨⟨f1, f2, f3, f4, f5, f6⟩, h2, h3, h4, h5, h6⟩ := h
  have kp := hT.2.2 p hp
  have n3 := hT.2.1
  have j1 : gI (sI υ 42 7 (II ((p : Int) + 1))) 44 (p + 1) = II (K (p + 1)) := by rw [rI2 (by omega), PL_g f1 hk (by omega)]; exact (hK.1 (p + 1) (by omega)).1
  have jt : ((p : Int) + 1).toNat = p + 1 := by omega
  simp (disch := omega) only [wpX8_advance, h3, h2, I_lit, I_eq, fe, I_add, rI1, I_in, true_and, I_cl, jt, j1]
  refine ⟨fun z => absurd z (by omega), fun _ => ⟨fun z => absurd z (by omega), fun _ => hq _ ?_⟩⟩
  refine ⟨⟨Eqx_tI (Eqx_tI f1 (by simp [PL])) (by simp [PL]), ?_, ?_, ?_, ?_, ?_⟩, ?_, ?_, ?_, ?_, ?_, ?_⟩
  · rw [gR_sI, gR_sI]; exact f2
  · rw [rI3 (by omega), rI3 (by omega)]; exact f3
  · rw [rI3 (by omega), rI3 (by omega)]; exact f4
  · rw [rI2 (by omega), rI2 (by omega)]; exact f5
  · rw [rI2 (by omega), rI2 (by omega)]; exact f6
  · rw [rI3 (by omega), rI1]; rfl
  · rw [rI1]
  · rw [rI3 (by omega), rI3 (by omega)]; exact h4
  · rw [rI3 (by omega), rI3 (by omega)]; exact h5
  · rw [rI2 (by omega), rI2 (by omega)]; exact h6.1
  · intro j hj
    rw [rI2 (by omega), rI2 (by omega)]; exact h6.2 j hj
theorem advH_ok {σ υ : St} {S : Nat → Nat} {N k : Nat} {e : Nat × Nat} {post : St → Prop} (h : HS σ υ S N k e) (hq : post υ) : wpX8_advance υ post := by
  unfold wpX8_advance
  rw [h.2.2.1]
  exact ⟨fun _ => hq, fun z => absurd rfl z⟩
theorem fail_ok {σ υ : St} {K V S : Nat → Nat} {N k p f : Nat} {c : List Nat} {post : St → Prop} (hk : k < 6) (hT : Tk K N) (hK : HK σ K V S N) (h : RS σ υ K k p c) (hp : p ≤ N) (hc : c.length ≤ 300) (hq : ∀ τ, HS σ τ S N k (f, p) → post τ) (hf : 1 ≤ f ∧ f ≤ 5 := by omega) : wpX8_fail (II f) υ post := by
  obtain ⟨⟨f1, f2, f3, f4, f5, f6⟩, h2, h3, h4, h5, h6⟩ := h
  have n3 := hT.2.1
  have kp : K p ≤ 38 := by
    by_cases e : p = N
    · rw [e, hT.1]; omega
    · exact (hT.2.2 p (by omega)).1
  have j0 : gI (sI υ 42 2 (II f)) 42 7 = II p := by rw [rI3 (by omega)]; exact h2
  have j1 : gI (sI υ 42 2 (II f)) 45 p = II (S p) := by rw [rI2 (by omega), PL_g f1 hk (by omega)]; exact (hK.1 p hp).2
  simp (disch := omega) only [wpX8_fail, h3, I_lit, I_eq, fe, j0, I_in, true_and, I_cl, Int.toNat_natCast, j1]
  refine ⟨fun z => absurd z (by omega), fun _ => hq _ ?_⟩
  refine ⟨⟨Eqx_tI (Eqx_tI (Eqx_tI f1 (by simp [PL])) (by simp [PL])) (by simp [PL]), ?_, ?_, ?_, ?_, ?_⟩, ⟨p, ⟨hp, hf⟩, ?_⟩, ?_, ?_, ?_, c.length, hc, ?_⟩
  · rw [gR_sI, gR_sI, gR_sI]; exact f2
  · rw [rI3 (by omega), rI3 (by omega), rI3 (by omega)]; exact f3
  · rw [rI3 (by omega), rI3 (by omega), rI3 (by omega)]; exact f4
  · rw [rI2 (by omega), rI2 (by omega), rI2 (by omega)]; exact f5
  · rw [rI2 (by omega), rI2 (by omega), rI2 (by omega)]; exact f6
  · rw [rI3 (by omega), rI3 (by omega), rI3 (by omega)]; exact h2
  · rw [rI1]
  · rw [rI3 (by omega), rI3 (by omega), rI1]
  · rw [rI3 (by omega), rI1]
  · rw [rI2 (by omega), rI2 (by omega), rI2 (by omega)]; exact h6.1
theorem failH_ok {σ υ : St} {S : Nat → Nat} {N k : Nat} {e : Nat × Nat} {f : Int32} {post : St → Prop} (h : HS σ υ S N k e) (hq : post υ) : wpX8_fail f υ post := by
  unfold wpX8_fail
  rw [h.2.2.1]
  exact ⟨fun _ => hq, fun z => absurd rfl z⟩
theorem put_ok {σ υ : St} {K S : Nat → Nat} {N k x : Nat} {c : List Nat} {r : Res} {post : St → Prop} (hk : k < 6) (h : Ot σ υ K S N k c r) (hl : ∀ a, r = .inl a → (c ++ a.2).length < 300) (hq : ∀ τ, Ot σ τ K S N k c (em x r) → post τ) : ∃ k_1, gR υ 42 9 = some (30 + 2 * k_1) ∧ k_1 < 6 ∧ wpX9_put k_1 (II x) υ post := by
  have main : ∀ L : Nat, Fx σ υ k → L ≤ 300 → gI υ (30 + 2 * k) 1 = II L → (L < 300 → post (sI (sI υ (31 + 2 * k) L (II x)) (30 + 2 * k) 1 (II ((L : Int) + 1)))) → (300 ≤ L → post υ) → ∃ k_1, gR υ 42 9 = some (30 + 2 * k_1) ∧ k_1 < 6 ∧ wpX9_put k_1 (II x) υ post := by
    intro L hF hL h1 h2 h3
    refine ⟨k, hF.2.1, hk, ?_⟩
    have j : gI (sI υ (30 + 2 * k + 1) L (II x)) (30 + 2 * k) 1 = II L := by rw [rI2 (by omega)]; exact h1
    simp (disch := omega) only [wpX9_put, h1, I_lit, I_le, fe, I_in, true_and, I_cl, Int.toNat_natCast, j, I_add]
    refine ⟨fun z => h3 (by omega), fun z => ?_⟩
    have := h2 (by omega)
    rw [show 31 + 2 * k = 30 + 2 * k + 1 by omega] at this
    exact ⟨of_eq_true (I_in (by omega)), this⟩
  cases r with
  | inl a =>
    have h : RS σ υ K k a.1 (c ++ a.2) := h
    obtain ⟨hF, h2, h3, h4, h5, h6⟩ := h
    have hlt := hl a rfl
    refine main _ hF (by omega) h6.1 (fun _ => hq _ ?_) (fun z => absurd hlt (by omega))
    show RS σ _ K k a.1 (c ++ (a.2 ++ [x]))
    rw [← List.append_assoc]
    generalize c ++ a.2 = l at *
    obtain ⟨f1, f2, f3, f4, f5, f6⟩ := hF
    refine ⟨⟨Eqx_tI (Eqx_tI f1 (by simp [PL])) (by simp [PL]), ?_, ?_, ?_, ?_, ?_⟩, ?_, ?_, ?_, ?_, ?_, ?_⟩
    · rw [gR_sI, gR_sI]; exact f2
    · rw [rI2 (by omega), rI2 (by omega)]; exact f3
    · rw [rI2 (by omega), rI2 (by omega)]; exact f4
    · rw [rI3 (by omega), rI2 (by omega)]; exact f5
    · rw [rI3 (by omega), rI2 (by omega)]; exact f6
    · rw [rI2 (by omega), rI2 (by omega)]; exact h2
    · rw [rI2 (by omega), rI2 (by omega)]; exact h3
    · rw [rI2 (by omega), rI2 (by omega)]; exact h4
    · rw [rI2 (by omega), rI2 (by omega)]; exact h5
    · rw [rI1, List.length_append, List.length_singleton]; rfl
    · intro j hj
      rw [List.length_append, List.length_singleton] at hj
      rw [rI2 (by omega)]
      by_cases e : j = l.length
      · rw [e, rI1, gd_2]
      · rw [rI3 e, gd_1 _ _ _ (by omega)]; exact h6.2 j (by omega)
  | inr e =>
    have h : HS σ υ S N k e := h
    obtain ⟨hF, h2, h3, h4, h5, L, hL, h6⟩ := h
    refine main L hF hL h6 (fun z => hq _ ?_) (fun z => hq _ ⟨hF, h2, h3, h4, h5, L, hL, h6⟩)
    show HS σ _ S N k e
    obtain ⟨f1, f2, f3, f4, f5, f6⟩ := hF
    obtain ⟨p, hp, h2⟩ := h2
    refine ⟨⟨Eqx_tI (Eqx_tI f1 (by simp [PL])) (by simp [PL]), ?_, ?_, ?_, ?_, ?_⟩, ⟨p, hp, ?_⟩, ?_, ?_, ?_, L + 1, by omega, ?_⟩
    · rw [gR_sI, gR_sI]; exact f2
    · rw [rI2 (by omega), rI2 (by omega)]; exact f3
    · rw [rI2 (by omega), rI2 (by omega)]; exact f4
    · rw [rI3 (by omega), rI2 (by omega)]; exact f5
    · rw [rI3 (by omega), rI2 (by omega)]; exact f6
    · rw [rI2 (by omega), rI2 (by omega)]; exact h2
    · rw [rI2 (by omega), rI2 (by omega)]; exact h3
    · rw [rI2 (by omega), rI2 (by omega)]; exact h4
    · rw [rI2 (by omega), rI2 (by omega)]; exact h5
    · rw [rI1]; rfl
