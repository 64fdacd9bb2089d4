def sb (p s x : Int) (c : Nat) : Bool := decide ((p = -1 ∨ p = (c : Int) / 4) ∧ (s = -1 ∨ s = (c : Int) / 2 - (c : Int) / 2 / 2 * 2) ∧ (x = -1 ∨ x = (c : Int) - (c : Int) / 2 * 2))
noncomputable def toG (G : GV) (Y : Nat) (p s x a : Int) (N c : Nat) : Int := sm (fun c => if sb p s x c then inG G Y a c N else 0) c
theorem cgiven_ok {σ : St} {m : MT} {G : GV} {y p s x a : Int} {post : Int32 → St → Prop} (h1 : gI σ 1 0 = II (m 1)) (w1 : 0 ≤ m 1 ∧ m 1 ≤ 16) (hG : GC G) (hy : -40 ≤ y ∧ y ≤ 60) (ha : -1 ≤ a ∧ a ≤ 16) (hp : -1 ≤ p ∧ p ≤ 2) (hs : -1 ≤ s ∧ s ≤ 1) (hx : -1 ≤ x ∧ x ≤ 1)
    (hr : 0 ≤ y → Rows σ 0 G (y.toNat + 1)) (hg : y < 0 → ∀ c, c < 12 → ∀ n : Nat, (n : Int) < m 1 → gI σ 10 (((y + 40).toNat * 12 + c) * 16 + n) = II (G (y + 40).toNat c n))
    (hk : post (II (toG G (y + 40).toNat p s x a (m 1).toNat 12)) σ) : ∃ f, wbX11_given_74 post f (II y) (II p) (II s) (II x) (II a) 0 0 σ := by
  refine up (P := fun f c => wbX11_given_74 post f (II y) (II p) (II s) (II x) (II a) (II (toG G (y + 40).toNat p s x a (m 1).toNat c)) (II c) σ) 12 ?_ ?_ 0 (by omega)
  · intro f
    unfold wbX11_given_74
    simp (disch := omega) only [I_lit, I_le]
    exact ⟨fun _ => hk, fun z => absurd (by omega) z⟩
  · intro f c hc ih
    have es : toG G (y + 40).toNat p s x a (m 1).toNat (c + 1) = toG G (y + 40).toNat p s x a (m 1).toNat c + (if sb p s x c then inG G (y + 40).toNat a c (m 1).toNat else 0) := rfl
    rw [es] at ih
    have go : ∀ b : Bool, b = sb p s x c → ∃ g, wbX11_given_128 (wbX11_given_74 post f) post g (II y) (II p) (II s) (II x) (II a) (II (toG G (y + 40).toNat p s x a (m 1).toNat c)) (II c) (II (bI b)) 0 σ := by
      intro b hb
      rw [← hb] at ih
      exact cgiven_in h1 w1 hG hy ha hc hr (fun z => hg z c hc) ih
    unfold wbX11_given_74 wpX4_placeOf wpX4_standingOf wpX4_sexOf
    simp (disch := omega) only [I_lit, I_le, I_div, I_mul, I_sub]
    refine ⟨fun q => absurd q (by omega), fun _ => ?_⟩
    refine isOrAll_ok (by omega) (fun q1 => ?_) (fun q1 => ?_)
    · refine ⟨fun z => absurd z (by decide), fun _ => isOrAll_ok (by omega) (fun q2 => ?_) (fun q2 => ?_)⟩
      · refine ⟨fun z => absurd z (by decide), fun _ => isOrAll_ok (by omega) (fun q3 => ?_) (fun q3 => ?_)⟩
        · exact ⟨fun z => absurd z (by decide), fun _ => go true (decide_eq_true ⟨q1, q2, q3⟩).symm⟩
        · exact ⟨fun _ => go false (decide_eq_false (fun z => q3 z.2.2)).symm, fun z => absurd rfl z⟩
      · exact ⟨fun _ => go false (decide_eq_false (fun z => q2 z.2.1)).symm, fun z => absurd rfl z⟩
    · exact ⟨fun _ => go false (decide_eq_false (fun z => q1 z.1)).symm, fun z => absurd rfl z⟩
theorem rgiven_ok {σ : St} {m : MT} {G : GV} {y p s x a : Int} {post : Int32 → St → Prop} (hR : RG σ G) (hm : RM σ m) (w1 : 0 ≤ m 1 ∧ m 1 ≤ 16) (hy : -40 ≤ y ∧ y ≤ 60) (ha : -1 ≤ a ∧ a ≤ 16) (hp : -1 ≤ p ∧ p ≤ 2) (hs : -1 ≤ s ∧ s ≤ 1) (hx : -1 ≤ x ∧ x ≤ 1)
    (hk : post (II (toG G (y + 40).toNat p s x a (m 1).toNat 12)) σ) : wpX12_sumOf (II y) (II p) (II s) (II x) (II a) σ post := by
  unfold wpX12_sumOf
  refine up (P := fun f c => wbX12_sumOf_6 post f (II y) (II p) (II s) (II x) (II a) (II (toG G (y + 40).toNat p s x a (m 1).toNat c)) (II c) σ) 12 ?_ ?_ 0 (by omega)
  · intro f
    unfold wbX12_sumOf_6
    simp (disch := omega) only [I_lit, I_le]
    exact ⟨fun _ => hk, fun z => absurd (by omega) z⟩
  · intro f c hc ih
    have es : toG G (y + 40).toNat p s x a (m 1).toNat (c + 1) = toG G (y + 40).toNat p s x a (m 1).toNat c + (if sb p s x c then inG G (y + 40).toNat a c (m 1).toNat else 0) := rfl
    rw [es] at ih
    have go : ∀ b : Bool, b = sb p s x c → ∃ g, wbX12_sumOf_66 (wbX12_sumOf_6 post f) post g (II y) (II p) (II s) (II x) (II a) (II (toG G (y + 40).toNat p s x a (m 1).toNat c)) (II c) (II (bI b)) (II 0) σ := by
      intro b hb
      rw [← hb] at ih
      exact rgiven_in hR hm w1 hy ha hc ih
    have go1 : sb p s x c = true → ∃ g, wbX12_sumOf_66 (wbX12_sumOf_6 post f) post g (II y) (II p) (II s) (II x) (II a) (II (toG G (y + 40).toNat p s x a (m 1).toNat c)) (II c) (II 1) (II 0) σ := fun z => go true z.symm
    have go0 : sb p s x c = false → ∃ g, wbX12_sumOf_66 (wbX12_sumOf_6 post f) post g (II y) (II p) (II s) (II x) (II a) (II (toG G (y + 40).toNat p s x a (m 1).toNat c)) (II c) (II 0) (II 0) σ := fun z => go false z.symm
    have z41 : (p = -1 ∨ p = (c : Int) / 4) → (s = -1 ∨ s = (c : Int) / 2 - (c : Int) / 2 / 2 * 2) → wbX12_sumOf_41 (fun v1 v2 v3 v4 v5 v6 v7 v8 v9 σ => ∃ m_66, wbX12_sumOf_66 (wbX12_sumOf_6 post f) post m_66 v1 v2 v3 v4 v5 v6 v7 v8 v9 σ) post (II y) (II p) (II s) (II x) (II a) (II (toG G (y + 40).toNat p s x a (m 1).toNat c)) (II c) σ := by
      intro q1 q2
      unfold wbX12_sumOf_41
      simp (disch := omega) only [I_lit, I_neg, I_eq, I_div, I_mul, I_sub]
      refine ⟨fun q => go1 (decide_eq_true ⟨q1, q2, Or.inl q⟩), fun q => ⟨fun q3 => go0 (decide_eq_false (fun z => ?_)), fun q3 => go1 (decide_eq_true ⟨q1, q2, Or.inr q3.symm⟩)⟩⟩
      rcases z.2.2 with z1 | z1
      · exact q z1
      · exact q3 z1.symm
    have z26 : (p = -1 ∨ p = (c : Int) / 4) → wbX12_sumOf_26 (fun v1 v2 v3 v4 v5 v6 v7 v8 v9 σ => ∃ m_66, wbX12_sumOf_66 (wbX12_sumOf_6 post f) post m_66 v1 v2 v3 v4 v5 v6 v7 v8 v9 σ) post (II y) (II p) (II s) (II x) (II a) (II (toG G (y + 40).toNat p s x a (m 1).toNat c)) (II c) σ := by
      intro q1
      unfold wbX12_sumOf_26
      simp (disch := omega) only [I_lit, I_neg, I_eq, I_div, I_mul, I_sub]
      refine ⟨fun q => z41 q1 (Or.inl q), fun q => ⟨fun q3 => go0 (decide_eq_false (fun z => ?_)), fun q3 => z41 q1 (Or.inr q3.symm)⟩⟩
      rcases z.2.1 with z1 | z1
      · exact q z1
      · exact q3 z1.symm
    unfold wbX12_sumOf_6
    simp (disch := omega) only [I_lit, I_neg, I_le, I_eq, I_div]
    refine ⟨fun q => absurd q (by omega), fun _ => ⟨fun q => z26 (Or.inl q), fun q => ⟨fun q3 => go0 (decide_eq_false (fun z => ?_)), fun q3 => z26 (Or.inr q3.symm)⟩⟩⟩
    rcases z.1 with z1 | z1
    · exact q z1
    · exact q3 z1.symm
