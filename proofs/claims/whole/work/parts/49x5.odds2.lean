/-! chance: is it rare, the class -/
theorem pow72 {s n : Nat} (hs : s ≤ 72) (hn : n ≤ 72) : s ^ n ≤ 72 ^ 72 :=
  Nat.le_trans (Nat.pow_le_pow_left hs n) (Nat.pow_le_pow_right (by decide) hn)
theorem k24 : 72 ^ 72 * 1000000 < 16777216 ^ 24 := by decide +kernel
theorem cs_o0 (e n k : Nat) : cs 0 e n k = if n < k then e ^ n else 0 := by
  induction k with
  | zero => rfl
  | succ k ih =>
    show cs 0 e n k + cf 0 e n k = _
    rw [ih, cf_o0]
    by_cases c : n < k
    · rw [if_pos c, if_neg (by omega), if_pos (by omega)]; omega
    · rw [if_neg c]
      by_cases c2 : k = n
      · rw [if_pos c2, if_pos (by omega)]; omega
      · rw [if_neg c2, if_neg (by omega)]
theorem small {o e n x : Nat} (hs : o + e ≤ 72) (hn : n ≤ 72) (hx : x ≤ (o + e) ^ n) : x * 1000000 < 16777216 ^ 24 := by
  have h1 := pow72 hs hn
  have h2 := Nat.mul_le_mul_right 1000000 (Nat.le_trans hx h1)
  exact Nat.lt_of_le_of_lt h2 k24
theorem cf_at0 (o e n : Nat) : cf o e n 0 = o ^ n := by
  induction n with
  | zero => rfl
  | succ n ih => simp only [cf]; rw [ih, Nat.pow_succ]; simp
theorem rareEnd_ok {σ : St} {o e n S t : Nat} {post : Int32 → St → Prop} (h3 : gI σ 60 3 = II n) (h4 : gI σ 60 4 = II e) (h5 : gI σ 60 5 = II o) (hs : o + e ≤ 72) (hn : n ≤ 72) (ht : t ≤ 1000000) (hS : S ≤ (o + e) ^ n) (hL : LI σ 62 S)
    (hp : ∀ τ, Eqx [61, 62, 63] σ τ → post (II (if S * t ≤ (o + e) ^ n then 1 else 0)) τ) : wbX6_isRare_131 post (II t) σ := by
  unfold wbX6_isRare_131
  refine times_ok ht hL ?_
  intro τ tE tL
  have f3 : gI τ 60 3 = II n := by rw [Eqx_gI tE (by simp)]; exact h3
  rw [Eqx_gI tE (by simp), Eqx_gI tE (by simp), h4, h5, I_add, show (e : Int) + (o : Int) = ((o + e : Nat) : Int) by omega]
  refine power_ok (by omega) (by omega) f3 (by omega) ?_
  intro υ uE uL
  have b1 := small hs hn hS
  have b2 := small hs hn (Nat.le_refl _)
  have l1 := Nat.mul_le_mul_right S ht
  refine atMost_ok (x := t * S) (y := (o + e) ^ n) (fun i hi => by rw [Eqx_gI uE (by simp)]; exact tL i hi) uL (by rw [Nat.mul_comm] at b1; exact Nat.lt_of_le_of_lt l1 b1) (by omega) ?_
  rw [Nat.mul_comm t S]
  have := hp υ (Eqx.trans (Eqx.mono tE (by simp)) (Eqx.mono uE (by simp)))
  by_cases c : S * t ≤ (o + e) ^ n
  · rw [if_pos c] at this ⊢; exact ⟨Or.inr rfl, this⟩
  · rw [if_neg c] at this ⊢; exact ⟨Or.inl rfl, this⟩
theorem cisRare_ok {σ : St} {o e n f k t : Nat} {post : Int32 → St → Prop} (h3 : gI σ 60 3 = II n) (h4 : gI σ 60 4 = II e) (h5 : gI σ 60 5 = II o) (hs : o + e ≤ 72) (hn : n ≤ 72) (ht : t ≤ 1000000) (hf : f ≤ k) (hk : k ≤ n)
    (hp : ∀ τ, Eqx [61, 62, 63] σ τ → post (II (if (cs o e n (k + 1) - cs o e n f) * t ≤ (o + e) ^ n then 1 else 0)) τ) : wpX6_isRare (II f) (II k) (II t) σ post := by
  unfold wpX6_isRare
  refine zfill_ok (by omega) ?_
  intro τ tE tv
  have L0 : LI τ 62 0 := fun i hi => by rw [tv i hi, Dg_zero]; rfl
  have g3 : gI τ 60 3 = II n := by rw [Eqx_gI tE (by simp)]; exact h3
  have g4 : gI τ 60 4 = II e := by rw [Eqx_gI tE (by simp)]; exact h4
  have g5 : gI τ 60 5 = II o := by rw [Eqx_gI tE (by simp)]; exact h5
  rw [g5, g4, show (0 : Int32) = II 0 from rfl, I_eq (by omega)]
  refine ⟨fun z => ?_, fun z => ?_⟩
  · refine power_ok (by omega) (by omega) g3 (by omega) ?_
    intro υ uE uL
    have e0 : cf o e n 0 = o ^ n := cf_at0 o e n
    have key := up (P := fun g j => ∀ ω, Eqx [61, 62] υ ω → LI ω 61 (cf o e n j) → LI ω 62 (cs o e n (max f j) - cs o e n f) → wbX6_isRare_65 (wbX6_isRare_131 post) post g (II f) (II k) (II t) (II j) ω) (k + 1) ?_ ?_ 0 (by omega)
    · obtain ⟨g, hg⟩ := key
      refine ⟨g, hg υ (Eqx.refl _ _) (by rw [e0]; exact uL) ?_⟩
      rw [Nat.max_eq_left (by omega), Nat.sub_self]
      exact fun i hi => by rw [Eqx_gI uE (by simp)]; exact L0 i hi
    · intro g ω wE w1 w2
      have wE2 : Eqx [61, 62, 63] σ ω := Eqx.trans (Eqx.mono tE (by simp)) (Eqx.trans (Eqx.mono uE (by simp)) (Eqx.mono wE (by simp)))
      simp (disch := omega) only [wbX6_isRare_65, I_lt]
      refine ⟨fun _ => ?_, fun z => absurd (by omega) z⟩
      rw [Nat.max_eq_right (by omega)] at w2
      refine rareEnd_ok (by rw [Eqx_gI wE2 (by simp)]; exact h3) (by rw [Eqx_gI wE2 (by simp)]; exact h4) (by rw [Eqx_gI wE2 (by simp)]; exact h5) hs hn ht ?_ w2 (fun ρ rE => hp ρ (Eqx.trans wE2 rE))
      have := cs_le o e n (k + 1)
      omega
    · intro g j hj ih ω wE w1 w2
      have wE2 : Eqx [61, 62, 63] σ ω := Eqx.trans (Eqx.mono tE (by simp)) (Eqx.trans (Eqx.mono uE (by simp)) (Eqx.mono wE (by simp)))
      have x3 : gI ω 60 3 = II n := by rw [Eqx_gI wE2 (by simp)]; exact h3
      have nx : ∀ ρ, Eqx [62] ω ρ → LI ρ 62 (cs o e n (max f (j + 1)) - cs o e n f) → wbX6_isRare_90 (wbX6_isRare_65 (wbX6_isRare_131 post) post g) post (II f) (II k) (II t) (II j) ρ := by
        intro ρ rE rL
        have y3 : gI ρ 60 3 = II n := by rw [Eqx_gI rE (by simp)]; exact x3
        have y4 : gI ρ 60 4 = II e := by rw [Eqx_gI rE (by simp), Eqx_gI wE2 (by simp)]; exact h4
        have m1 : ((n : Int) - (j : Int)) * (e : Int) = (((n - j) * e : Nat) : Int) := by rw [Int.natCast_mul]; congr 1; omega
        have m2 : ((j : Int) + 1) * (o : Int) = (((j + 1) * o : Nat) : Int) := by rw [Int.natCast_mul]; rfl
        have b1 : (n - j) * e ≤ 72 * 72 := Nat.mul_le_mul (by omega) (by omega)
        have b2 : (j + 1) * o ≤ 73 * 72 := Nat.mul_le_mul (by omega) (by omega)
        have b3 : 0 < (j + 1) * o := Nat.mul_pos (by omega) (by omega)
        unfold wbX6_isRare_90
        rw [y3, y4, I_sub, I_mul, m1]
        refine times_ok (by omega) (fun i hi => by rw [Eqx_gI rE (by simp)]; exact w1 i hi) ?_
        intro α aE aL
        have z5 : gI α 60 5 = II o := by rw [Eqx_gI aE (by simp), Eqx_gI rE (by simp), Eqx_gI wE2 (by simp)]; exact h5
        rw [z5, show (1 : Int32) = II 1 from rfl, I_add, I_mul, m2]
        have sm1 := small hs hn (cf_le o e n j)
        have l1 := Nat.mul_le_mul_right (cf o e n j) (show (n - j) * e ≤ 1000000 by omega)
        refine over_ok ⟨b3, by omega⟩ (by rw [Nat.mul_comm] at sm1; exact Nat.lt_of_le_of_lt l1 sm1) aL ?_
        intro β bE bL
        simp only [fe]
        refine ih β ?_ ?_ (fun i hi => by rw [Eqx_gI bE (by simp), Eqx_gI aE (by simp)]; exact rL i hi)
        · exact Eqx.trans wE (Eqx.trans (Eqx.mono rE (by simp)) (Eqx.trans (Eqx.mono aE (by simp)) (Eqx.mono bE (by simp))))
        · rw [Nat.mul_comm, cf_next o e n j (by omega), Nat.mul_div_cancel _ b3] at bL
          exact bL
      simp (disch := omega) only [wbX6_isRare_65, I_lt, x3]
      refine ⟨fun z => absurd z (by omega), fun _ => ⟨fun z => absurd z (by omega), fun _ => ⟨fun q => ?_, fun q => ?_⟩⟩⟩
      · rw [Nat.max_eq_left (by omega)] at w2
        exact nx ω (Eqx.refl _ _) (by rw [Nat.max_eq_left (by omega)]; exact w2)
      · refine addTerm_ok w2 w1 ?_
        intro ρ rE rL
        refine nx ρ rE ?_
        have m1 := cs_mono o e n f (j - f)
        rw [show f + (j - f) = j by omega] at m1
        rw [Nat.max_eq_right (show f ≤ j by omega), show cs o e n j - cs o e n f + cf o e n j = cs o e n (j + 1) - cs o e n f by have : cs o e n (j + 1) = cs o e n j + cf o e n j := rfl; omega] at rL
        rw [Nat.max_eq_right (by omega)]; exact rL
  · have eo : o = 0 := by omega
    refine power_ok (by omega) (by omega) g3 (by omega) ?_
    intro υ uE uL
    have wE2 : Eqx [61, 62, 63] σ υ := Eqx.trans (Eqx.mono tE (by simp)) (Eqx.mono uE (by simp))
    have x3 : gI υ 60 3 = II n := by rw [Eqx_gI wE2 (by simp)]; exact h3
    have x4 : gI υ 60 4 = II e := by rw [Eqx_gI wE2 (by simp)]; exact h4
    have x5 : gI υ 60 5 = II o := by rw [Eqx_gI wE2 (by simp)]; exact h5
    have uL0 : LI υ 62 0 := fun i hi => by rw [Eqx_gI uE (by simp)]; exact L0 i hi
    rw [x3, I_lt (by omega), I_lt (by omega)]
    refine ⟨fun q => absurd q (by omega), fun _ => ⟨fun q => ?_, fun q => ?_⟩⟩
    · refine rareEnd_ok x3 x4 x5 hs hn ht (Nat.zero_le _) uL0 (fun ρ rE => ?_)
      have := hp ρ (Eqx.trans wE2 rE)
      rw [show cs o e n (k + 1) - cs o e n f = 0 by rw [eo, cs_o0, if_neg (by omega)]; omega] at this
      exact this
    · refine addTerm_ok uL0 uL ?_
      intro ρ rE rL
      have rE2 : Eqx [61, 62, 63] σ ρ := Eqx.trans wE2 (Eqx.mono rE (by simp))
      have en : cs o e n (k + 1) - cs o e n f = e ^ n := by rw [eo, cs_o0, cs_o0, if_pos (by omega), if_neg (by omega)]; omega
      rw [Nat.zero_add, ← en] at rL
      refine rareEnd_ok (by rw [Eqx_gI rE2 (by simp)]; exact h3) (by rw [Eqx_gI rE2 (by simp)]; exact h4) (by rw [Eqx_gI rE2 (by simp)]; exact h5) hs hn ht ?_ rL (fun α aE => hp α (Eqx.trans rE2 aE))
      have := cs_le o e n (k + 1)
      omega
