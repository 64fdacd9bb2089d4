theorem greater_ok {σ : St} {a b : Int} {post : Int32 → St → Prop} (h : -2147483648 ≤ a ∧ a < 2147483648 ∧ -2147483648 ≤ b ∧ b < 2147483648) (hp : post (II (max a b)) σ) : wpX12_greater (II a) (II b) σ post := by
  simp (disch := omega) only [wpX12_greater, I_le]
  refine ⟨fun c => ?_, fun c => ?_⟩
  · rwa [show max a b = b by omega] at hp
  · rwa [show max a b = a by omega] at hp
theorem lesser_ok {σ : St} {a b : Int} {post : Int32 → St → Prop} (h : -2147483648 ≤ a ∧ a < 2147483648 ∧ -2147483648 ≤ b ∧ b < 2147483648) (hp : post (II (min a b)) σ) : wpX12_lesser (II a) (II b) σ post := by
  simp (disch := omega) only [wpX12_lesser, I_le]
  refine ⟨fun c => ?_, fun c => ?_⟩
  · rwa [show min a b = b by omega] at hp
  · rwa [show min a b = a by omega] at hp
def LQ (σ : St) (G : GV) (m : MT) (T : TT) (Y s n t : Nat) : Prop :=
  (∀ p, p < 3 → gI σ 105 (48 * s + 16 * p + n) = II (rg (gy G p n) ((Y : Int) - nrT T t + 1).toNat Y)) ∧
  (∀ q, q < 2 → gI σ 106 (32 * s + 16 * q + n) = II (rg (gy G (3 + q) n) ((Y : Int) - nrT T t + 1).toNat Y)) ∧
  gI σ 107 (16 * s + n) = II (rg (gy G 6 n) ((Y : Int) - m 6 + 1).toNat ((Y : Int) - psT T t + 1).toNat)
def LSo (σ τ : St) (s n : Nat) : Prop :=
  (∀ s', s' < 2 → ∀ p, p < 3 → ∀ n', n' < 16 → (s' ≠ s ∨ n' ≠ n) → gI τ 105 (48 * s' + 16 * p + n') = gI σ 105 (48 * s' + 16 * p + n')) ∧
  (∀ s', s' < 2 → ∀ q, q < 2 → ∀ n', n' < 16 → (s' ≠ s ∨ n' ≠ n) → gI τ 106 (32 * s' + 16 * q + n') = gI σ 106 (32 * s' + 16 * q + n')) ∧
  (∀ s', s' < 2 → ∀ n', n' < 16 → (s' ≠ s ∨ n' ≠ n) → gI τ 107 (16 * s' + n') = gI σ 107 (16 * s' + n'))
theorem LSo.trans {σ τ υ : St} {s n : Nat} (h : LSo σ τ s n) (h2 : LSo τ υ s n) : LSo σ υ s n :=
  ⟨fun s' a p b n' c d => (h2.1 s' a p b n' c d).trans (h.1 s' a p b n' c d), fun s' a p b n' c d => (h2.2.1 s' a p b n' c d).trans (h.2.1 s' a p b n' c d), fun s' a n' c d => (h2.2.2 s' a n' c d).trans (h.2.2 s' a n' c d)⟩
theorem LSo.refl (σ : St) (s n : Nat) : LSo σ σ s n := ⟨fun _ _ _ _ _ _ _ => rfl, fun _ _ _ _ _ _ _ => rfl, fun _ _ _ _ _ => rfl⟩
theorem laysOf_ok {σ : St} {G : GV} {m : MT} {T : TT} {y s n t : Nat} {post : St → Prop} (hG : RG σ G) (hM : RM σ m) (h6 : 20 ≤ m 6 ∧ m 6 ≤ 90) (h104 : gI σ 104 s = II t) (ht : t < 6) (h83 : gI σ 83 t = II (nrT T t)) (h84 : gI σ 84 t = II (psT T t)) (hnr : 1 ≤ nrT T t ∧ nrT T t ≤ 20) (hps : 1 ≤ psT T t ∧ psT T t ≤ 60) (hs : s < 2) (hn : n < 16) (hy : y ≤ 60)
    (hp : ∀ τ, Eqx [105, 106, 107] σ τ → LQ τ G m T (40 + y) s n t → LSo σ τ s n → post τ) : wpX12_laysOf (II y) (II s) (II n) σ post := by
  have e6 : gI σ 76 6 = II (m 6) := hM 6
  simp (disch := omega) only [wpX12_laysOf, I_in, true_and, fe, I_cl, Int.toNat_natCast, h104]
  have key := up (P := fun f i => ∀ τ : St, Eqx [105, 106, 107] σ τ → LSo σ τ s n → (∀ p, p < i → gI τ 105 (48 * s + 16 * p + n) = II 0) → wbX12_laysOf_11 post f (II y) (II s) (II n) (II t) (II i) τ) 3 ?_ ?_ 0 (by omega)
  · obtain ⟨f, hf⟩ := key
    exact ⟨f, hf σ (Eqx.refl _ _) (LSo.refl _ _ _) (fun p hp => absurd hp (by omega))⟩
  · intro f τ hE hO h0
    simp (disch := omega) only [wbX12_laysOf_11, I_lit, I_le, I_in, true_and, fe, I_cl, I_mul, I_add, I_sub, I_neg, Int.toNat_natCast, rI2]
    refine ⟨fun _ => ?_, fun z => absurd (by omega) z⟩
    rw [show (32 * (s : Int) + n).toNat = 32 * s + 16 * 0 + n by omega, show (32 * (s : Int) + 16 + n).toNat = 32 * s + 16 * 1 + n by omega, Eqx_gI hE (by simp), h83]
    simp only [I_sub, I_add]
    refine greater_ok (by omega) ?_
    have ea : max (-40) ((y : Int) - nrT T t + 1) = (((((40 + y : Nat) : Int) - nrT T t + 1).toNat : Nat) : Int) - 40 := by omega
    rw [ea]
    generalize hA : (((40 + y : Nat) : Int) - nrT T t + 1).toNat = A at *
    have hAY : A ≤ 40 + y := by omega
    have key2 := up (P := fun f Z => A ≤ Z → ∀ υ : St, Eqx [105, 106, 107] σ υ → LSo σ υ s n → (∀ p, p < 3 → gI υ 105 (48 * s + 16 * p + n) = II (rg (gy G p n) A Z)) → (∀ q, q < 2 → gI υ 106 (32 * s + 16 * q + n) = II (rg (gy G (3 + q) n) A Z)) → wbX12_laysOf_86 post f (II y) (II s) (II n) (II t) (II ((Z : Int) - 40)) υ) (40 + y) ?_ ?_ A hAY
    · obtain ⟨f, hf⟩ := key2
      refine ⟨f, hf (Nat.le_refl _) _ (Eqx_tI (Eqx_tI hE (by simp)) (by simp)) (hO.trans ⟨fun s' a p b n' c d => ?_, fun s' a q b n' c d => ?_, fun s' a n' c d => ?_⟩) (fun p hp => ?_) (fun q hq => ?_)⟩
      · rw [rI2 (by omega), rI2 (by omega)]
      · rw [rI3 (by omega), rI3 (by omega)]
      · rw [rI2 (by omega), rI2 (by omega)]
      · rw [rI2 (by omega), rI2 (by omega), h0 p hp, rg_nil (Nat.le_refl _)]
      · rw [rg_nil (Nat.le_refl _)]
        by_cases e : q = 1
        · subst e; rw [rI1]
        · have : q = 0 := by omega
          subst this; rw [rI3 (by omega), rI1]
    · intro f _ υ uE uO u1 u2
      have u6 : gI υ 76 6 = II (m 6) := by rw [Eqx_gI uE (by simp)]; exact e6
      simp (disch := omega) only [wbX12_laysOf_86, I_lit, I_le, I_in, true_and, I_cl, Int.reduceToNat, u6, I_sub, I_add, I_neg]
      refine ⟨fun _ => ?_, fun z => absurd (by omega) z⟩
      refine greater_ok (by omega) ?_
      have eb : max (-40) ((y : Int) - m 6 + 1) = (((((40 + y : Nat) : Int) - m 6 + 1).toNat : Nat) : Int) - 40 := by omega
      rw [eb]
      have uG : RG υ G := RG_eq hG (fun q h1 h2 => (uE q (by simp; omega)).symm)
      have hB0 : (((40 + y : Nat) : Int) - m 6 + 1).toNat ≤ 40 + y := by omega
      have hC0 : (((40 + y : Nat) : Int) - psT T t + 1).toNat ≤ 40 + y := by omega
      have hC1 : (y : Int) - psT T t = (((40 + y : Nat) : Int) - psT T t + 1).toNat - 41 ∨ (y : Int) - psT T t < -40 ∧ (((40 + y : Nat) : Int) - psT T t + 1).toNat = 0 := by omega
      have hfin : ∀ υ', υ' = sI υ 107 (16 * s + n) (II (rg (gy G 6 n) (((40 + y : Nat) : Int) - m 6 + 1).toNat (((40 + y : Nat) : Int) - psT T t + 1).toNat)) → post υ' := by
        intro υ' e
        subst e
        refine hp _ (Eqx_tI uE (by simp)) ⟨fun p hp => ?_, fun q hq => ?_, rI1⟩ (uO.trans ⟨fun s' a p b n' c d => ?_, fun s' a q b n' c d => ?_, fun s' a n' c d => ?_⟩)
        · rw [rI2 (by omega), u1 p hp, hA]
        · rw [rI2 (by omega), u2 q hq, hA]
        · rw [rI2 (by omega)]
        · rw [rI2 (by omega)]
        · rw [rI3 (by omega)]
      generalize (((40 + y : Nat) : Int) - m 6 + 1).toNat = B at *
      generalize (((40 + y : Nat) : Int) - psT T t + 1).toNat = C at *
      have u84 : gI υ 84 t = II (psT T t) := by rw [Eqx_gI uE (by simp)]; exact h84
      have key3 := up (P := fun f Z => B ≤ Z → wbX12_laysOf_239 post f (II y) (II s) (II n) (II t) (II (rg (gy G 6 n) B Z)) (II ((Z : Int) - 40)) υ) (max B C) ?_ ?_ B (by omega)
      · obtain ⟨f, hf⟩ := key3
        have := hf (Nat.le_refl _)
        rw [rg_nil (Nat.le_refl _)] at this
        exact ⟨f, this⟩
      · intro f _
        simp (disch := omega) only [wbX12_laysOf_239, I_in, true_and, I_cl, Int.toNat_natCast, u84, I_sub, I_lt, fe, I_lit, I_mul, I_add]
        refine ⟨fun _ => ?_, fun z => absurd (by omega) z⟩
        rw [show (16 * (s : Int) + n).toNat = 16 * s + n by omega]
        refine hfin _ ?_
        by_cases c : B ≤ C
        · rw [Nat.max_eq_right c]
        · rw [Nat.max_eq_left (by omega), rg_nil (Nat.le_refl _), rg_nil (by omega)]
      · intro f Z hZ ih hBZ
        simp (disch := omega) only [wbX12_laysOf_239, I_in, true_and, I_cl, Int.toNat_natCast, u84, I_sub, I_lt, fe, I_lit, I_mul, I_add]
        refine ⟨fun z => absurd z (by omega), fun _ => ?_⟩
        refine all_ok uG hn (by omega) ?_
        rw [if_neg (by omega), show ((Z : Int) - 40 + 40).toNat = Z by omega, I_add, show (Z : Int) - 40 + 1 = ((Z + 1 : Nat) : Int) - 40 by omega]
        have := ih (by omega)
        rw [rg_succ hBZ] at this
        exact this
    · intro f Z hZ ih hAZ υ uE uO u1 u2
      have uG : RG υ G := RG_eq hG (fun q h1 h2 => (uE q (by simp; omega)).symm)
      simp (disch := omega) only [wbX12_laysOf_86, I_lit, I_le]
      refine ⟨fun z => absurd z (by omega), fun _ => ?_⟩
      have key3 := up (P := fun g i => ∀ ω : St, Eqx [105, 106, 107] σ ω → LSo σ ω s n → (∀ p, p < 3 → gI ω 105 (48 * s + 16 * p + n) = II (rg (gy G p n) A (if p < i then Z + 1 else Z))) → (∀ q, q < 2 → gI ω 106 (32 * s + 16 * q + n) = II (rg (gy G (3 + q) n) A Z)) → wbX12_laysOf_95 (wbX12_laysOf_86 post f) post g (II y) (II s) (II n) (II t) (II ((Z : Int) - 40)) (II i) ω) 3 ?_ ?_ 0 (by omega)
      · obtain ⟨g, hg⟩ := key3
        exact ⟨g, hg υ uE uO (fun p hp => by rw [u1 p hp, if_neg (by omega)]) u2⟩
      · intro g ω wE wO w1 w2
        have wG : RG ω G := RG_eq hG (fun q h1 h2 => (wE q (by simp; omega)).symm)
        simp (disch := omega) only [wbX12_laysOf_95, I_lit, I_le, I_in, true_and, fe, I_cl, I_mul, I_add, rI2]
        refine ⟨fun _ => ?_, fun z => absurd (by omega) z⟩
        rw [show (32 * (s : Int) + n).toNat = 32 * s + 16 * 0 + n by omega, show (32 * (s : Int) + 16 + n).toNat = 32 * s + 16 * 1 + n by omega, show (32 * ((Z : Int) - 40 + 40) + n).toNat = 32 * Z + 16 * 0 + n by omega, show (32 * ((Z : Int) - 40 + 40) + 16 + n).toNat = 32 * Z + 16 * 1 + n by omega, show (Z : Int) - 40 + 1 = ((Z + 1 : Nat) : Int) - 40 by omega, wG.2.2.2.1 Z (by omega) 0 (by omega) n hn, wG.2.2.2.1 Z (by omega) 1 (by omega) n hn, rI3 (by omega), w2 0 (by omega), w2 1 (by omega), I_add, I_add]
        refine ih (by omega) _ (Eqx_tI (Eqx_tI wE (by simp)) (by simp)) (wO.trans ⟨fun s' a p b n' c d => ?_, fun s' a q b n' c d => ?_, fun s' a n' c d => ?_⟩) (fun p hp => ?_) (fun q hq => ?_)
        · rw [rI2 (by omega), rI2 (by omega)]
        · rw [rI3 (by omega), rI3 (by omega)]
        · rw [rI2 (by omega), rI2 (by omega)]
        · rw [rI2 (by omega), rI2 (by omega), w1 p hp, if_pos hp]
        · rw [rg_succ hAZ]
          by_cases e : q = 1
          · subst e; rw [rI1]; rfl
          · have : q = 0 := by omega
            subst this; rw [rI3 (by omega), rI1]; rfl
      · intro g i hi ih2 ω wE wO w1 w2
        have wG : RG ω G := RG_eq hG (fun q h1 h2 => (wE q (by simp; omega)).symm)
        simp (disch := omega) only [wbX12_laysOf_95, I_lit, I_le, I_in, true_and, fe, I_cl, I_mul, I_add]
        refine ⟨fun z => absurd z (by omega), fun _ => ?_⟩
        rw [show (48 * (s : Int) + 16 * i + n).toNat = 48 * s + 16 * i + n by omega, show (48 * ((Z : Int) - 40 + 40) + 16 * i + n).toNat = 48 * Z + 16 * i + n by omega, wG.2.2.1 Z (by omega) i hi n hn, w1 i hi, if_neg (by omega), I_add]
        refine ih2 _ (Eqx_tI wE (by simp)) (wO.trans ⟨fun s' a p b n' c d => ?_, fun s' a q b n' c d => ?_, fun s' a n' c d => ?_⟩) (fun p hp => ?_) (fun q hq => ?_)
        · rw [rI3 (by omega)]
        · rw [rI2 (by omega)]
        · rw [rI2 (by omega)]
        · by_cases e : p = i
          · subst e; rw [rI1, if_pos (by omega), rg_succ hAZ]; rfl
          · rw [rI3 (by omega), w1 p hp]
            by_cases c : p < i
            · rw [if_pos c, if_pos (by omega)]
            · rw [if_neg c, if_neg (by omega)]
        · rw [rI2 (by omega)]; exact w2 q hq
  · intro f i hi ih τ hE hO h0
    simp (disch := omega) only [wbX12_laysOf_11, I_lit, I_le, I_in, true_and, fe, I_cl, I_mul, I_add]
    refine ⟨fun z => absurd z (by omega), fun _ => ?_⟩
    rw [show (48 * (s : Int) + 16 * i + n).toNat = 48 * s + 16 * i + n by omega]
    refine ih _ (Eqx_tI hE (by simp)) (hO.trans ⟨fun s' a p b n' c d => ?_, fun s' a q b n' c d => ?_, fun s' a n' c d => ?_⟩) (fun p hp => ?_)
    · rw [rI3 (by omega)]
    · rw [rI2 (by omega)]
    · rw [rI2 (by omega)]
    · by_cases e : p = i
      · subst e; rw [rI1]
      · rw [rI3 (by omega)]; exact h0 p (by omega)
