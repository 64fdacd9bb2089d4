/-! let, span, parts: what a taste would bring -/
def bro (G : GV) (Y p x n : Nat) : Int := G Y (p * 4 + x) n + G Y (p * 4 + 2 + x) n
abbrev Gt (m : MT) (U : Nat → Nat) (T : TT) (t : Nat) : GV := run (KB m U T (-1) false t) 61
theorem bit_tb (a k : Nat) : bit ((a : Nat) : Int) k = a.testBit k := by
  unfold bit
  rw [Nat.testBit_eq_decide_div_mod_eq]
  have : ((a : Nat) : Int) / ((2 ^ k : Nat) : Int) % 2 = ((a / 2 ^ k % 2 : Nat) : Int) := by rw [Int.natCast_emod, Int.natCast_ediv]; rfl
  rw [this]
  by_cases c : a / 2 ^ k % 2 = 1
  · rw [c]; rfl
  · have h2 := Nat.mod_lt (a / 2 ^ k) (show 0 < 2 by decide)
    rw [show a / 2 ^ k % 2 = 0 by omega]; rfl
theorem G6 {G : GV} (h : GC G) {Y : Nat} (hY : 40 ≤ Y) (c n : Nat) : 0 ≤ G Y c n ∧ G Y c n ≤ 6 := by
  refine ⟨h.1 _ _ _, ?_⟩
  by_cases hn : n < 16
  · have a := h.2.2.1 Y c hY
    have := sm_ge1 (f := fun n => G Y c n) (N := 16) hn (fun j => h.1 _ _ _)
    omega
  · rw [h.2.2.2 _ _ _ (Or.inr (by omega))]; omega
theorem bro_b {G : GV} (h : GC G) {Y : Nat} (hY : 40 ≤ Y) (p x n : Nat) : 0 ≤ bro G Y p x n ∧ bro G Y p x n ≤ 12 := by
  have a := G6 h hY (p * 4 + x) n
  have b := G6 h hY (p * 4 + 2 + x) n
  unfold bro; omega
theorem toG_bro (G : GV) (Y p x n M : Nat) (hp : p < 3) (hx : x < 2) (hn : n < M) : toG G Y p (-1) x n M 12 = bro G Y p x n := by
  have ein : ∀ c, inG G Y n c M = G Y c n := fun c => sm_pt rfl hn
  unfold toG
  simp only [ein]
  have hs : ∀ p : Nat, p < 3 → ∀ x : Nat, x < 2 → ∀ c, c < 12 → sb (p : Int) (-1) (x : Int) c = (decide (c = p * 4 + x) || decide (c = p * 4 + 2 + x)) := by decide
  have e : ∀ c, c < 12 → (if sb (p : Int) (-1) (x : Int) c = true then G Y c n else 0) = (if c = p * 4 + x then G Y (p * 4 + x) n else 0) + (if c = p * 4 + 2 + x then G Y (p * 4 + 2 + x) n else 0) := fun c hc => by
    rw [hs p hp x hx c hc]
    by_cases c1 : c = p * 4 + x
    · rw [if_pos (by simp [c1]), if_pos c1, if_neg (by omega), c1]; omega
    · by_cases c2 : c = p * 4 + 2 + x
      · rw [if_pos (by simp [c2]), if_neg c1, if_pos c2, c2]; omega
      · rw [if_neg (by simp [c1, c2]), if_neg c1, if_neg c2]; omega
  rw [sm_congr e, sm_add, sm_one _ _ (by omega), sm_one _ _ (by omega)]
  rfl
theorem pk_sum (f g : Nat → Int) : pk f + pk g = pk (fun n => f n + g n) := by
  unfold pk
  rw [← sm_add]
  exact sm_congr (fun n _ => by rw [Int.add_mul])
/-- the kept row of taste t -/
def KR (σ : St) (G : GV) (t : Nat) : Prop := ∀ y, y < 61 → ∀ i, i < 6 → gL σ 69 ((t * 61 + y) * 6 + i) = LL (pk (fun n => G (40 + y) (i / 2 * 4 + i % 2) n) + pk (fun n => G (40 + y) (i / 2 * 4 + 2 + i % 2) n))
theorem cbro_ok {σ : St} {G : GV} {t y p x n : Nat} {post : Int32 → St → Prop} (hK : KR σ G t) (hG : GC G) (ht : t < 6) (hy : y < 61) (hp : p < 3) (hx : x < 2) (hn : n < 16) (hpost : post (II (bro G (40 + y) p x n)) σ) : wpX7_brought (II t) (II y) (II (((p : Int) * 2 + x) * 16 + n)) σ post := by
  have e := hK y hy (p * 2 + x) (by omega)
  rw [show (p * 2 + x) / 2 * 4 + (p * 2 + x) % 2 = p * 4 + x by omega, show (p * 2 + x) / 2 * 4 + 2 + (p * 2 + x) % 2 = p * 4 + 2 + x by omega, pk_sum] at e
  have b := fun n => bro_b hG (Y := 40 + y) (by omega) p x n
  have d := row_dig (f := fun n => G (40 + y) (p * 4 + x) n + G (40 + y) (p * 4 + 2 + x) n) (fun n => by have := b n; unfold bro at this; omega) hn
  have j : (((t : Int) * 61 + y) * 6 + (((p : Int) * 2 + x) * 16 + n) / 16).toNat = (t * 61 + y) * 6 + (p * 2 + x) := by omega
  unfold wpX7_brought
  simp only [fe]
  rw [show (16 : Int32) = II 16 from rfl, I_div (by omega), show (61 : Int32) = II 61 from rfl, I_mul, I_add, show (6 : Int32) = II 6 from rfl, I_mul, I_add, I_cl (by omega), j, e, I_mul, I_sub, show (((p : Int) * 2 + x) * 16 + n) - (((p : Int) * 2 + x) * 16 + n) / 16 * 16 = n by omega, d]
  exact ⟨of_eq_true (I_in (by omega)), hpost⟩
theorem keepRun_ok {σ : St} {G : GV} {t r : Nat} {post : St → Prop} (hR : Rows σ 1 G 61) (ht : t < 6) (hr : gI σ 64 6 = II r) (hr2 : r < 64)
    (hp : ∀ τ, Eqx [64, 69] σ τ → (∀ k, k ≠ 6 → gI τ 64 k = gI σ 64 k) → gI τ 64 6 = II (r ||| 2 ^ t : Nat) → KR τ G t → (∀ t', t' < 6 → t' ≠ t → ∀ y, y < 61 → ∀ i, i < 6 → gL τ 69 ((t' * 61 + y) * 6 + i) = gL σ 69 ((t' * 61 + y) * 6 + i)) → post τ) : wpX7_keepRun 1 (II t) σ post := by
  unfold wpX7_keepRun
  have key := up (P := fun f y => ∀ υ, Eqx [69] σ υ → (∀ y', y' < y → ∀ i, i < 6 → gL υ 69 ((t * 61 + y') * 6 + i) = LL (pk (fun n => G (40 + y') (i / 2 * 4 + i % 2) n) + pk (fun n => G (40 + y') (i / 2 * 4 + 2 + i % 2) n))) → (∀ t', t' < 6 → t' ≠ t → ∀ y, y < 61 → ∀ i, i < 6 → gL υ 69 ((t' * 61 + y) * 6 + i) = gL σ 69 ((t' * 61 + y) * 6 + i)) → wbX7_keepRun_2 1 post f (II t) (II y) υ) 61 ?_ ?_ 0 (by omega)
  · obtain ⟨f, hf⟩ := key
    exact ⟨f, hf σ (Eqx.refl _ _) (fun y' hy => absurd hy (by omega)) (fun _ _ _ _ _ _ _ => rfl)⟩
  · intro f υ uE u1 u2
    have u6 : gI υ 64 6 = II r := by rw [Eqx_gI uE (by simp)]; exact hr
    have sh := I_shl1 t (by omega)
    simp (disch := omega) only [wbX7_keepRun_2, I_lit, I_le, fe, u6, sh, I_or]
    refine ⟨fun _ => ?_, fun z => absurd (by decide) z⟩
    refine hp _ (Eqx_tI (Eqx.mono uE (by simp)) (by simp)) (fun k hk => by rw [rI3 hk, Eqx_gI uE (by simp)]) rI1 (fun y hy i hi => ?_) (fun t' h1 h2 y hy i hi => ?_)
    · rw [gL_sI]; exact u1 y hy i hi
    · rw [gL_sI]; exact u2 t' h1 h2 y hy i hi
  · intro f y hy ih υ uE u1 u2
    simp (disch := omega) only [wbX7_keepRun_2, I_lit, I_le]
    refine ⟨fun z => absurd z (by omega), fun _ => ?_⟩
    have k2 := up (P := fun g i => ∀ ω, Eqx [69] σ ω → (∀ y', y' < y → ∀ i, i < 6 → gL ω 69 ((t * 61 + y') * 6 + i) = LL (pk (fun n => G (40 + y') (i / 2 * 4 + i % 2) n) + pk (fun n => G (40 + y') (i / 2 * 4 + 2 + i % 2) n))) → (∀ j, j < i → gL ω 69 ((t * 61 + y) * 6 + j) = LL (pk (fun n => G (40 + y) (j / 2 * 4 + j % 2) n) + pk (fun n => G (40 + y) (j / 2 * 4 + 2 + j % 2) n))) → (∀ t', t' < 6 → t' ≠ t → ∀ y, y < 61 → ∀ i, i < 6 → gL ω 69 ((t' * 61 + y) * 6 + i) = gL σ 69 ((t' * 61 + y) * 6 + i)) → wbX7_keepRun_11 1 (wbX7_keepRun_2 1 post f) post g (II t) (II y) (II i) ω) 6 ?_ ?_ 0 (by omega)
    · obtain ⟨g, hg⟩ := k2
      exact ⟨g, hg υ uE u1 (fun j hj => absurd hj (by omega)) u2⟩
    · intro g ω wE w1 w2 w3
      simp (disch := omega) only [wbX7_keepRun_11, I_lit, I_le, fe, I_add]
      refine ⟨fun _ => ih ω wE (fun y' hy' i hi => ?_) w3, fun z => absurd (by decide) z⟩
      by_cases c : y' = y
      · rw [c]; exact w2 i hi
      · exact w1 y' (by omega) i hi
    · intro g i hi ih2 ω wE w1 w2 w3
      have c1 : ((i : Int) / 2 * 2 + 0) * 2 + ((i : Int) - (i : Int) / 2 * 2) = ((i / 2 * 4 + i % 2 : Nat) : Int) := by omega
      have c2 : ((i : Int) / 2 * 2 + 1) * 2 + ((i : Int) - (i : Int) / 2 * 2) = ((i / 2 * 4 + 2 + i % 2 : Nat) : Int) := by omega
      have j1 : ((y : Int) * 12 + ((i / 2 * 4 + i % 2 : Nat) : Int)).toNat = y * 12 + (i / 2 * 4 + i % 2) := by omega
      have j2 : ((y : Int) * 12 + ((i / 2 * 4 + 2 + i % 2 : Nat) : Int)).toNat = y * 12 + (i / 2 * 4 + 2 + i % 2) := by omega
      have j3 : (((t : Int) * 61 + (y : Int)) * 6 + (i : Int)).toNat = (t * 61 + y) * 6 + i := by omega
      have r1 : gL ω (21 + 4 * 1 + 1) (y * 12 + (i / 2 * 4 + i % 2)) = LL (pk (fun n => G (40 + y) (i / 2 * 4 + i % 2) n)) := by rw [Eqx_gL wE (by simp)]; exact hR y (by omega) _ (by omega)
      have r2 : gL ω (21 + 4 * 1 + 1) (y * 12 + (i / 2 * 4 + 2 + i % 2)) = LL (pk (fun n => G (40 + y) (i / 2 * 4 + 2 + i % 2) n)) := by rw [Eqx_gL wE (by simp)]; exact hR y (by omega) _ (by omega)
      simp (disch := omega) only [wbX7_keepRun_11, wpX4_row, I_lit, I_le, fe, I_div, I_mul, I_sub, I_add, c1, c2, I_in, true_and, I_cl, j1, j2, j3, r1, r2, L_add]
      refine ⟨fun z => absurd z (by omega), fun _ => ih2 _ (Eqx_tL wE (by simp)) (fun y' hy' k hk => ?_) (fun k hk => ?_) (fun t' h1 h2 y' hy' k hk => ?_)⟩
      · rw [rL3 (by omega)]; exact w1 y' hy' k hk
      · by_cases c : k = i
        · rw [c, rL1]
        · rw [rL3 (by omega)]; exact w2 k (by omega)
      · rw [rL3 (by omega)]; exact w3 t' h1 h2 y' hy' k hk
