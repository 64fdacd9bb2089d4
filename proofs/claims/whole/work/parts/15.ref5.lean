def WB (w : Nat → Int) : Prop := ∀ i, i < 14 → -1000000000 ≤ w i ∧ w i ≤ 1000000000
theorem gt_places (G : GV) (Y n : Nat) : gt G Y 0 n + gt G Y 1 n + gt G Y 2 n = gt G Y 6 n := by
  unfold gt
  rw [← sm_add, ← sm_add]
  refine sm_congr (fun c hc => ?_)
  have h : c / 4 = 0 ∨ c / 4 = 1 ∨ c / 4 = 2 := by omega
  rcases h with h | h | h <;> simp [ing, h]
theorem gy_places (G : GV) (n a b : Nat) : rg (gy G 0 n) a b + rg (gy G 1 n) a b + rg (gy G 2 n) a b = rg (gy G 6 n) a b := by
  rw [← rg_add, ← rg_add]
  exact rg_congr (fun Y _ _ => gt_places G Y n)
theorem gt_girls {G : GV} (h : GB G) (Y g n : Nat) : gt G Y g n ≤ gt G Y 6 n := by
  unfold gt
  have : ∀ N, sm (fun c => if ing g c = true then G Y c n else 0) N ≤ sm (fun c => if ing 6 c = true then G Y c n else 0) N := by
    intro N
    induction N with
    | zero => exact Int.le_refl _
    | succ N ih =>
      have e6 : ing 6 N = true := rfl
      have := (h Y N n).1
      simp only [sm]
      rw [if_pos e6]
      split <;> omega
  exact this 12
theorem flm_in {m : MT} (hW : WFm m) (w : Int) (y n : Nat) : 0 ≤ flm m w y n ∧ flm m w y n ≤ 8000 := by
  have h3 := hW.2.2.2.1
  have hf := hW.2.2.2.2.2.2.2.2.2.2.2.1
  have one : ∀ k, k < (m 3).toNat → 0 ≤ (if (k : Int) ≠ w ∧ m (70 + 3 * k) = n ∧ m (70 + 3 * k + 1) ≤ y then m (70 + 3 * k + 2) / ((2 ^ ((y : Int) - m (70 + 3 * k + 1)).toNat : Nat) : Int) else 0) ∧ (if (k : Int) ≠ w ∧ m (70 + 3 * k) = n ∧ m (70 + 3 * k + 1) ≤ y then m (70 + 3 * k + 2) / ((2 ^ ((y : Int) - m (70 + 3 * k + 1)).toNat : Nat) : Int) else 0) ≤ 999 := by
    intro k hk
    have := hf k (by omega)
    split
    · have h1 := Int.ediv_le_self (((2 ^ ((y : Int) - m (70 + 3 * k + 1)).toNat : Nat) : Int)) (a := m (70 + 3 * k + 2)) (by omega)
      have h2 := Int.ediv_nonneg (a := m (70 + 3 * k + 2)) (b := (((2 ^ ((y : Int) - m (70 + 3 * k + 1)).toNat : Nat) : Int))) (by omega) (by generalize 2 ^ ((y : Int) - m (70 + 3 * k + 1)).toNat = z; omega)
      omega
    · omega
  unfold flm
  have a := sm_nonneg (fun k hk => (one k hk).1)
  have b := sm_le (fun k hk => (one k hk).2)
  omega
theorem snd_in {K : KT} {G : GV} (hG : GB G) (hn : kn K ≤ 16) (Y n : Nat) : 0 ≤ snd K G Y n ∧ snd K G Y n ≤ 2000000 := by
  unfold snd
  split
  · omega
  · have a := sm_nonneg (f := fun i => if i ≠ n ∧ kE K i n = true then gt G (Y - 1) 6 i else 0) (n := kn K) (fun k _ => by split; exact gt_nn hG _ _ _; omega)
    have b := sm_le (f := fun i => if i ≠ n ∧ kE K i n = true then gt G (Y - 1) 6 i else 0) (n := kn K) (B := 119988) (fun k _ => by split; exact gt_le hG _ _ _; omega)
    omega
theorem gy_mono {G : GV} (h : GB G) (g n a b : Nat) : rg (gy G g n) a b ≤ rg (gy G 6 n) a b := by
  by_cases hab : a ≤ b
  · obtain ⟨d, rfl⟩ := Nat.exists_eq_add_of_le hab
    clear hab
    induction d with
    | zero => rw [rg_nil (by omega), rg_nil (by omega)]; omega
    | succ d ih =>
      rw [← Nat.add_assoc, rg_succ (by omega), rg_succ (by omega)]
      have : gy G g n (a + d) ≤ gy G 6 n (a + d) := gt_girls h _ _ _
      omega
  · rw [rg_nil (by omega), rg_nil (by omega)]; omega
theorem wv_wb {K : KT} {G : GV} {y p s n t : Nat} (hG : GB G) (hW : WFm K.1) (hl : 0 ≤ kl K n ∧ kl K n ≤ 12) (hy : y ≤ 60) (hps : 1 ≤ psT (kT K) t) : WB (wv K G (40 + y) p s n t) := by
  intro i hi
  have kn16 : kn K ≤ 16 := by unfold kn; have := hW.2.1; omega
  have r1 := fun g a => gy_nn hG g n a (40 + y + 1)
  have r2 := fun g a => gy_le hG g n a (40 + y + 1) (by omega)
  have r3 := fun g a => gy_mono hG g n a (40 + y + 1)
  have r4 := fun a b (hb : b ≤ 200) => gy_le hG 6 n a b hb
  have r5 := fun a b => gy_nn hG 6 n a b
  have l := lat_in G n (40 + y + 1)
  have g1 := gt_nn hG (40 + y - 1) 6 n
  have g2 := gt_le hG (40 + y - 1) 6 n
  have g3 := gt_nn hG (40 + y - 2) 6 n
  have g4 := gt_le hG (40 + y - 2) 6 n
  have s1 := snd_in hG kn16 (40 + y) n
  have f1 := flm_in hW (kw K) (40 + y - 40) n
  have a1 := r1 p (((40 + y : Nat) : Int) - nrT (kT K) t + 1).toNat
  have a2 := r2 p (((40 + y : Nat) : Int) - nrT (kT K) t + 1).toNat
  have a3 := r1 6 (((40 + y : Nat) : Int) - nrT (kT K) t + 1).toNat
  have a4 := r2 6 (((40 + y : Nat) : Int) - nrT (kT K) t + 1).toNat
  have a5 := r1 3 (((40 + y : Nat) : Int) - nrT (kT K) t + 1).toNat
  have a6 := r2 3 (((40 + y : Nat) : Int) - nrT (kT K) t + 1).toNat
  have a7 := r1 (3 + s) (((40 + y : Nat) : Int) - nrT (kT K) t + 1).toNat
  have a8 := r2 (3 + s) (((40 + y : Nat) : Int) - nrT (kT K) t + 1).toNat
  have b1 := r1 5 (((40 + y : Nat) : Int) - K.1 6 + 1).toNat
  have b2 := r2 5 (((40 + y : Nat) : Int) - K.1 6 + 1).toNat
  have b3 := r1 6 (((40 + y : Nat) : Int) - K.1 6 + 1).toNat
  have b4 := r2 6 (((40 + y : Nat) : Int) - K.1 6 + 1).toNat
  have b5 := r4 (((40 + y : Nat) : Int) - K.1 6 + 1).toNat (((40 + y : Nat) : Int) - psT (kT K) t + 1).toNat (by omega)
  have b6 := r5 (((40 + y : Nat) : Int) - K.1 6 + 1).toNat (((40 + y : Nat) : Int) - psT (kT K) t + 1).toNat
  match i, hi with
  | 0, _ => simp only [wv]; omega
  | 1, _ => simp only [wv]; omega
  | 2, _ => simp only [wv]; split <;> omega
  | 3, _ => simp only [wv]; omega
  | 4, _ => simp only [wv]; omega
  | 5, _ => simp only [wv]; omega
  | 6, _ => simp only [wv]; omega
  | 7, _ => simp only [wv]; omega
  | 8, _ => simp only [wv]; omega
  | 9, _ => simp only [wv]; omega
  | 10, _ => simp only [wv]; omega
  | 11, _ => simp only [wv]; omega
  | 12, _ => simp only [wv]; omega
  | 13, _ => simp only [wv]; omega
theorem w315 {υ : St} {post : St → Prop} {y n : Nat} {w : Nat → Int} (wb : WB w) (hn : n < 16) (hy : y ≤ 60) (u110 : gI υ 110 n = II (w 9)) (u111 : gI υ 111 n = II (w 10)) (u112 : gI υ 112 n = II (w 11))
    (l3 : ∀ (τ : St) (post : Int32 → St → Prop), post (II (w 12)) τ → wpX12_size (gL υ 78 n) τ post) (e13 : w 13 = y) (u8 : ∀ i, i < 8 → gL υ 96 i = LL (w i)) (h : ∀ τ, Eqx [96] υ τ → (∀ i, i < 14 → gL τ 96 i = LL (w i)) → post τ) : wbX12_words_315 post (II y) (II n) (LL (w 8)) (II 8) υ := by
  have b9 := wb 9 (by omega)
  have b10 := wb 10 (by omega)
  have b11 := wb 11 (by omega)
  have b12 := wb 12 (by omega)
  simp (disch := omega) only [wbX12_words_315, I_lit, I_in, true_and, fe, I_cl, Int.reduceToNat, Int.toNat_natCast, gI_sL, u110, u111, u112, I_wide, rL2]
  refine l3 _ _ ?_
  rw [I_wide (by omega)]
  refine h _ (Eqx_tL (Eqx_tL (Eqx_tL (Eqx_tL (Eqx_tL (Eqx_tL (Eqx.refl _ _) (by simp)) (by simp)) (by simp)) (by simp)) (by simp)) (by simp)) (fun i hi => ?_)
  by_cases c : i < 8
  · rw [rL3 (by omega), rL3 (by omega), rL3 (by omega), rL3 (by omega), rL3 (by omega), rL3 (by omega)]; exact u8 i c
  · have : i = 8 ∨ i = 9 ∨ i = 10 ∨ i = 11 ∨ i = 12 ∨ i = 13 := by omega
    rcases this with rfl | rfl | rfl | rfl | rfl | rfl
    · rw [rL3 (by omega), rL3 (by omega), rL3 (by omega), rL3 (by omega), rL3 (by omega), rL1]
    · rw [rL3 (by omega), rL3 (by omega), rL3 (by omega), rL3 (by omega), rL1]
    · rw [rL3 (by omega), rL3 (by omega), rL3 (by omega), rL1]
    · rw [rL3 (by omega), rL3 (by omega), rL1]
    · rw [rL3 (by omega), rL1]
    · rw [rL1, e13]
theorem w135 {υ : St} {post : St → Prop} {y s n : Nat} {w : Nat → Int} {x3 z3 x4 z4 x5 z5 g6 g9 : Int} (wb : WB w) (hs : s < 2) (hn : n < 16) (hy : y ≤ 60)
    (u106 : gI υ 106 (32 * s + 16 * s + n) = II x3) (u101 : gI υ 101 (32 * (40 + y) + 16 * s + n) = II z3) (f3 : x3 + z3 = w 3)
    (u108 : gI υ 108 n = II x4) (u102 : gI υ 102 (32 * (40 + y) + 16 * 0 + n) = II z4) (f4 : x4 + z4 = w 4)
    (u108b : gI υ 108 (16 + n) = II x5) (u102b : gI υ 102 (32 * (40 + y) + 16 * 1 + n) = II z5) (f5 : x5 + z5 = w 5)
    (u107 : gI υ 107 (16 * s + n) = II (w 6)) (f7 : w 4 + w 5 = w 7) (u99 : gI υ 99 (16 * (40 + y) + n) = II g6) (hg6 : 0 ≤ g6 ∧ g6 ≤ 119988) (u109 : gI υ 109 n = II g9) (hg9 : -2000 ≤ g9 ∧ g9 ≤ 2000) (f8 : g6 = 0 → g9 = w 8) (f8' : 0 < g6 → w 8 = 0)
    (u110 : gI υ 110 n = II (w 9)) (u111 : gI υ 111 n = II (w 10)) (u112 : gI υ 112 n = II (w 11))
    (l3 : ∀ (τ : St) (post : Int32 → St → Prop), post (II (w 12)) τ → wpX12_size (gL υ 78 n) τ post) (e13 : w 13 = y) (u2 : ∀ i, i < 2 → gL υ 96 i = LL (w i)) (h : ∀ τ, Eqx [96] υ τ → (∀ i, i < 14 → gL τ 96 i = LL (w i)) → post τ) : wbX12_words_135 post (II y) (II s) (II n) (LL (w 2)) (II 2) υ := by
  have b3 := wb 3 (by omega)
  have b4 := wb 4 (by omega)
  have b5 := wb 5 (by omega)
  have b6 := wb 6 (by omega)
  have i1 : (32 * (s : Int) + 16 * s + n).toNat = 32 * s + 16 * s + n := by omega
  have i2 : (32 * ((y : Int) + 40) + 16 * s + n).toNat = 32 * (40 + y) + 16 * s + n := by omega
  have i3 : (32 * ((y : Int) + 40) + n).toNat = 32 * (40 + y) + 16 * 0 + n := by omega
  have i4 : (16 + (n : Int)).toNat = 16 + n := by omega
  have i5 : (32 * ((y : Int) + 40) + 16 + n).toNat = 32 * (40 + y) + 16 * 1 + n := by omega
  have i6 : (16 * (s : Int) + n).toNat = 16 * s + n := by omega
  have i7 : (16 * ((y : Int) + 40) + n).toNat = 16 * (40 + y) + n := by omega
  simp (disch := omega) only [wbX12_words_135, wpX12_all, I_lit, I_in, true_and, fe, I_cl, Int.reduceToNat, Int.toNat_natCast, gI_sL, I_add, I_mul, I_neg, i1, i2, i3, i4, i5, i6, i7, u106, u101, u108, u108b, u102, u102b, u107, u99, u109, f3, f4, f5, I_wide, rL3, rL1, L_add, f7, I_le]
  have hc : ∀ i, i < 8 → gL (sL (sL (sL (sL (sL (sL υ 96 2 (LL (w 2))) 96 3 (LL (w 3))) 96 4 (LL (w 4))) 96 5 (LL (w 5))) 96 6 (LL (w 6))) 96 7 (LL (w 7))) 96 i = LL (w i) := by
    intro i hi
    by_cases c : i < 2
    · rw [rL3 (by omega), rL3 (by omega), rL3 (by omega), rL3 (by omega), rL3 (by omega), rL3 (by omega)]; exact u2 i c
    · have : i = 2 ∨ i = 3 ∨ i = 4 ∨ i = 5 ∨ i = 6 ∨ i = 7 := by omega
      rcases this with rfl | rfl | rfl | rfl | rfl | rfl
      · rw [rL3 (by omega), rL3 (by omega), rL3 (by omega), rL3 (by omega), rL3 (by omega), rL1]
      · rw [rL3 (by omega), rL3 (by omega), rL3 (by omega), rL3 (by omega), rL1]
      · rw [rL3 (by omega), rL3 (by omega), rL3 (by omega), rL1]
      · rw [rL3 (by omega), rL3 (by omega), rL1]
      · rw [rL3 (by omega), rL1]
      · rw [rL1]
  have h2 : wbX12_words_315 post (II y) (II n) (LL (w 8)) (II 8) (sL (sL (sL (sL (sL (sL υ 96 2 (LL (w 2))) 96 3 (LL (w 3))) 96 4 (LL (w 4))) 96 5 (LL (w 5))) 96 6 (LL (w 6))) 96 7 (LL (w 7))) := by
    refine w315 wb hn hy (by simp only [gI_sL]; exact u110) (by simp only [gI_sL]; exact u111) (by simp only [gI_sL]; exact u112) (by simp (disch := omega) only [rL2]; exact l3) e13 hc ?_
    intro τ tE tc
    exact h τ (Eqx.trans (Eqx_tL (Eqx_tL (Eqx_tL (Eqx_tL (Eqx_tL (Eqx_tL (Eqx.refl _ _) (by simp)) (by simp)) (by simp)) (by simp)) (by simp)) (by simp)) tE) tc
  refine ⟨fun _ => ⟨fun c => ?_, fun c => ?_⟩, fun z => absurd (by omega) z⟩
  · rw [f8 (by omega)]; exact h2
  · rw [f8' (by omega)] at h2; exact h2
theorem w6 {σ : St} {post : St → Prop} {y p s n : Nat} {w : Nat → Int} {R : Nat → Int} {x2 z2 x3 z3 x4 z4 x5 z5 g6 g9 : Int} (wb : WB w) (hp : p < 3) (hs : s < 2) (hn : n < 16) (hy : y ≤ 60)
    (hR : ∀ q, q < 3 → gI σ 105 (48 * s + 16 * q + n) + gI σ 100 (48 * (40 + y) + 16 * q + n) = II (R q)) (hRb : ∀ q, q < 3 → 0 ≤ R q ∧ R q ≤ 100000000) (e0 : w 0 = R p) (e1 : w 1 = R 0 + R 1 + R 2 - R p)
    (u2 : gI σ 106 (32 * 1 + 16 * 0 + n) = II x2 ∨ s = 0) (v2 : gI σ 101 (32 * (40 + y) + 16 * 0 + n) = II z2) (f2 : s = 1 → x2 + z2 = w 2) (f2' : s = 0 → w 2 = 0)
    (u106 : gI σ 106 (32 * s + 16 * s + n) = II x3) (u101 : gI σ 101 (32 * (40 + y) + 16 * s + n) = II z3) (f3 : x3 + z3 = w 3)
    (u108 : gI σ 108 n = II x4) (u102 : gI σ 102 (32 * (40 + y) + 16 * 0 + n) = II z4) (f4 : x4 + z4 = w 4)
    (u108b : gI σ 108 (16 + n) = II x5) (u102b : gI σ 102 (32 * (40 + y) + 16 * 1 + n) = II z5) (f5 : x5 + z5 = w 5)
    (u107 : gI σ 107 (16 * s + n) = II (w 6)) (f7 : w 4 + w 5 = w 7) (u99 : gI σ 99 (16 * (40 + y) + n) = II g6) (hg6 : 0 ≤ g6 ∧ g6 ≤ 119988) (u109 : gI σ 109 n = II g9) (hg9 : -2000 ≤ g9 ∧ g9 ≤ 2000) (f8 : g6 = 0 → g9 = w 8) (f8' : 0 < g6 → w 8 = 0)
    (u110 : gI σ 110 n = II (w 9)) (u111 : gI σ 111 n = II (w 10)) (u112 : gI σ 112 n = II (w 11))
    (l3 : ∀ (τ : St) (post : Int32 → St → Prop), post (II (w 12)) τ → wpX12_size (gL σ 78 n) τ post) (e13 : w 13 = y) (h : ∀ τ, Eqx [96] σ τ → (∀ i, i < 14 → gL τ 96 i = LL (w i)) → post τ) : wpX12_words (II y) (II p) (II s) (II n) σ post := by
  unfold wpX12_words
  have key := up (P := fun f i => ∀ υ : St, Eqx [96] σ υ → (p < i → gL υ 96 0 = LL (w 0)) → wbX12_words_6 post f (II y) (II p) (II s) (II n) (II (sm (fun q => if q = p then 0 else R q) i)) (II i) υ) 3 ?_ ?_ 0 (by omega)
  · obtain ⟨f, hf⟩ := key
    exact ⟨f, hf σ (Eqx.refl _ _) (fun z => absurd z (by omega))⟩
  · intro f υ uE u0
    have efar : sm (fun q => if q = p then 0 else R q) 3 = w 1 := by
      rw [e1]
      simp only [sm]
      have : p = 0 ∨ p = 1 ∨ p = 2 := by omega
      rcases this with rfl | rfl | rfl <;> simp <;> omega
    have b1 := wb 1 (by omega)
    have b2 := wb 2 (by omega)
    rw [efar]
    have i1 : (32 + (n : Int)).toNat = 32 * 1 + 16 * 0 + n := by omega
    have i3 : (32 * ((y : Int) + 40) + n).toNat = 32 * (40 + y) + 16 * 0 + n := by omega
    have uI : ∀ q, q ≠ 96 → ∀ k, gI υ q k = gI σ q k := fun q hq k => Eqx_gI uE (by simpa using hq) k
    have u78 : gL υ 78 n = gL σ 78 n := Eqx_gL uE (by simp) n
    simp (disch := omega) only [wbX12_words_6, I_lit, I_in, true_and, fe, I_cl, Int.reduceToNat, I_le, I_eq, I_wide, gI_sL, I_add, I_mul, i1, i3, uI]
    have hc : ∀ i, i < 2 → gL (sL υ 96 1 (LL (w 1))) 96 i = LL (w i) := by
      intro i hi
      by_cases e : i = 1
      · subst e; rw [rL1]
      · have : i = 0 := by omega
        subst this; rw [rL3 (by omega)]; exact u0 hp
    have h2 : wbX12_words_135 post (II y) (II s) (II n) (LL (w 2)) (II 2) (sL υ 96 1 (LL (w 1))) := by
      refine w135 wb hs hn hy (by rw [gI_sL, uI _ (by omega)]; exact u106) (by rw [gI_sL, uI _ (by omega)]; exact u101) f3 (by rw [gI_sL, uI _ (by omega)]; exact u108) (by rw [gI_sL, uI _ (by omega)]; exact u102) f4 (by rw [gI_sL, uI _ (by omega)]; exact u108b) (by rw [gI_sL, uI _ (by omega)]; exact u102b) f5 (by rw [gI_sL, uI _ (by omega)]; exact u107) f7 (by rw [gI_sL, uI _ (by omega)]; exact u99) hg6 (by rw [gI_sL, uI _ (by omega)]; exact u109) hg9 f8 f8' (by rw [gI_sL, uI _ (by omega)]; exact u110) (by rw [gI_sL, uI _ (by omega)]; exact u111) (by rw [gI_sL, uI _ (by omega)]; exact u112) (by rw [rL2 (by omega), u78]; exact l3) e13 hc ?_
      intro τ tE tc
      exact h τ (Eqx.trans (Eqx_tL uE (by simp)) tE) tc
    refine ⟨fun _ => ⟨fun c => ?_, fun c => ?_⟩, fun z => absurd (by omega) z⟩
    · rw [f2' (by omega)] at h2; exact h2
    · have hs1 : s = 1 := by omega
      rcases u2 with u2 | u2
      · rw [u2, v2, I_add, f2 hs1, I_wide (by omega)]; exact h2
      · omega
  · intro f i hi ih υ uE u0
    have i1 : (48 * (s : Int) + 16 * i + n).toNat = 48 * s + 16 * i + n := by omega
    have i3 : (48 * ((y : Int) + 40) + 16 * i + n).toNat = 48 * (40 + y) + 16 * i + n := by omega
    have hR' : gI υ 105 (48 * s + 16 * i + n) + gI υ 100 (48 * (40 + y) + 16 * i + n) = II (R i) := by rw [Eqx_gI uE (by simp), Eqx_gI uE (by simp)]; exact hR i hi
    have q1 := hRb i hi
    simp (disch := omega) only [wbX12_words_6, I_lit, I_in, true_and, fe, I_cl, Int.reduceToNat, I_le, I_eq, I_add, I_mul, i1, i3, hR', I_wide]
    refine ⟨fun z => absurd z (by omega), fun _ => ⟨fun c => ?_, fun c => ?_⟩⟩
    · have := ih υ uE (fun z => u0 (by omega))
      simp only [sm] at this
      rw [if_neg (by omega)] at this
      exact this
    · have hip : i = p := by omega
      have := ih (sL υ 96 0 (LL (R i))) (Eqx_tL uE (by simp)) (fun z => by rw [rL1, e0, hip])
      simp only [sm] at this
      rw [if_pos hip, Int.add_zero] at this
      exact this
theorem words_ok {σ : St} {G : GV} {K : KT} {y p s n : Nat} {ta : Nat → Int} {post : St → Prop} (C : Cx1 σ G K y ta) (hL : LY σ G K y ta) (hp : p < 3) (hs : s < 2) (hn : n < kn K) (ht : ta s ≠ -1)
    (h : ∀ τ, Eqx [96] σ τ → (∀ i, i < 14 → gL τ 96 i = LL (wv K G (40 + y) p s n (ta s).toNat i)) → post τ) : wpX12_words (II y) (II p) (II s) (II n) σ post := by
  have w1 := C.1.2.1.2.1
  have kn16 : kn K ≤ 16 := by unfold kn; omega
  have hy := C.2.2.2.2.2
  have hB := C.2.2.1
  have cta := C.2.2.2.2.1 s hs
  have c4 := C.1.2.1.2.2.2.2.1
  have w6' := C.1.2.1.2.2.2.2.2.2.1
  obtain ⟨nr1, nr2, nr3, nr4, nr5, nr6⟩ := C.1.2.2.1 (ta s).toNat (by omega)
  obtain ⟨en, -, -, en3⟩ := C.1.2.2.2
  obtain ⟨l1, l2, l3⟩ := en3 n hn
  have wb := wv_wb (p := p) (s := s) (t := (ta s).toNat) hB C.1.2.1 ⟨l1, l2⟩ hy nr5
  obtain ⟨y1, y2, y3, y4, y5, y6, y7⟩ := hL.1 n hn
  obtain ⟨z1, z2, z3⟩ := y7 s hs ht
  have hAY : (((40 + y : Nat) : Int) - nrT (kT K) (ta s).toNat + 1).toNat ≤ 40 + y := by omega
  have hBY : (((40 + y : Nat) : Int) - K.1 6 + 1).toNat ≤ 40 + y := by omega
  have ll := lat_in G n (40 + y)
  have hl1 : lat G n (40 + y + 1) = if 0 < gt G (40 + y) 6 n then ((40 + y : Nat) : Int) - 40 else lat G n (40 + y) := rfl
  have hGr := C.2.1
  refine w6 (w := wv K G (40 + y) p s n (ta s).toNat) (R := fun q => rg (gy G q n) (((40 + y : Nat) : Int) - nrT (kT K) (ta s).toNat + 1).toNat (40 + y + 1)) (x2 := rg (gy G (3 + 0) n) (((40 + y : Nat) : Int) - nrT (kT K) (ta s).toNat + 1).toNat (40 + y)) wb hp hs (by omega) hy ?_ (fun q _ => ⟨gy_nn hB _ _ _ _, Int.le_trans (gy_le hB _ _ _ _ (by omega)) (by omega)⟩) rfl ?_ ?_ (hGr.2.2.2.1 _ (by omega) 0 (by omega) n (by omega)) ?_ ?_
    (z2 s hs) (hGr.2.2.2.1 _ (by omega) s hs n (by omega)) ?_ y1 (hGr.2.2.2.2 _ (by omega) 0 (by omega) n (by omega)) ?_ y2 (hGr.2.2.2.2 _ (by omega) 1 (by omega) n (by omega)) ?_ z3 ?_ (hGr.2.1 _ (by omega) n (by omega)) ⟨gt_nn hB _ _ _, gt_le hB _ _ _⟩ y3 (by omega) ?_ ?_ y4 y5 ?_ l3 ?_ h
  · intro q hq
    rw [z1 q hq, hGr.2.2.1 _ (by omega) q hq n (by omega), I_add, rg_succ hAY]; rfl
  · show _ - _ = _
    rw [← gy_places]
  · by_cases c : s = 0
    · exact Or.inr c
    · have hs1 : s = 1 := by omega
      refine Or.inl ?_
      have := z2 0 (by omega)
      rw [hs1] at this
      rw [hs1]
      exact this
  · intro hs1
    show _ = if s = 0 then 0 else _
    rw [if_neg (by omega), rg_succ hAY]; rfl
  · intro hs0
    show (if s = 0 then 0 else _) = _
    rw [if_pos hs0]
  · show _ = rg _ _ _
    rw [rg_succ hAY]; rfl
  · show _ = rg _ _ _
    rw [rg_succ hBY]; rfl
  · show _ = rg _ _ _ - rg _ _ _
    rw [rg_succ hBY, rg_succ hBY]
    show _ + (gt G (40 + y) 6 n - gt G (40 + y) 5 n) = _ + gt G (40 + y) 6 n - (_ + gt G (40 + y) 5 n)
    generalize rg (gy G 6 n) _ _ = r1
    generalize rg (gy G 5 n) _ _ = r2
    omega
  · show rg _ _ _ + (rg _ _ _ - rg _ _ _) = rg _ _ _
    generalize rg (gy G 6 n) _ _ = r1
    generalize rg (gy G 5 n) _ _ = r2
    omega
  · intro c
    show _ = min _ _
    rw [hl1, if_neg (by omega)]
    congr 1
    generalize lat G n (40 + y) = l
    omega
  · intro c
    show min _ _ = _
    rw [hl1, if_pos (by omega)]
    omega
  · rw [y6]
    show _ = II (flm K.1 (kw K) (40 + y - 40) n)
    rw [show 40 + y - 40 = y by omega]
  · show ((40 + y : Nat) : Int) - 40 = y
    omega
