def GB (G : GV) : Prop := ∀ Y c n, 0 ≤ G Y c n ∧ G Y c n ≤ 9999
theorem gt_nn {G : GV} (h : GB G) (Y g n : Nat) : 0 ≤ gt G Y g n := sm_nonneg (fun c _ => by split; exact (h Y c n).1; exact Int.le_refl 0)
theorem gt_le {G : GV} (h : GB G) (Y g n : Nat) : gt G Y g n ≤ 119988 := by
  have := sm_le (f := fun c => if ing g c = true then G Y c n else 0) (n := 12) (B := 9999) (fun c _ => by split; exact (h Y c n).2; omega)
  exact Int.le_trans this (by omega)
theorem gy_nn {G : GV} (h : GB G) (g n a b : Nat) : 0 ≤ rg (gy G g n) a b := rg_nonneg (fun Y _ _ => gt_nn h Y g n)
theorem gy_le {G : GV} (h : GB G) (g n a b : Nat) (hb : b ≤ 200) : rg (gy G g n) a b ≤ 23997600 := by
  have := rg_le (f := gy G g n) (a := a) (b := b) (B := 119988) (by omega) (fun Y _ _ => gt_le h Y g n)
  omega
theorem between1 {σ : St} {k0 o g n Y N : Nat} {G : GV} {post : Int32 → St → Prop} (ho : gI σ (21 + 4 * k0) 3 = II o) (hS : Sums σ k0 G N) (hY : Y < N) (hYo : Y ≤ 40 + o) (hoo : o ≤ 60) (hg : g < 7) (hn : n < 16)
    (hp : post (II (gt G Y g n)) σ) : wpX0_between k0 (II g) (II n) (II ((Y : Int) - 40)) (II ((Y : Int) - 40)) σ post := by
  simp (disch := omega) only [wpX0_between, wbX0_between_12, wbX0_between_32, fe, I_lit, I_neg, I_le, I_add, I_sub, I_mul, ho, I_in, true_and, I_cl]
  rw [show (((Y : Int) - 40 - -40 + 1) * 112 + ((g : Int) * 16 + n)).toNat = (Y + 1) * 112 + (g * 16 + n) by omega, show (((Y : Int) - 40 - -40) * 112 + ((g : Int) * 16 + n)).toNat = Y * 112 + (g * 16 + n) by omega, hS _ (by omega) _ hg _ hn, hS _ (by omega) _ hg _ hn, I_sub]
  have e : sm (gy G g n) (Y + 1) - sm (gy G g n) Y = gt G Y g n := by show sm _ Y + gt G Y g n - _ = _; omega
  rw [e]
  refine ⟨fun _ => ⟨fun _ => ⟨fun _ => hp, fun z => absurd (by omega) z⟩, fun z => absurd (by omega) z⟩, fun z => absurd (by omega) z⟩
theorem reopen_ok {σ : St} {k0 y : Nat} {G : GV} {post : St → Prop} (hG : GB G) (hS : Sums σ k0 G (40 + y)) (hR : Rows σ k0 G y) (hN : Nil G (40 + y)) (hy : y ≤ 61)
    (hp : ∀ τ, Bk τ k0 G (min y 60) → Eqx [21 + 4 * k0, 21 + 4 * k0 + 1, 21 + 4 * k0 + 2, 21 + 4 * k0 + 3] σ τ → post τ) : wpX0_reopen k0 (II y) σ post := by
  simp only [wpX0_reopen, fe]
  have key := up (P := fun m i => ∀ τ : St, gI τ (21 + 4 * k0) 3 = II 60 → (∀ q, q ≠ 21 + 4 * k0 → q ≠ 21 + 4 * k0 + 3 → τ q = σ q) → (∀ n, n < i → gI τ (21 + 4 * k0 + 3) n = II (lat G n (40 + y))) → wbX0_reopen_8 k0 post m (II y) (II i) τ) 16 ?_ ?_ 0 (by omega)
  · obtain ⟨m, hm⟩ := key
    refine ⟨m, hm _ rI1 (fun q h1 h2 => ce_sI _ _ _ _ _ h1) (fun n hn => absurd hn (by omega))⟩
  · intro m τ h60 hq hl
    simp (disch := omega) only [wbX0_reopen_8, I_lit, I_le]
    refine ⟨fun _ => ?_, fun z => absurd (by omega) z⟩
    have hS' : Sums τ k0 G (40 + y) := fun Y hY g hg n hn => by rw [gI_of (hq _ (by omega) (by omega))]; exact hS Y hY g hg n hn
    have hR' : Rows τ k0 G y := fun z hz c hc => by rw [gL_of (hq _ (by omega) (by omega))]; exact hR z hz c hc
    have hL' : Lat τ k0 G (40 + y) := fun n hn => hl n hn
    have hE : Eqx [21 + 4 * k0, 21 + 4 * k0 + 1, 21 + 4 * k0 + 2, 21 + 4 * k0 + 3] σ τ := fun q h => by
      simp only [List.mem_cons, List.not_mem_nil, or_false, not_or] at h
      exact (hq q (by omega) (by omega)).symm
    by_cases c : y = 61
    · subst c
      simp (disch := omega) only [wpX0_open, I_lit, I_lt, I_le]
      refine ⟨fun z => absurd z (by omega), fun _ => ⟨fun z => absurd z (by omega), fun _ => ?_⟩⟩
      exact hp τ ⟨h60, hS', hR', hL', hN, by omega⟩ hE
    · refine open_ok hS' hR' hL' hN (by omega) (fun υ hB hE' => hp υ (by rwa [show min y 60 = y by omega]) (Eqx.trans hE (Eqx.mono hE' (by simp))))
  · intro m i hi ih τ h60 hq hl
    simp (disch := omega) only [wbX0_reopen_8, I_lit, I_le, I_in, true_and, fe, I_cl, Int.toNat_natCast, I_sub, I_neg]
    refine ⟨fun z => absurd z (by omega), fun _ => ?_⟩
    have key2 := dn (P := fun f Z => Z ≤ 40 + y → ∀ υ : St, gI υ (21 + 4 * k0) 3 = II 60 → (∀ q, q ≠ 21 + 4 * k0 → q ≠ 21 + 4 * k0 + 3 → υ q = σ q) → (∀ n, n < i → gI υ (21 + 4 * k0 + 3) n = II (lat G n (40 + y))) → (gI υ (21 + 4 * k0 + 3) i = II (-1000) ∧ lat G i (40 + y) = lat G i Z ∨ gI υ (21 + 4 * k0 + 3) i = II (lat G i (40 + y)) ∧ -40 ≤ lat G i (40 + y) ∧ lat G i (40 + y) ≤ 60) → wbX0_reopen_27 k0 (wbX0_reopen_8 k0 post m) post f (II y) (II i) (II ((Z : Int) - 1 - 40)) υ) ?_ ?_ (40 + y)
    · obtain ⟨f, hf⟩ := key2
      refine ⟨f, ?_⟩
      have := hf (Nat.le_refl _) (sI τ (21 + 4 * k0 + 3) i (II (-1000))) (by rw [rI2 (by omega)]; exact h60) (fun q h1 h2 => by rw [ce_sI _ _ _ _ _ h2, hq q h1 h2]) (fun n hn => by rw [rI3 (by omega)]; exact hl n hn) (Or.inl ⟨rI1, rfl⟩)
      rw [show ((40 + y : Nat) : Int) - 1 - 40 = (y : Int) - 1 by omega] at this
      exact this
    · intro f _ υ u60 uq ul ui
      simp (disch := omega) only [wbX0_reopen_27, I_lit, I_lt, I_neg, fe, I_add]
      refine ⟨fun _ => ?_, fun z => absurd (by omega) z⟩
      refine ih υ u60 uq (fun n hn => ?_)
      by_cases e : n = i
      · subst e
        rcases ui with ⟨a, b⟩ | ⟨a, b⟩
        · rw [a, b]; rfl
        · exact a
      · exact ul n (by omega)
    · intro f Z ihZ hZ υ u60 uq ul ui
      have fin : wbX0_reopen_8 k0 post m (II y) (II ((i : Int) + 1)) υ ∨ (gI υ (21 + 4 * k0 + 3) i = II (-1000) ∧ lat G i (40 + y) = lat G i (Z + 1)) := by
        rcases ui with ⟨a, b⟩ | ⟨a, b⟩
        · exact Or.inr ⟨a, b⟩
        · refine Or.inl (ih υ u60 uq (fun n hn => ?_))
          by_cases e : n = i
          · subst e; exact a
          · exact ul n (by omega)
      have hlr : -1000 ≤ lat G i (40 + y) ∧ lat G i (40 + y) ≤ 60 ∨ True := Or.inr trivial
      rw [show ((Z + 1 : Nat) : Int) - 1 - 40 = (Z : Int) - 40 by omega]
      have e1000 : gI υ (21 + 4 * k0 + 3) i = II (-1000) ∨ ∃ z : Int, -40 ≤ z ∧ z ≤ 60 ∧ gI υ (21 + 4 * k0 + 3) i = II z := by
        rcases ui with ⟨a, b⟩ | ⟨a, b⟩
        · exact Or.inl a
        · exact Or.inr ⟨_, b.1, b.2, a⟩
      simp (disch := omega) only [wbX0_reopen_27, I_lit, I_lt, I_neg, fe, I_add, I_in, true_and, I_cl, Int.toNat_natCast]
      refine ⟨fun z => absurd z (by omega), fun _ => ⟨fun z => ?_, fun z => ?_⟩⟩
      · rcases fin with a | ⟨a, b⟩
        · exact a
        · exact absurd a z
      · rcases e1000 with a | ⟨w, w1, w2, w3⟩
        · rcases ui with ⟨a', b⟩ | ⟨a', b⟩
          · have hS' : Sums υ k0 G (40 + y) := fun Y hY g hg n hn => by rw [gI_of (uq _ (by omega) (by omega))]; exact hS Y hY g hg n hn
            have g0 := gt_nn hG Z 6 i
            have g1 := gt_le hG Z 6 i
            have hlz : lat G i (Z + 1) = if 0 < gt G Z 6 i then (Z : Int) - 40 else lat G i Z := rfl
            refine between1 (g := 6) (o := 60) u60 hS' (by omega) (by omega) (by omega) (by omega) hi ?_
            simp (disch := omega) only [I_lit, I_le]
            refine ⟨fun c => ?_, fun c => ?_⟩
            · rw [if_neg (by omega)] at hlz
              rw [show (Z : Int) - 40 + -1 = (Z : Int) - 1 - 40 by omega]
              exact ihZ (by omega) υ u60 uq ul (Or.inl ⟨a, b.trans hlz⟩)
            · rw [if_pos (by omega)] at hlz
              rw [show (Z : Int) - 40 + -1 = (Z : Int) - 1 - 40 by omega]
              refine ihZ (by omega) _ (by rw [rI2 (by omega)]; exact u60) (fun q h1 h2 => by rw [ce_sI _ _ _ _ _ h2, uq q h1 h2]) (fun n hn => by rw [rI3 (by omega)]; exact ul n hn) (Or.inr ⟨by rw [rI1, b, hlz], by omega, by omega⟩)
          · rw [a'] at a
            rw [I_eq (by omega)] at a
            omega
        · rw [w3, I_eq (by omega)] at z
          omega
theorem beginFrom_ok {σ : St} {k0 k1 : Nat} {G : GV} {post : St → Prop} (hG : GB G) (hk : k0 ≠ k1) (hS : Sums σ k1 G 40) (hN : Nil G 40)
    (hp : ∀ τ, Bk τ k0 G 0 → Eqx [21 + 4 * k0, 21 + 4 * k0 + 1, 21 + 4 * k0 + 2, 21 + 4 * k0 + 3] σ τ → post τ) : wpX0_beginFrom k0 k1 σ post := by
  simp (disch := omega) only [wpX0_beginFrom, I_lit, I_lt, I_cl, fe, Int.reduceToNat]
  refine ⟨by omega, by omega, by omega, by omega, by omega, ?_⟩
  refine reopen_ok (y := 0) hG ?_ (fun y hy => absurd hy (by omega)) hN (by omega) ?_
  · intro Y hY g hg n hn
    rw [rA1, pk_cpy_in (by omega) (by omega), Nat.sub_zero, Nat.zero_add]
    exact hS Y hY g hg n hn
  · intro τ hB hE
    refine hp τ hB ?_
    intro q hq
    rw [← hE q hq]
    simp only [List.mem_cons, List.not_mem_nil, or_false, not_or] at hq
    rw [ce_sA _ _ _ _ (by omega)]
