theorem years_ref {σ : St} {m : MT} {n : Nat} {post : Int32 → St → Prop} (hM : RM σ m) (h0 : 0 ≤ m 0) (hc : m 0 + n ≤ 61)
    (hp : ∀ τ, (∀ q, q ≠ 76 → τ q = σ q) → RM τ (ys m n) → post (II (ys m n 0)) τ) : ∃ f, wbX12_years_27 post f (II n) (II 0) σ := by
  have key := up (P := fun f i => ∀ τ : St, (∀ q, q ≠ 76 → τ q = σ q) → RM τ (ys m i) → wbX12_years_27 post f (II n) (II i) τ) n ?_ ?_ 0 (by omega)
  · obtain ⟨f, hf⟩ := key
    exact ⟨f, hf σ (fun _ _ => rfl) hM⟩
  · intro f τ tE tM
    have e0 := ys_0 m n
    simp (disch := omega) only [wbX12_years_27, I_le, I_lit, I_in, true_and, I_cl, Int.reduceToNat, tM 0]
    exact ⟨fun _ => hp τ tE tM, fun z => absurd (by omega) z⟩
  · intro f i hi ih τ tE tM
    have e0 := ys_0 m i
    obtain ⟨c, hcc⟩ : ∃ c : Nat, ys m i 0 = c := ⟨(ys m i 0).toNat, by omega⟩
    have hct : (ys m i 0).toNat = c := by omega
    have t0' : gI τ 76 0 = II (c : Int) := by rw [tM 0, hcc]
    simp (disch := omega) only [wbX12_years_27, I_le, I_lit, I_in, true_and, I_cl, Int.reduceToNat, t0', fe, I_mul, I_add]
    refine ⟨fun z => absurd z (by omega), fun _ => ?_⟩
    -- the row of the log, cell by cell
    have key2 := up (P := fun g k => ∀ υ : St, (∀ q, q ≠ 76 → υ q = σ q) → (∀ j, gI υ 76 j = II (if 1000 + 14 * c ≤ j ∧ j < 1000 + 14 * c + k then ys m i (10 + (j - (1000 + 14 * c))) else ys m i j)) → wbX12_years_49 (wbX12_years_27 post f) post g (II n) (II i) (II (1000 + 14 * (c : Int))) (II k) υ) 12 ?_ ?_ 0 (by omega)
    · obtain ⟨g, hg⟩ := key2
      refine ⟨g, hg τ tE (fun j => ?_)⟩
      rw [tM j, if_neg (by omega)]
    · intro g υ uE uM
      have u7 : gI υ 76 7 = II (ys m i 7) := by rw [uM 7, if_neg (by omega)]
      have u8 : ∀ v, gI (sI υ 76 (1000 + 14 * c + 12) v) 76 8 = II (ys m i 8) := fun v => by rw [rI3 (by omega), uM 8, if_neg (by omega)]
      have u0 : ∀ v w, gI (sI (sI υ 76 (1000 + 14 * c + 12) v) 76 (1000 + 14 * c + 13) w) 76 0 = II (c : Int) := fun v w => by rw [rI3 (by omega), rI3 (by omega), uM 0, if_neg (by omega), hcc]
      have j1 : (1000 + 14 * (c : Int) + 12).toNat = 1000 + 14 * c + 12 := by omega
      have j2 : (1000 + 14 * (c : Int) + 13).toNat = 1000 + 14 * c + 13 := by omega
      simp (disch := omega) only [wbX12_years_49, I_le, I_lit, I_in, true_and, I_cl, Int.reduceToNat, fe, I_add, j1, j2, u7, u8, u0]
      refine ⟨fun _ => ?_, fun z => absurd (by omega) z⟩
      refine ih _ (fun q hq => by rw [ce_sI _ _ _ _ _ hq, ce_sI _ _ _ _ _ hq, ce_sI _ _ _ _ _ hq]; exact uE q hq) (fun j => ?_)
      show _ = II (yS (ys m i) j)
      by_cases a0 : j = 0
      · subst a0; rw [rI1, yS_0, hcc]
      · rw [rI3 a0]
        by_cases a13 : j = 1000 + 14 * c + 13
        · subst a13
          rw [rI1]
          have := yS_s (m := ys m i) (s := 1) (by omega)
          rw [hct] at this
          rw [show 1000 + 14 * c + 13 = 1000 + 14 * c + 12 + 1 by omega, this]
        · rw [rI3 a13]
          by_cases a12 : j = 1000 + 14 * c + 12
          · subst a12
            rw [rI1]
            have := yS_s (m := ys m i) (s := 0) (by omega)
            rw [hct] at this
            rw [show 1000 + 14 * c + 12 = 1000 + 14 * c + 12 + 0 by omega, this]
          · rw [rI3 a12, uM j]
            by_cases a : 1000 + 14 * c ≤ j ∧ j < 1000 + 14 * c + 12
            · rw [if_pos a]
              have := yS_c (m := ys m i) (c := j - (1000 + 14 * c)) (by omega)
              rw [hct, show 1000 + 14 * c + (j - (1000 + 14 * c)) = j by omega] at this
              rw [this]
            · rw [if_neg a, yS_ne a0 (by omega)]
    · intro g k hk ih2 υ uE uM
      have j1 : (1000 + 14 * (c : Int) + k).toNat = 1000 + 14 * c + k := by omega
      have j2 : (10 + (k : Int)).toNat = 10 + k := by omega
      have u10 : gI υ 76 (10 + k) = II (ys m i (10 + k)) := by rw [uM, if_neg (by omega)]
      simp (disch := omega) only [wbX12_years_49, I_le, I_lit, I_in, true_and, I_cl, fe, I_add, j1, j2, u10]
      refine ⟨fun z => absurd z (by omega), fun _ => ?_⟩
      refine ih2 _ (fun q hq => by rw [ce_sI _ _ _ _ _ hq]; exact uE q hq) (fun j => ?_)
      by_cases a : j = 1000 + 14 * c + k
      · subst a
        rw [rI1, if_pos (by omega)]
        congr 2; omega
      · rw [rI3 a, uM j]
        by_cases b : 1000 + 14 * c ≤ j ∧ j < 1000 + 14 * c + k
        · rw [if_pos b, if_pos (by omega)]
        · rw [if_neg b, if_neg (by omega)]
theorem years_ok {σ : St} (h : Inv σ) (a : Int32) : wpX11_years a σ (fun r τ => wpX12_years a τ (Q2 r)) := by
  obtain ⟨m, mi, U, T, hA, hB⟩ := id h
  obtain ⟨z, z1, z2, rfl⟩ := I_of a
  have hM := hA.1
  have hW := hA.2.2.1
  have w00 := hW.1
  have c1 := hB.2.2.1.1
  have ref0 : ¬ ((1 ≤ z ∧ z ≤ 20) ∧ m 0 + z ≤ 61) → wpX12_years (II z) σ (Q2 (II (-1))) := by
    intro hz
    unfold wpX12_years
    simp only [I_lit]
    refine in_ok (by omega) (fun y => t1 ?_) (fun y => t0 ⟨rfl, h⟩)
    simp (disch := omega) only [I_lit, I_in, true_and, I_cl, Int.reduceToNat, hM 0, I_add, I_le]
    exact ⟨fun x => absurd ⟨y, x⟩ hz, fun x => ⟨rfl, h⟩⟩
  unfold wpX11_years
  simp only [I_lit]
  refine wi_ok (by omega) (fun y => t1 ?_) (fun y => t0 (ref0 (fun w => y w.1)))
  rw [c1, I_add, I_le (by omega)]
  refine ⟨fun x => ?_, fun x => ref0 (fun w => x w.2)⟩
  obtain ⟨n, rfl⟩ : ∃ n : Nat, z = n := ⟨z.toNat, by omega⟩
  refine years_cls hA hB (by omega) x ?_
  intro τ tE tC tB t15 t6 t7
  have tM : RM τ m := fun k => by rw [Eqx_gI tE (by simp)]; exact hM k
  unfold wpX12_years
  simp only [I_lit]
  refine in_ok (by omega) (fun _ => t1 ?_) (fun w => absurd y w)
  have t0' : gI τ 76 0 = II (m 0) := tM 0
  simp (disch := omega) only [I_lit, I_in, true_and, I_cl, Int.reduceToNat, t0', I_add, I_le]
  refine ⟨fun _ => ?_, fun w => absurd x w⟩
  refine years_ref tM w00.1 x ?_
  intro υ uE uM
  refine ⟨rfl, ?_⟩
  obtain ⟨b1, b2, b3, b4, b5, b6, b7, b8, b9, b10, b11⟩ := id hB
  obtain ⟨i1, i2, i3, i4, i5, i6, i7⟩ := ys_all (U := U) (T := T) hW hA.2.2.2.2.1 hA.2.2.2.2.2.2.1 n x
  have e : ∀ q, q ≠ 76 → q ∉ [9, 12, 14, 15, 21, 22, 23, 24, 47, 48, 49, 50] → υ q = σ q := fun q p1 p2 => by rw [uE q p1, ← tE q p2]
  have y1 : ∀ k, ys m k 1 = m 1 ∧ ys m k 5 = m 5 := by
    intro k
    induction k with
    | zero => exact ⟨rfl, rfl⟩
    | succ k ih => exact ⟨by show yS (ys m k) 1 = _; rw [yS_ne (by omega) (by omega), ih.1], by show yS (ys m k) 5 = _; rw [yS_ne (by omega) (by omega), ih.2]⟩
  refine ⟨ys m n, mi, U, T, ⟨uM, fun k => by rw [gI_of (e 77 (by omega) (by simp))]; exact hA.2.1 k, i1, hA.2.2.2.1, i2, hA.2.2.2.2.2.1, i3, hA.2.2.2.2.2.2.2.1, Ex1.trans hA.2.2.2.2.2.2.2.2 ⟨i4, fun _ => i5⟩ (Or.inl i5)⟩, ?_⟩
  refine ⟨NMs_c b1 (fun q p1 p2 => e q (by omega) (by simp; omega)) (e 78 (by omega) (by simp)) (y1 n).1 (fun k hk => i4.2.2.2.2.2.2.1 k hk), ⟨by rw [i6]; exact NP_c b2.1 (e 83 (by omega) (by simp)) (e 84 (by omega) (by simp)), by rw [i6]; exact RW_eq b2.2 (fun q p1 p2 => e q (by omega) (by simp; omega))⟩, CL_eq tC (fun q hq => uE q ?_), ⟨by rw [i6]; exact CW_eq hW.2.2.2.2.1.2 b4.1 (fun q p1 p2 => e q (by omega) (by simp; omega)), by rw [gI_of (e 0 (by omega) (by simp)), i6]; exact b4.2⟩, Bk_eq tB (fun q p1 p2 => uE q (by omega)), fun y hy => by rw [gI_of (uE 15 (by omega))]; exact t15 y hy, PRs_c b7 (fun q p1 p2 => e q (by omega) (by simp; omega)) (by rw [gI_of (e 64 (by omega) (by simp))]) (y1 n).2 i4.2.2.2.2.2.2.2.2.2.2.2.2.2.1, RUs_m b8 (by rw [gI_of (e 64 (by omega) (by simp))]) (e 69 (by omega) (by simp)) (by rw [i6]; exact Int.le_refl _) i7, ⟨by rw [gI_of (uE 47 (by omega))]; exact t6, by rw [gI_of (uE 47 (by omega))]; exact t7⟩, TPs_c b10 (fun k _ => by rw [gI_of (e 42 (by omega) (by simp))]) (e 43 (by omega) (by simp)) (e 79 (by omega) (by simp)) (fun k p1 p2 => by rw [gI_of (e 75 (by omega) (by simp))]), IMs_c b11 (fun q p1 p2 => e q (by omega) (by simp; omega))⟩
  simp only [CE, List.mem_cons, List.not_mem_nil, or_false] at hq; omega
/-! the image -/
theorem copies_ok {σ : St} {a b : MT} {out : Int} {post : St → Prop} (hM : RM σ a) (hI : ∀ k, gI σ 77 k = II (b k)) (ho : out = 0 ∨ out = 1) (hhi : ∀ k, 9680 ≤ k → a k = b k)
    (hp : ∀ τ, Eqx [76, 77] σ τ → RM τ (if out = 0 then b else a) → (∀ k, gI τ 77 k = II ((if out = 0 then b else a) k)) → post τ) : wpX12_copies (II out) σ post := by
  unfold wpX12_copies
  have key := up (P := fun f i => ∀ τ : St, Eqx [76, 77] σ τ → (∀ k, gI τ 76 k = II (if out = 0 ∧ k < i then b k else a k)) → (∀ k, gI τ 77 k = II (if out = 1 ∧ k < i then a k else b k)) → wbX12_copies_2 post f (II out) (II i) τ) 9680 ?_ ?_ 0 (by omega)
  · obtain ⟨f, hf⟩ := key
    refine ⟨f, hf σ (Eqx.refl _ _) (fun k => by rw [if_neg (by omega)]; exact hM k) (fun k => by rw [if_neg (by omega)]; exact hI k)⟩
  · intro f τ tE t76 t77
    simp (disch := omega) only [wbX12_copies_2, I_le, I_lit]
    refine ⟨fun _ => hp τ tE (fun k => ?_) (fun k => ?_), fun z => absurd (by omega) z⟩
    · rw [t76]
      by_cases c : out = 0
      · rw [if_pos c]
        by_cases d : k < 9680
        · rw [if_pos ⟨c, d⟩]
        · rw [if_neg (fun z => d z.2), hhi k (by omega)]
      · rw [if_neg c, if_neg (fun z => c z.1)]
    · rw [t77]
      by_cases c : out = 0
      · rw [if_pos c, if_neg (by omega)]
      · rw [if_neg c]
        by_cases d : k < 9680
        · rw [if_pos ⟨by omega, d⟩]
        · rw [if_neg (fun z => d z.2), hhi k (by omega)]
  · intro f i hi ih τ tE t76 t77
    simp (disch := omega) only [wbX12_copies_2, I_le, I_lit, I_eq, I_in, true_and, I_cl, Int.toNat_natCast, fe, I_add]
    refine ⟨fun z => absurd z (by omega), fun _ => ⟨fun c => ?_, fun c => ?_⟩⟩
    · refine ih _ (Eqx_tI tE (by simp)) (fun k => ?_) (fun k => ?_)
      · by_cases e : k = i
        · subst e; rw [rI1, t77, if_neg (by omega), if_pos (by omega)]
        · rw [rI3 e, t76]
          by_cases d : out = 0 ∧ k < i
          · rw [if_pos d, if_pos (by omega)]
          · rw [if_neg d, if_neg (by omega)]
      · rw [rI2 (by omega), t77, if_neg (by omega), if_neg (by omega)]
    · refine ih _ (Eqx_tI tE (by simp)) (fun k => ?_) (fun k => ?_)
      · rw [rI2 (by omega), t76, if_neg (by omega), if_neg (by omega)]
      · by_cases e : k = i
        · subst e; rw [rI1, t76, if_neg (by omega), if_pos (by omega)]
        · rw [rI3 e, t77]
          by_cases d : out = 1 ∧ k < i
          · rw [if_pos d, if_pos (by omega)]
          · rw [if_neg d, if_neg (by omega)]
