theorem stand_ok {σ : St} {K : KT} {k0 y p s x : Nat} {post : St → Prop} (C : CK σ K) (hy : y ≤ 61)
    (hp : ∀ τ, Eqx [47] σ τ → gR τ 47 5 = gR σ 47 5 → gI τ 47 6 = gI σ 47 6 → gI τ 47 7 = gI σ 47 7 → gR τ 47 8 = some (21 + 4 * k0) → gI τ 47 9 = II y → gI τ 47 10 = II p → gI τ 47 11 = II s → gI τ 47 12 = II x → gI τ 47 13 = II (lst K.1 y) → post τ) : wpX3_stand k0 (II y) (II p) (II s) (II x) σ post := by
  simp only [wpX3_stand, fe]
  refine listedIn_ok (m := K.1) (CL_eq C.2.1 ?_) C.2.2.1 hy ?_
  · intro q hq
    have : q ≠ 47 := by
      simp only [CE, List.mem_cons, List.not_mem_nil, or_false] at hq; omega
    rw [ce_sI _ _ _ _ _ this, ce_sI _ _ _ _ _ this, ce_sI _ _ _ _ _ this, ce_sI _ _ _ _ _ this, ce_sR _ _ _ _ _ this]
  · refine hp _ (Eqx_tI (Eqx_tI (Eqx_tI (Eqx_tI (Eqx_tI (Eqx_tR (Eqx.refl _ _) (by simp)) (by simp)) (by simp)) (by simp)) (by simp)) (by simp)) ?_ ?_ ?_ ?_ ?_ ?_ ?_ ?_ ?_
    · simp (disch := omega) only [gR_sI, rR3]
    · simp (disch := omega) only [rI3, gI_sR]
    · simp (disch := omega) only [rI3, gI_sR]
    · simp (disch := omega) only [gR_sI, rR1]
    · simp (disch := omega) only [rI3, rI1]
    · simp (disch := omega) only [rI3, rI1]
    · simp (disch := omega) only [rI3, rI1]
    · simp (disch := omega) only [rI3, rI1]
    · simp (disch := omega) only [rI1]
def BL (k0 : Nat) : List Nat := [21 + 4 * k0, 21 + 4 * k0 + 1, 21 + 4 * k0 + 2, 21 + 4 * k0 + 3, 48, 49, 50]
theorem BL_ok {k0 : Nat} (hk : k0 < 2) : ∀ q, q ∈ BL k0 → 21 ≤ q ∧ (q < 30 ∨ 41 < q) := by
  intro q hq
  simp only [BL, List.mem_cons, List.not_mem_nil, or_false] at hq
  omega
theorem fill_ok {σ : St} {K : KT} {G : GV} {k0 t y p s x M : Nat} {post : Int32 → St → Prop} (C : CK σ K) (hJ : Jd σ K k0 t y p s x) (hB : Bk σ k0 G y) (hk0 : k0 < 2) (hp3 : p < 3) (hs : s < 2) (hx : x < 2) (ht : (t : Int) = tas K y s) (hI : IY G y ((p * 2 + s) * 2 + x) 0) (hM : M ≤ 6)
    (hp : ∀ (τ : St) (k : Nat), k ≤ M → Eqx (BL k0) σ τ → Bk τ k0 (rocks K G y ((p * 2 + s) * 2 + x) M) y → unn K G y ((p * 2 + s) * 2 + x) M = (M : Int) - k → post (II k) τ) : wpX1_fill (II M) σ post := by
  have hW := C.2.2.1
  have w1 := hW.2.1
  have kn16 : kn K ≤ 16 := by unfold kn; omega
  have kne : K.1 1 = (kn K : Int) := by unfold kn; omega
  have hy : y ≤ 60 := hB.2.2.2.2.2
  have htn := tas_in hW C.2.2.2.2.2 y s hs
  have ht4 : (t : Int) < K.1 4 := by omega
  have w4 := hW.2.2.2.2.1
  have hc := ing_7 p hp3 s hs x hx
  have hch : ∀ G', ch K G' y ((p * 2 + s) * 2 + x) = pck (fun n => my K G' y p s x n t) (fun n => wo K G' y p s n t) (kn K) := by
    intro G'
    unfold ch
    rw [show ((p * 2 + s) * 2 + x) / 2 % 2 = s by omega, show ((p * 2 + s) * 2 + x) / 4 = p by omega, show ((p * 2 + s) * 2 + x) % 2 = x by omega, if_neg (by omega), ← ht, Int.toNat_natCast]
  generalize hcc : (p * 2 + s) * 2 + x = c at *
  obtain ⟨-, -, h3, h4, h5, -⟩ := C.2.2.2.1 t ht4
  have wr : ∀ G', GB G' → ∀ n, n < kn K → -2000000000 < wo K G' y p s n t ∧ wo K G' y p s n t < 2000000000 := fun G' hG' n hn => h5 _ (wv_wb hG' hW (C.1.2.1 n hn).2.2.2 hy h4.1)
  -- the loop that gives
  have gives : ∀ τ : St, Eqx (BL k0) σ τ → Bk τ k0 G y → MW τ (fun n => my K G y p s x n t) (fun n => wo K G y p s n t) (kn K) → ∃ f, wbX1_fill_50 post f (II M) (II 0) τ := by
    intro τ0 tE0 tB0 tM0
    have key := up (P := fun f k => ∀ τ : St, Eqx (BL k0) σ τ → Bk τ k0 (rocks K G y c k) y → MW τ (fun n => my K (rocks K G y c k) y p s x n t) (fun n => wo K (rocks K G y c k) y p s n t) (kn K) → unn K G y c k = 0 → wbX1_fill_50 post f (II M) (II k) τ) M ?_ ?_ 0 (by omega)
    · obtain ⟨f, hf⟩ := key
      exact ⟨f, hf τ0 tE0 tB0 tM0 rfl⟩
    · intro f τ tE tB tM tu
      simp (disch := omega) only [wbX1_fill_50, I_le]
      refine ⟨fun _ => hp τ M (Nat.le_refl _) tE tB (by rw [tu]; omega), fun z => absurd (by omega) z⟩
    · intro f k hk ih τ tE tB tM tu
      have C2 := CK_x C tE (BL_ok hk0)
      have hIk := IY_rocks (K := K) hI hc kn16 k (by omega)
      have cr := ch_range K (rocks K G y c k) y c
      simp (disch := omega) only [wbX1_fill_50, I_le]
      refine ⟨fun z => absurd z (by omega), fun _ => ?_⟩
      refine pick_ok (N := kn K) (by rw [C2.1.1, kne]) kn16 tM ?_
      rw [← hch]
      have hrs : rocks K G y c (k + 1) = rock K (rocks K G y c k) y c := rfl
      have hus : unn K G y c (k + 1) = unn K G y c k + (if ch K (rocks K G y c k) y c = -1 then 1 else 0) := rfl
      simp (disch := omega) only [I_lit, I_neg, I_eq]
      refine ⟨fun d => ?_, fun d => ?_⟩
      · have hr2 : rocks K G y c (k + 1) = gadd (rocks K G y c k) (40 + y) c (ch K (rocks K G y c k) y c).toNat 1 := by
          rw [hrs]; unfold rock; rw [if_neg d]
        rw [if_neg d] at hus
        have cr2 := cr.2 d
        generalize hP : (ch K (rocks K G y c k) y c).toNat = P at *
        have hPi : ch K (rocks K G y c k) y c = (P : Int) := by omega
        rw [hPi]
        have J2 := Jd_eq hJ (tE 47 (by simp [BL]; omega)).symm
        unfold wpX3_give
        refine ⟨k0, J2.2.1, hk0, ?_⟩
        rw [J2.2.2.2.1, J2.2.2.2.2.1, J2.2.2.2.2.2.1]
        refine give_ok tB (fun Y' n' => gt_nn hIk.1.gb Y' 6 n') hp3 hs hx (by omega) ?_
        rw [hcc, ← hr2]
        intro υ uB uE
        have hI2 := IY_rocks (K := K) hI hc kn16 (k + 1) (by omega)
        have C3 : CK υ K := CK_x C2 uE (fun q hq => by simp only [List.mem_cons, List.not_mem_nil, or_false] at hq; omega)
        have J3 := Jd_eq J2 (uE 47 (by simp; omega)).symm
        refine weigh_ok C3 J3 uB hI2.1.gb hk0 hp3 hs hx (by omega) ht4 ?_
        intro ρ rE r1 r2 r3 r4
        have fE : Eqx (BL k0) σ ρ := Eqx.trans tE (Eqx.trans (Eqx.mono uE (by simp [BL])) (Eqx.mono rE (by simp [BL])))
        simp only [fe, I_add]
        refine ih ρ fE (Bk_eq uB (fun q a b => (rE q (by simp; omega)).symm)) ?_ (by rw [hus, tu]; rfl)
        intro i hi
        by_cases e : i = P
        · subst e
          exact ⟨r3, fun _ => ⟨r1, wr _ hI2.1.gb _ hi⟩⟩
        · have hw : wv K (rocks K G y c (k + 1)) (40 + y) p s i t = wv K (rocks K G y c k) (40 + y) p s i t := by rw [hr2]; exact wv_other K _ y c P 1 hc e p s t
          have hm : my K (rocks K G y c (k + 1)) y p s x i t = my K (rocks K G y c k) y p s x i t := by unfold my; rw [hw]
          have hwo : wo K (rocks K G y c (k + 1)) y p s i t = wo K (rocks K G y c k) y p s i t := by unfold wo; rw [hw]
          obtain ⟨m1, m2⟩ := tM i hi
          show gI ρ 50 i = II (if my K (rocks K G y c (k + 1)) y p s x i t = true then 1 else 0) ∧ (my K (rocks K G y c (k + 1)) y p s x i t = true → gI ρ 49 i = II (wo K (rocks K G y c (k + 1)) y p s i t) ∧ -2000000000 < wo K (rocks K G y c (k + 1)) y p s i t ∧ wo K (rocks K G y c (k + 1)) y p s i t < 2000000000)
          rw [hm, hwo, r2 i e, r4 i e, Eqx_gI uE (by simp; omega), Eqx_gI uE (by simp; omega)]
          exact ⟨m1, m2⟩
      · obtain ⟨s1, s2⟩ := rocks_stop d (M - k)
        rw [show k + (M - k) = M by omega] at s1 s2
        exact hp τ k (by omega) tE (by rw [s1]; exact tB) (by rw [s2, tu]; omega)
  -- the loop that weighs
  unfold wpX1_fill
  have key := up (P := fun f i => ∀ τ : St, Eqx (BL k0) σ τ → Bk τ k0 G y → (∀ j, j < i → gI τ 50 j = II (if my K G y p s x j t then 1 else 0) ∧ (my K G y p s x j t = true → gI τ 49 j = II (wo K G y p s j t) ∧ -2000000000 < wo K G y p s j t ∧ wo K G y p s j t < 2000000000)) → wbX1_fill_2 post f (II M) (II i) τ) (kn K) ?_ ?_ 0 (by omega)
  · obtain ⟨f, hf⟩ := key
    exact ⟨f, hf σ (Eqx.refl _ _) hB (fun j hj => absurd hj (by omega))⟩
  · intro f τ tE tB tM
    have C2 := CK_x C tE (BL_ok hk0)
    simp (disch := omega) only [wbX1_fill_2, C2.1.1, I_le]
    exact ⟨fun _ => gives τ tE tB tM, fun z => absurd (by omega) z⟩
  · intro f i hi ih τ tE tB tM
    have C2 := CK_x C tE (BL_ok hk0)
    have v0 : vp_nar .boolean (II 0) = II 0 := rfl
    simp (disch := omega) only [wbX1_fill_2, C2.1.1, I_le, I_in, true_and, fe, I_cl, Int.toNat_natCast, I_lit, v0]
    refine ⟨fun z => absurd z (by omega), fun _ => ?_⟩
    have tE2 : Eqx (BL k0) σ (sI τ 50 i (II 0)) := Eqx_tI tE (by simp [BL])
    have C3 := CK_x C tE2 (BL_ok hk0)
    have J3 := Jd_eq hJ (tE2 47 (by simp [BL]; omega)).symm
    have tB2 : Bk (sI τ 50 i (II 0)) k0 G y := Bk_eq tB (fun q a b => ce_sI _ _ _ _ _ (by omega))
    refine fits_ok C3.1 hW J3 (by omega) hx hi ?_
    cases hf : ft K y x i with
    | false =>
      refine ⟨fun _ => ?_, fun z => absurd rfl z⟩
      simp only [I_add]
      refine ih _ tE2 tB2 (fun j hj => ?_)
      by_cases e : j = i
      · subst e
        have : my K G y p s x j t = false := by unfold my; rw [hf]; rfl
        rw [this, rI1]
        exact ⟨rfl, fun z => by cases z⟩
      · rw [rI3 e, rI2 (by omega)]; exact tM j (by omega)
    | true =>
      refine ⟨fun z => ?_, fun _ => ?_⟩
      · simp (disch := omega) only [if_true, I_eq] at z; omega
      · refine weigh_ok C3 J3 tB2 hI.1.gb hk0 hp3 hs hx hi ht4 ?_
        intro υ uE u1 u2 u3 u4
        simp only [fe, I_add]
        refine ih υ (Eqx.trans tE2 (Eqx.mono uE (by simp [BL]))) (Bk_eq tB2 (fun q a b => (uE q (by simp; omega)).symm)) (fun j hj => ?_)
        by_cases e : j = i
        · subst e
          exact ⟨u3, fun _ => ⟨u1, wr G hI.1.gb j hi⟩⟩
        · rw [u2 j e, u4 j e, rI3 e, rI2 (by omega)]; exact tM j (by omega)
theorem unn_none {K : KT} {G : GV} {y c : Nat} (h : tas K y (c / 2 % 2) = -1) (k : Nat) : rocks K G y c k = G ∧ unn K G y c k = k := by
  have hc : ∀ G', ch K G' y c = -1 := fun G' => by unfold ch; rw [if_pos h]
  induction k with
  | zero => exact ⟨rfl, rfl⟩
  | succ k ih =>
    refine ⟨?_, ?_⟩
    · show rock K (rocks K G y c k) y c = G
      unfold rock; rw [if_pos (hc _)]; exact ih.1
    · show unn K G y c k + (if _ then 1 else 0) = _
      rw [if_pos (hc _), ih.2]; omega
def BM (k0 : Nat) : List Nat := [21 + 4 * k0, 21 + 4 * k0 + 1, 21 + 4 * k0 + 2, 21 + 4 * k0 + 3, 47, 48, 49, 50]
theorem BM_ok {k0 : Nat} (hk : k0 < 2) : ∀ q, q ∈ BM k0 → 21 ≤ q ∧ (q < 30 ∨ 41 < q) := by
  intro q hq
  simp only [BM, List.mem_cons, List.not_mem_nil, or_false] at hq
  omega
theorem pass_ok {σ : St} {K : KT} {G : GV} {k0 y : Nat} {post : Int32 → St → Prop} (C : CK σ K) (hk0 : k0 < 2) (hS : Sums σ k0 G (40 + y)) (hR : Rows σ k0 G y) (hLt : Lat σ k0 G (40 + y)) (hN : Nil G (40 + y)) (hG : GC G) (hy : y ≤ 60)
    (h6 : gI σ 47 6 = II (kw K)) (h7 : gI σ 47 7 = II (if kq K then 1 else 0))
    (hp : ∀ τ, Eqx (BM k0) σ τ → Bk τ k0 (yrG K G y 12) y → gI τ 47 6 = II (kw K) → gI τ 47 7 = II (if kq K then 1 else 0) → post (II (yrU K G y 12)) τ) : wpX1_pass k0 (II y) (II (kb K)) σ post := by
  have hW := C.2.2.1
  have w1 := hW.2.1
  have w0 := hW.1
  have w4 := hW.2.2.2.2.1
  have kce : K.1 0 = (kc K : Int) := by unfold kc; omega
  have hb := C.2.2.2.2.2
  have hI := IY_start hG hN
  unfold wpX1_pass
  refine open_ok hS hR hLt hN hy ?_
  intro τ0 tB0 tE0
  have key := up (P := fun f c => ∀ τ : St, Eqx (BM k0) σ τ → Bk τ k0 (yrG K G y c) y → gI τ 47 6 = II (kw K) → gI τ 47 7 = II (if kq K then 1 else 0) → wbX1_pass_11 k0 post f (II y) (II (kb K)) (II (yrU K G y c)) (II c) τ) 12 ?_ ?_ 0 (by omega)
  · obtain ⟨f, hf⟩ := key
    exact ⟨f, hf τ0 (Eqx.mono tE0 (by simp [BM])) tB0 (by rw [Eqx_gI tE0 (by simp; omega)]; exact h6) (by rw [Eqx_gI tE0 (by simp; omega)]; exact h7)⟩
  · intro f τ tE tB t6 t7
    simp (disch := omega) only [wbX1_pass_11, I_lit, I_le]
    exact ⟨fun _ => hp τ tE tB t6 t7, fun z => absurd (by omega) z⟩
  · intro f c hc ih τ tE tB t6 t7
    have C2 := CK_x C tE (BM_ok hk0)
    have L2 := C2.2.1
    have mi := mny_in hW y c hc
    have ta := tas_in hW hb y (c / 2 % 2) (by omega)
    have hIc := IY_yr hW hI c hc
    have ec : c = (c / 4 * 2 + c / 2 % 2) * 2 + c % 2 := by omega
    have hys : yrU K G y (c + 1) = yrU K G y c + unn K (yrG K G y c) y c (mny K y c).toNat := rfl
    have hgs : yrG K G y (c + 1) = rocks K (yrG K G y c) y c (mny K y c).toNat := rfl
    -- how many, by which taste
    have many : ∀ post' : Int32 → St → Prop, post' (II (mny K y c)) τ → wpX4_cradlesIn (II y) (II c) τ post' := by
      intro post' hh
      have e0 := L2.1
      have e11 := L2.2.2.2.2.2.1 c hc
      simp (disch := omega) only [wpX4_cradlesIn, wpX4_wentBy, e0, I_lit, I_lt, I_le, I_eq, I_in, true_and, I_cl, Int.toNat_natCast, e11, I_mul, I_add]
      refine ⟨fun z => absurd z (by omega), fun _ => ⟨fun d => ⟨fun _ => ?_, fun z => absurd trivial z⟩, fun d => ⟨fun z => absurd z (by omega), fun _ => ?_⟩⟩⟩
      · unfold mny at hh; rw [if_neg (by omega)] at hh; exact hh
      · have e12 := L2.2.2.2.2.2.2.1 y (by omega) c hc
        rw [show ((y : Int) * 12 + c).toNat = y * 12 + c by omega, e12]
        unfold mny at hh; rw [if_pos (by omega)] at hh; exact hh
    have row56 : ∀ T : Int, T = tas K y (c / 2 % 2) → wbX1_pass_56 k0 (wbX1_pass_11 k0 post f) post (II y) (II (kb K)) (II (yrU K G y c)) (II c) (II (mny K y c)) (II ((c / 2 % 2 : Nat) : Int)) (II T) τ := by
      intro T hT
      simp (disch := omega) only [wbX1_pass_56, I_lit, I_neg, I_eq, I_le, fe, I_add]
      refine ⟨fun d => ⟨fun g => ?_, fun g => ?_⟩, fun d => ?_⟩
      · have m0 : (mny K y c).toNat = 0 := by omega
        rw [m0] at hys hgs
        refine (show wbX1_pass_11 k0 post f (II y) (II (kb K)) (II (yrU K G y c)) (II ((c : Int) + 1)) τ from ?_)
        have := ih τ tE (by rw [hgs]; exact tB) t6 t7
        rw [hys] at this
        simp only [unn, Int.add_zero] at this
        exact this
      · simp (disch := omega) only [wpX4_placeOf, wpX4_sexOf, I_lit, I_div, I_mul, I_sub]
        rw [show (c : Int) / 4 = ((c / 4 : Nat) : Int) by omega, show (c : Int) - (c : Int) / 2 * 2 = ((c % 2 : Nat) : Int) by omega]
        refine stand_ok C2 (by omega) ?_
        intro υ uE u5 u6 u7 u8 u9 u10 u11 u12 u13
        simp (disch := omega) only [I_in, true_and, fe, I_cl]
        have C3 : CK (sR υ 47 5 (some (30 + 2 * T.toNat))) K := CK_x C2 (Eqx_tR uE (by simp)) (fun q hq => by simp only [List.mem_cons, List.not_mem_nil, or_false] at hq; omega)
        have J3 : Jd (sR υ 47 5 (some (30 + 2 * T.toNat))) K k0 T.toNat y (c / 4) (c / 2 % 2) (c % 2) := by
          refine ⟨rR1, ?_, ?_, ?_, ?_, ?_, ?_, ?_, ?_⟩
          · rw [rR3 (by omega)]; exact u8
          · rw [gI_sR]; exact u9
          · rw [gI_sR]; exact u10
          · rw [gI_sR]; exact u11
          · rw [gI_sR]; exact u12
          · rw [gI_sR]; exact u13
          · rw [gI_sR, u6]; exact t6
          · rw [gI_sR, u7]; exact t7
        have B3 : Bk (sR υ 47 5 (some (30 + 2 * T.toNat))) k0 (yrG K G y c) y := Bk_eq tB (fun q a b => by rw [ce_sR _ _ _ _ _ (by omega), ← uE q (by simp; omega)])
        have hfill := fill_ok (M := (mny K y c).toNat) (post := fun r_10 σ_11 => wbX1_pass_11 k0 post f (II y) (II (kb K)) (II (yrU K G y c) + (II (mny K y c) - r_10)) (II ((c : Int) + 1)) σ_11) C3 J3 B3 hk0 (by omega) (by omega) (by omega) (by omega) (by rw [← ec]; exact hIc) (by omega) (by
          rw [← ec]
          intro ω k hk wE wB wu
          simp only [I_sub, I_add]
          have := ih ω (Eqx.trans tE (Eqx.trans (Eqx_tR (Eqx.mono uE (by simp [BM])) (by simp [BM])) (Eqx.mono wE (by simp [BL, BM])))) (by rw [hgs]; exact wB) (by rw [Eqx_gI wE (by simp [BL]; omega)]; exact J3.2.2.2.2.2.2.2.1) (by rw [Eqx_gI wE (by simp [BL]; omega)]; exact J3.2.2.2.2.2.2.2.2)
          rw [hys, wu] at this
          rw [show mny K y c - (k : Int) = (((mny K y c).toNat : Nat) : Int) - k by omega]
          exact this)
        rw [show (((mny K y c).toNat : Nat) : Int) = mny K y c by omega] at hfill
        exact hfill
      · obtain ⟨n1, n2⟩ := unn_none (K := K) (G := yrG K G y c) (y := y) (c := c) (by omega) (mny K y c).toNat
        have := ih τ tE (by rw [hgs, n1]; exact tB) t6 t7
        rw [hys, n2] at this
        rw [show mny K y c = (((mny K y c).toNat : Nat) : Int) by omega]
        exact this
    simp (disch := omega) only [wbX1_pass_11, I_lit, I_le]
    refine ⟨fun z => absurd z (by omega), fun _ => ?_⟩
    refine many _ ?_
    simp (disch := omega) only [wpX4_standingOf, I_lit, I_div, I_mul, I_sub, I_neg, I_eq]
    rw [show (c : Int) / 2 - (c : Int) / 2 / 2 * 2 = ((c / 2 % 2 : Nat) : Int) by omega]
    refine ⟨fun d => row56 _ (by unfold tas; rw [if_pos d]), fun d => ?_⟩
    have e0 := L2.1
    have e13 := L2.2.2.2.2.2.2.2.1 (c / 2 % 2) (by omega)
    simp (disch := omega) only [wpX4_heldIn, wpX4_wentBy, e0, I_lit, I_lt, I_le, I_eq, I_in, true_and, I_cl, Int.toNat_natCast, e13, I_mul, I_add]
    refine ⟨fun z => absurd z (by omega), fun _ => ⟨fun g => ⟨fun _ => row56 _ ?_, fun z => absurd trivial z⟩, fun g => ⟨fun z => absurd z (by omega), fun _ => ?_⟩⟩⟩
    · unfold tas; rw [if_neg (by omega), if_neg (by omega)]
    · have e14 := L2.2.2.2.2.2.2.2.2.1 y (by omega) (c / 2 % 2) (by omega)
      rw [show ((y : Int) * 2 + ((c / 2 % 2 : Nat) : Int)).toNat = y * 2 + c / 2 % 2 by omega, e14]
      exact row56 _ (by unfold tas; rw [if_neg (by omega), if_pos (by omega)])
