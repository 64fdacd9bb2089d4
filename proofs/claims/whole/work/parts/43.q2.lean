/-! queries: unnamed, together -/
theorem wentBy_ok {σ : St} {a M : Int} {post : Int32 → St → Prop} (h : gI σ 9 0 = II M) (hM : 0 ≤ M ∧ M ≤ 61) (ha : -2147483648 ≤ a ∧ a < 2147483648) (h1 : 0 ≤ a ∧ a < M → post (II 1) σ) (h0 : ¬ (0 ≤ a ∧ a < M) → post (II 0) σ) : wpX4_wentBy (II a) σ post := by
  simp (disch := omega) only [wpX4_wentBy, h, I_lt, I_le, I_lit]
  exact ⟨fun z => h0 (by omega), fun z => ⟨fun y => h0 (by omega), fun y => h1 (by omega)⟩⟩
theorem isGone_ok {σ : St} {m : MT} {a : Int} {post : Int32 → St → Prop} (hM : RM σ m) (hN : 0 ≤ m 0 ∧ m 0 ≤ 61) (ha : -2147483648 ≤ a ∧ a < 2147483648) (h1 : 0 ≤ a ∧ a < m 0 → post (II 1) σ) (h0 : ¬ (0 ≤ a ∧ a < m 0) → post (II 0) σ) : wpX12_isGone (II a) σ post := by
  have e0 : gI σ 76 0 = II (m 0) := hM 0
  simp (disch := omega) only [wpX12_isGone, I_lit, I_in, true_and, I_cl, Int.reduceToNat, e0, I_sub]
  exact in_ok (by omega) (fun z => ⟨Or.inr rfl, h1 (by omega)⟩) (fun z => ⟨Or.inl rfl, h0 (by omega)⟩)
theorem GC_GB {G : GV} (h : GC G) : GB G := by
  intro Y c n
  refine ⟨h.1 Y c n, ?_⟩
  by_cases hY : Y < 40
  · exact h.2.1 Y c n hY
  · by_cases hn : n < 16
    · have e := h.2.2.1 Y c (by omega)
      have e2 := sm_mono (f := fun n => G Y c n) (a := n + 1) (b := 16) (by omega) (fun k _ => h.1 Y c k)
      have e3 := sm_nonneg (f := fun n => G Y c n) (n := n) (fun k _ => h.1 Y c k)
      have e4 : sm (fun n => G Y c n) (n + 1) = sm (fun n => G Y c n) n + G Y c n := rfl
      omega
    · rw [h.2.2.2 Y c n (Or.inr (by omega))]; omega
theorem sm_pt {v : Int} {k n : Nat} {f : Nat → Int} (h : v = (k : Int)) (hk : k < n) : sm (fun j => if v = -1 ∨ v = (j : Int) then f j else 0) n = f k := by
  rw [← sm_one (n := n) k (f k) hk]
  refine sm_congr (fun j _ => ?_)
  by_cases c : j = k
  · rw [if_pos (by omega), if_pos c, c]
  · rw [if_neg (by omega), if_neg c]
theorem unnamed_ok {σ : St} (h : Inv σ) (a : Int32) : wpX11_unnamed a σ (fun r τ => wpX12_unnamed a τ (Q2 r)) := by
  obtain ⟨m, mi, U, T, hA, hB⟩ := id h
  obtain ⟨y, y1, y2, rfl⟩ := I_of a
  have hM := hA.1
  have w0 := hA.2.2.1.1
  have e9 := hB.2.2.1.1
  have hu := hB.2.2.2.2.2.1
  have ref0 : y ≠ -1 → ¬ (0 ≤ y ∧ y < m 0) → wpX12_unnamed (II y) σ (Q2 (II (-1))) := by
    intro z1 z2
    simp (disch := omega) only [wpX12_unnamed, I_lit, I_neg, I_eq]
    exact ⟨fun q => absurd q z1, fun _ => isGone_ok hM w0 (by omega) (fun q => absurd q z2) (fun _ => s0 ⟨rfl, h⟩)⟩
  have ref : ∀ r : Int32, r = II (sm (fun j => if y = -1 ∨ y = (j : Int) then nml (KK m U T) j else 0) (m 0).toNat) → (y = -1 ∨ 0 ≤ y ∧ y < m 0) → wpX12_unnamed (II y) σ (Q2 r) := by
    intro r hr z
    have key : wbX12_unnamed_15 (Q2 r) (II y) σ := by
      unfold wbX12_unnamed_15
      refine runsAll_ok hA hB ?_
      intro τ tR tG tn
      have tA := SR_A hA tR
      have e0 : gI τ 76 0 = II (m 0) := tA.1 0
      refine up (P := fun f i => wbX12_unnamed_23 (Q2 r) f (II y) (II (sm (fun j => if y = -1 ∨ y = (j : Int) then nml (KK m U T) j else 0) i)) (II i) τ) (m 0).toNat ?_ ?_ 0 (by omega)
      · intro f
        simp (disch := omega) only [wbX12_unnamed_23, I_lit, I_in, true_and, I_cl, Int.reduceToNat, e0, I_le]
        exact ⟨fun _ => ⟨hr, SR_I h tR⟩, fun q => absurd (by omega) q⟩
      · intro f i hi ih
        have e1 := tn i (by omega)
        have es : sm (fun j => if y = -1 ∨ y = (j : Int) then nml (KK m U T) j else 0) (i + 1) = sm (fun j => if y = -1 ∨ y = (j : Int) then nml (KK m U T) j else 0) i + (if y = -1 ∨ y = (i : Int) then nml (KK m U T) i else 0) := rfl
        simp (disch := omega) only [wbX12_unnamed_23, I_lit, I_neg, I_in, true_and, I_cl, Int.reduceToNat, Int.toNat_natCast, e0, I_le, I_eq, fe, e1, I_add]
        refine ⟨fun q => absurd q (by omega), fun _ => ⟨fun q => ?_, fun q => ⟨fun q2 => ?_, fun q2 => ?_⟩⟩⟩
        · rw [es, if_pos (Or.inl q)] at ih; exact ih
        · rw [es, if_neg (by omega)] at ih; exact ih
        · rw [es, if_pos (Or.inr q2)] at ih; exact ih
    simp (disch := omega) only [wpX12_unnamed, I_lit, I_neg, I_eq]
    exact ⟨fun _ => key, fun q => isGone_ok hM w0 (by omega) (fun _ => s1 key) (fun q2 => absurd z (by omega))⟩
  simp (disch := omega) only [wpX11_unnamed, I_lit, I_neg, I_eq]
  refine ⟨fun q => wentBy_ok e9 w0 (by omega) (fun z => t1 ?_) (fun z => t0 (ref0 q z)), fun q => ?_⟩
  · obtain ⟨N, rfl⟩ : ∃ N : Nat, y = N := ⟨y.toNat, by omega⟩
    simp (disch := omega) only [I_in, true_and, I_cl, Int.toNat_natCast, hu N z.2]
    refine ref _ ?_ (Or.inr z)
    rw [sm_pt rfl (by omega)]
  · refine up (P := fun f i => wbX11_unnamed_9 (fun r τ => wpX12_unnamed (II y) τ (Q2 r)) f (II (sm (fun j => if y = -1 ∨ y = (j : Int) then nml (KK m U T) j else 0) i)) (II i) σ) (m 0).toNat ?_ ?_ 0 (by omega)
    · intro f
      simp (disch := omega) only [wbX11_unnamed_9, I_lit, e9, I_le]
      exact ⟨fun _ => ref _ rfl (Or.inl q), fun z => absurd (by omega) z⟩
    · intro f i hi ih
      have e1 := hu i (by omega)
      have es : sm (fun j => if y = -1 ∨ y = (j : Int) then nml (KK m U T) j else 0) (i + 1) = sm (fun j => if y = -1 ∨ y = (j : Int) then nml (KK m U T) j else 0) i + (if y = -1 ∨ y = (i : Int) then nml (KK m U T) i else 0) := rfl
      simp (disch := omega) only [wbX11_unnamed_9, I_lit, I_in, true_and, I_cl, Int.toNat_natCast, e9, I_le, fe, e1, I_add]
      refine ⟨fun z => absurd z (by omega), fun _ => ?_⟩
      rw [es, if_pos (Or.inl q)] at ih; exact ih
theorem together_ok {σ : St} (h : Inv σ) (a b : Int32) : wpX11_together a b σ (fun r τ => wpX12_together a b τ (Q2 r)) := by
  obtain ⟨m, mi, U, T, hA, hB⟩ := id h
  obtain ⟨n, n1, n2, rfl⟩ := I_of a
  obtain ⟨y, y1, y2, rfl⟩ := I_of b
  have hM := hA.1
  have hW := hA.2.2.1
  have w0 := hW.1
  have w1 := hW.2.1
  have e9 := hB.2.2.1.1
  have ref0 : ¬ ((0 ≤ n ∧ n < m 1) ∧ (0 ≤ y ∧ y < m 0)) → wpX12_together (II n) (II y) σ (Q2 (II (-1))) := by
    intro hz
    unfold wpX12_together
    refine isName_ok hM w1 (by omega) (fun q => t1 ?_) (fun q => t0 ⟨rfl, h⟩)
    exact isGone_ok hM w0 (by omega) (fun q2 => absurd ⟨q, q2⟩ hz) (fun q2 => s0 ⟨rfl, h⟩)
  unfold wpX11_together
  refine has_ok hB.1.1 w1 (by omega) (fun z => t1 ?_) (fun z => t0 (ref0 (fun q => z q.1)))
  refine wentBy_ok e9 w0 (by omega) (fun x => s1 ?_) (fun x => s0 (ref0 (fun q => x q.2)))
  obtain ⟨N, rfl⟩ : ∃ N : Nat, n = N := ⟨n.toNat, by omega⟩
  have hG : GB (run (KK m U T) (m 0).toNat) := GC_GB (run_GC (K := KK m U T) hW _).1
  have hCN := NMs_CN hW hB.1 T (-1) false (-1)
  have hU : ∀ i : Nat, (i : Int) < m 1 → U i < 2 ^ 50 ∧ gL σ 78 i = lN (U i) := fun i hi => by
    have := hB.1.2 i hi
    exact ⟨good_lt this.1, this.2.1⟩
  have hF : ∃ F : Nat → Int, F = fun j => if enN (U j) = enN (U N) ∧ gt (run (KK m U T) (m 0).toNat) (y - 1 + 40).toNat 6 j < gt (run (KK m U T) (m 0).toNat) (y + 40).toNat 6 j then 1 else 0 := ⟨_, rfl⟩
  obtain ⟨F, eF⟩ := hF
  have F1 : ∀ i, enN (U i) = enN (U N) → ¬ gt (run (KK m U T) (m 0).toNat) (y + 40).toNat 6 i ≤ gt (run (KK m U T) (m 0).toNat) (y - 1 + 40).toNat 6 i → F i = 1 := fun i p q => by rw [eF]; exact if_pos ⟨p, by omega⟩
  have F2 : ∀ i, gt (run (KK m U T) (m 0).toNat) (y + 40).toNat 6 i ≤ gt (run (KK m U T) (m 0).toNat) (y - 1 + 40).toNat 6 i → F i = 0 := fun i q => by rw [eF]; exact if_neg (fun z => by omega)
  have F3 : ∀ i, enN (U i) ≠ enN (U N) → F i = 0 := fun i q => by rw [eF]; exact if_neg (fun z => q z.1)
  clear eF
  have ref : ∀ r : Int32, r = II (sm F (m 1).toNat) → wpX12_together (II N) (II y) σ (Q2 r) := by
    intro r hr
    unfold wpX12_together
    refine isName_ok hM w1 (by omega) (fun _ => t1 ?_) (fun q => absurd z q)
    refine isGone_ok hM w0 (by omega) (fun _ => s1 ?_) (fun q => absurd x q)
    refine runsAll_ok hA hB ?_
    intro τ tR tG tn
    have tA := SR_A hA tR
    have tB := SR_B hA hB tR
    have e1 : gI τ 76 1 = II (m 1) := tA.1 1
    have tU : ∀ i : Nat, (i : Int) < m 1 → U i < 2 ^ 50 ∧ gL τ 78 i = lN (U i) := fun i hi => by
      have := tB.1.2 i hi
      exact ⟨good_lt this.1, this.2.1⟩
    refine up (P := fun f i => wbX12_together_27 (Q2 r) f (II N) (II y) (II (sm F i)) (II i) τ) (m 1).toNat ?_ ?_ 0 (by omega)
    · intro f
      simp (disch := omega) only [wbX12_together_27, I_lit, I_in, true_and, I_cl, Int.reduceToNat, e1, I_le]
      exact ⟨fun _ => ⟨hr, SR_I h tR⟩, fun q => absurd (by omega) q⟩
    · intro f i hi ih
      have es : sm F (i + 1) = sm F i + F i := rfl
      obtain ⟨a1, a2⟩ := tU i (by omega)
      obtain ⟨b1, b2⟩ := tU N (by omega)
      have l1 : enN (U i) ≤ U i := Nat.div_le_self _ _
      have l2 : enN (U N) ≤ U N := Nat.div_le_self _ _
      simp (disch := omega) only [wbX12_together_27, I_lit, I_in, true_and, I_cl, Int.reduceToNat, Int.toNat_natCast, e1, I_le, a2]
      refine ⟨fun q => absurd q (by omega), fun _ => rending_ok (by omega) ?_⟩
      rw [b2]
      refine rending_ok (by omega) ?_
      simp only [fe, I_add]
      refine ⟨fun q => ?_, fun q => ?_⟩
      · rw [es, F3 i (fun c => q (by rw [c]))] at ih; exact ih
      · have c : enN (U i) = enN (U N) := (pk_lEQ (by omega) (by omega)).mp q
        refine all_ok tG (by omega) (by omega) ?_
        rw [I_sub]
        refine all_ok tG (by omega) (by omega) ?_
        rw [if_neg (by omega), if_neg (by omega)]
        have g1 := gt_le hG (y + 40).toNat 6 i
        have g2 := gt_nn hG (y + 40).toNat 6 i
        have g3 := gt_le hG (y - 1 + 40).toNat 6 i
        have g4 := gt_nn hG (y - 1 + 40).toNat 6 i
        rw [I_le (by omega)]
        refine ⟨fun q2 => ?_, fun q2 => ?_⟩
        · rw [es, F2 i q2] at ih; exact ih
        · rw [es, F1 i c q2] at ih; exact ih
  unfold wpX10_risenOfEnding
  refine up (P := fun f i => wbX10_risenOfEnding_5 (fun r τ => wpX12_together (II N) (II y) τ (Q2 r)) f (II N) (II y) (II (sm F i)) (II i) σ) (m 1).toNat ?_ ?_ 0 (by omega)
  · intro f
    simp (disch := omega) only [wbX10_risenOfEnding_5, hB.1.1, I_le]
    exact ⟨fun _ => ref _ rfl, fun q => absurd (by omega) q⟩
  · intro f i hi ih
    have es : sm F (i + 1) = sm F i + F i := rfl
    simp (disch := omega) only [wbX10_risenOfEnding_5, hB.1.1, I_le]
    refine ⟨fun q => absurd q (by omega), fun _ => sameEnding_ok hCN (by rw [kn_KB]; omega) (by rw [kn_KB]; omega) (by rw [kn_KB]; omega) ?_⟩
    by_cases c : enN (U i) = enN (U N)
    · have e : kE (KB m U T (-1) false (-1)) i N = true := decide_eq_true c
      rw [e]
      refine t1 ?_
      refine cin_ok hB.2.2.2.2.1 (by omega) (by omega) ?_
      rw [I_lit, I_sub]
      refine cin_ok hB.2.2.2.2.1 (by omega) (by omega) ?_
      have g1 := gt_le hG (y + 40).toNat 6 i
      have g2 := gt_nn hG (y + 40).toNat 6 i
      have g3 := gt_le hG (y - 1 + 40).toNat 6 i
      have g4 := gt_nn hG (y - 1 + 40).toNat 6 i
      rw [I_le (by omega)]
      simp only [fe, I_lit, I_add]
      refine ⟨fun q2 => ?_, fun q2 => ?_⟩
      · rw [es, F2 i q2, Int.add_zero] at ih; exact ih
      · rw [es, F1 i c q2] at ih; exact ih
    · have e : kE (KB m U T (-1) false (-1)) i N = false := decide_eq_false c
      rw [e]
      refine t0 ?_
      simp only [fe, I_lit, I_add]
      rw [es, F3 i c, Int.add_zero] at ih; exact ih
