/-! room: the reference -/
theorem isApart_ok {σ : St} {m : MT} {U : Nat → Nat} {x : Nat} {post : Int32 → St → Prop} (w1 : 0 ≤ m 1 ∧ m 1 ≤ 16) (hM : RM σ m) (hU : ∀ i : Nat, (i : Int) < m 1 → good (U i) ∧ gL σ 78 i = lN (U i)) (hx : x < 65536) (hp : post (II (if apb (aU U) x (m 1).toNat (fun _ => false) = true then 1 else 0)) σ) : wpX12_isApart (II x) σ post := by
  have e1 : gI σ 76 1 = II (m 1) := hM 1
  have ai := apb_iff (A := aU U) (x := x) (m 1).toNat (fun _ => false)
  have good1 : (∀ j, j < (m 1).toNat → ∀ i, i < j → x.testBit j = true → x.testBit i = true → aU U j i = false) → post (II 1) σ := fun z => by
    rw [if_pos (ai.mpr ⟨fun _ _ _ => rfl, z⟩)] at hp; exact hp
  have bad : (∃ j i, j < (m 1).toNat ∧ i < j ∧ x.testBit j = true ∧ x.testBit i = true ∧ aU U j i = true) → post (II 0) σ := fun z => by
    obtain ⟨j, i, a1, a2, a3, a4, a5⟩ := z
    rw [if_neg (fun y => by rw [(ai.mp y).2 j a1 i a2 a3 a4] at a5; exact absurd a5 (by decide))] at hp
    exact hp
  unfold wpX12_isApart
  have key := up (P := fun f j => ((∀ j', j' < j → ∀ i, i < j' → x.testBit j' = true → x.testBit i = true → aU U j' i = false) → wbX12_isApart_4 post f (II x) (II 1) (II j) σ) ∧ (post (II 0) σ → wbX12_isApart_4 post f (II x) (II 0) (II j) σ)) (m 1).toNat ?_ ?_ 0 (by omega)
  · obtain ⟨f, hf⟩ := key
    exact ⟨f, hf.1 (fun j' hj => absurd hj (by omega))⟩
  · intro f
    simp (disch := omega) only [wbX12_isApart_4, I_lit, I_in, true_and, I_cl, Int.reduceToNat, e1, I_le]
    exact ⟨fun z => ⟨fun _ => ⟨Or.inr trivial, good1 z⟩, fun y => absurd (by omega) y⟩, fun z => ⟨fun _ => ⟨Or.inl trivial, z⟩, fun y => absurd (by omega) y⟩⟩
  · intro f j hj ih
    obtain ⟨ih1, ih0⟩ := ih
    refine ⟨fun hpre => ?_, fun z => ?_⟩
    · simp (disch := omega) only [wbX12_isApart_4, I_lit, I_in, true_and, I_cl, Int.reduceToNat, e1, I_le, I_eq]
      refine ⟨fun y => absurd y (by omega), fun _ => ⟨fun y => absurd y (by omega), fun _ => ?_⟩⟩
      have k2 := up (P := fun g i => ((∀ i', i' < i → x.testBit j = true → x.testBit i' = true → aU U j i' = false) → wbX12_isApart_21 (wbX12_isApart_4 post f) post g (II x) (II 1) (II j) (II i) σ) ∧ (post (II 0) σ → wbX12_isApart_21 (wbX12_isApart_4 post f) post g (II x) (II 0) (II j) (II i) σ)) j ?_ ?_ 0 (by omega)
      · obtain ⟨g, hg⟩ := k2
        exact ⟨g, hg.1 (fun i' hi => absurd hi (by omega))⟩
      · intro g
        simp (disch := omega) only [wbX12_isApart_21, I_le, I_lit, I_add, fe]
        refine ⟨fun z => ⟨fun _ => ih1 (fun j' h1 i h2 h3 h4 => ?_), fun y => absurd (Int.le_refl _) y⟩, fun z => ⟨fun _ => ih0 z, fun y => absurd (Int.le_refl _) y⟩⟩
        by_cases e : j' = j
        · rw [e] at h2 h3 ⊢; exact z i h2 h3 h4
        · exact hpre j' (by omega) i h2 h3 h4
      · intro g i hi ihi
        obtain ⟨i1, i0⟩ := ihi
        obtain ⟨a1, a2⟩ := hU j (by omega)
        obtain ⟨b1, b2⟩ := hU i (by omega)
        refine ⟨fun hi1 => ?_, fun z => ?_⟩
        · have cont : (x.testBit j = true → x.testBit i = true → aU U j i = false) → wbX12_isApart_21 (wbX12_isApart_4 post f) post g (II x) (II 1) (II j) (II ((i : Int) + 1)) σ := fun z => i1 (fun i' h1 h2 h3 => by
            by_cases e : i' = i
            · rw [e] at h3 ⊢; exact z h2 h3
            · exact hi1 i' (by omega) h2 h3)
          simp (disch := omega) only [wbX12_isApart_21, I_le, I_lit, I_add, I_eq, fe, I_tb0, I_in, true_and, I_cl, Int.toNat_natCast, a2, b2]
          refine ⟨fun y => absurd y (by omega), fun _ => ⟨fun y => absurd y (by omega), fun _ => ⟨fun y => cont (fun c => by rw [y] at c; exact absurd c (by decide)), fun y => ⟨fun y2 => cont (fun _ c => by rw [y2] at c; exact absurd c (by decide)), fun y2 => ?_⟩⟩⟩⟩
          refine areAlike_ok a1 b1 ?_
          show (¬ II (if aU U j i = true then 1 else 0) = II 0 → _) ∧ _
          have y' : x.testBit j = true := by simpa using y
          have y2' : x.testBit i = true := by simpa using y2
          cases c : aU U j i with
          | false => exact ⟨fun z => absurd rfl z, fun _ => cont (fun _ _ => c)⟩
          | true =>
            refine ⟨fun _ => i0 (bad ⟨j, i, hj, hi, y', y2', c⟩), fun z => ?_⟩
            rw [show alb (SN (U j)) (SC (U j)) (SN (U i)) (SC (U i)) = true from c] at z
            exact absurd z i10
        · simp (disch := omega) only [wbX12_isApart_21, I_le, I_lit, I_add, I_eq, fe]
          exact ⟨fun y => absurd y (by omega), fun _ => ⟨fun _ => ih0 z, fun y => absurd trivial y⟩⟩
    · simp (disch := omega) only [wbX12_isApart_4, I_lit, I_in, true_and, I_cl, Int.reduceToNat, e1, I_le, I_eq]
      exact ⟨fun y => absurd y (by omega), fun _ => ⟨fun _ => ⟨Or.inl trivial, z⟩, fun y => absurd trivial y⟩⟩
theorem apart_ok {σ : St} {m : MT} {U : Nat → Nat} {w : Nat → Int} {A : Nat → Nat → Bool} {k : Nat} {v : Int} {post : Int64 → St → Prop} (w1 : 0 ≤ m 1 ∧ m 1 ≤ 16) (hM : RM σ m) (hU : ∀ i : Nat, (i : Int) < m 1 → good (U i) ∧ gL σ 78 i = lN (U i)) (h113 : ∀ n : Nat, (n : Int) < m 1 → gI σ 113 n = II (w n)) (hw : ∀ i, 0 ≤ w i ∧ w i ≤ 24) (hk : k ≤ 8) (hv : -2147483648 ≤ v ∧ v < 2147483648)
    (hA0 : v = 0 → ∀ i j, A i j = false) (hA1 : v ≠ 0 → A = aU U) (hp : post (LL (sm (mF w A (m 1).toNat k (fun _ => false)) (2 ^ (m 1).toNat))) σ) : wpX12_apart (II k) (II v) σ post := by
  have e1 : gI σ 76 1 = II (m 1) := hM 1
  have p16 : 2 ^ (m 1).toNat ≤ 65536 := Nat.le_trans (Nat.pow_le_pow_right (by decide) (show (m 1).toNat ≤ 16 by omega)) (by decide)
  have sh := I_shl1 (m 1).toNat (by omega)
  rw [show (((m 1).toNat : Nat) : Int) = m 1 by omega] at sh
  obtain ⟨E, eE⟩ : ∃ E, E = 2 ^ (m 1).toNat := ⟨_, rfl⟩
  rw [← eE] at p16 sh hp
  unfold wpX12_apart
  simp (disch := omega) only [I_lit, L_lit, I_in, true_and, I_cl, Int.reduceToNat, e1, fe]
  refine up (P := fun f x => wbX12_apart_13 post f (II k) (II v) (LL (sm (mF w A (m 1).toNat k (fun _ => false)) x)) (II (m 1)) (II x) σ) E ?_ ?_ 0 (by omega)
  · intro f
    simp (disch := omega) only [wbX12_apart_13, I_lit, sh, I_le]
    exact ⟨fun _ => hp, fun z => absurd (Int.le_refl _) z⟩
  · intro f x hx ih
    have es : sm (mF w A (m 1).toNat k (fun _ => false)) (x + 1) = sm (mF w A (m 1).toNat k (fun _ => false)) x + mF w A (m 1).toNat k (fun _ => false) x := rfl
    rw [es] at ih
    simp (disch := omega) only [wbX12_apart_13, I_lit, sh, I_le]
    refine ⟨fun z => absurd z (by omega), fun _ => ?_⟩
    have fin : ∀ i, i ≤ (m 1).toNat → (i = (m 1).toNat ∨ k < pc x i) → pc x i ≤ k + 1 → wbX12_apart_77 (wbX12_apart_13 post f) post (II k) (II v) (LL (sm (mF w A (m 1).toNat k (fun _ => false)) x)) (II (m 1)) (II x) (LL (pr w x i)) (II (pc x i)) σ := by
      intro i him hi hpc
      have pb := pr_b hw x i
      have p24 : ((24 ^ pc x i : Nat) : Int) ≤ ((24 ^ 9 : Nat) : Int) := Int.ofNat_le.mpr (Nat.pow_le_pow_right (by decide) (by omega))
      have c249 : ((24 ^ 9 : Nat) : Int) = 2641807540224 := by decide
      have no : mF w A (m 1).toNat k (fun _ => false) x = 0 → wbX12_apart_13 post f (II k) (II v) (LL (sm (mF w A (m 1).toNat k (fun _ => false)) x)) (II (m 1)) (II ((x : Int) + 1)) σ := fun z => by rw [z, Int.add_zero] at ih; exact ih
      have yes : pc x (m 1).toNat = k ∧ apb A x (m 1).toNat (fun _ => false) = true → wbX12_apart_13 post f (II k) (II v) (LL (sm (mF w A (m 1).toNat k (fun _ => false)) x + pr w x (m 1).toNat)) (II (m 1)) (II ((x : Int) + 1)) σ := fun z => by
        rw [show mF w A (m 1).toNat k (fun _ => false) x = pr w x (m 1).toNat from if_pos z] at ih; exact ih
      simp (disch := omega) only [wbX12_apart_77, I_eq, I_lit, L_lit, L_le, fe, I_add, L_add]
      refine ⟨fun q => no (if_neg (fun z => ?_)), fun q => ?_⟩
      · have := pc_mono x i ((m 1).toNat - i)
        rw [show i + ((m 1).toNat - i) = (m 1).toNat by omega] at this
        rcases hi with hi | hi
        · rw [hi] at q; omega
        · omega
      · have ei : i = (m 1).toNat := by omega
        rw [ei] at q pb ⊢
        refine ⟨fun q2 => no ?_, fun q2 => ⟨fun q3 => yes ⟨by omega, ?_⟩, fun q3 => ?_⟩⟩
        · unfold mF
          split
          · omega
          · rfl
        · exact (apb_iff _ _).mpr ⟨fun _ _ _ => rfl, fun j _ i _ _ _ => hA0 q3 j i⟩
        · refine isApart_ok w1 hM hU (by omega) ?_
          have eA := hA1 q3
          cases c : apb (aU U) x (m 1).toNat (fun _ => false) with
          | false => exact t0 (no (if_neg (fun z => by rw [eA, c] at z; exact absurd z.2 (by decide))))
          | true => exact t1 (yes ⟨by omega, by rw [eA]; exact c⟩)
    have key := up (P := fun g i => pc x i ≤ k + 1 → wbX12_apart_31 (wbX12_apart_13 post f) post g (II k) (II v) (LL (sm (mF w A (m 1).toNat k (fun _ => false)) x)) (II (m 1)) (II x) (LL (pr w x i)) (II (pc x i)) (II i) σ) (m 1).toNat ?_ ?_ 0 (by omega)
    · obtain ⟨g, hg⟩ := key
      exact ⟨g, hg (by show 0 ≤ k + 1; omega)⟩
    · intro g hpc
      simp (disch := omega) only [wbX12_apart_31, I_le]
      exact ⟨fun _ => fin _ (Nat.le_refl _) (Or.inl rfl) hpc, fun z => absurd (by omega) z⟩
    · intro g i hi ih2 hpc
      have ep : pc x (i + 1) = pc x i + (if x.testBit i = true then 1 else 0) := rfl
      have er : pr w x (i + 1) = if x.testBit i = true then pr w x i * w i else pr w x i := rfl
      have wb := hw i
      rw [ep, er] at ih2
      simp (disch := omega) only [wbX12_apart_31, I_le, I_lt, I_lit, I_tb1, I_in, true_and, I_cl, Int.toNat_natCast, h113 i (by omega), I_wide, L_mul, fe, I_add]
      refine ⟨fun z => absurd z (by omega), fun _ => ⟨fun z => fin i (by omega) (Or.inr (by omega)) hpc, fun z => ⟨fun q => ?_, fun q => ?_⟩⟩⟩
      · rw [if_neg q, if_neg q] at ih2; exact ih2 (by omega)
      · rw [if_pos q, if_pos q] at ih2; exact ih2 (by omega)
theorem rroom_ok {σ : St} {m mi : MT} {U : Nat → Nat} {T : TT} {p y k : Nat} {v : Int} {A : Nat → Nat → Bool} {w : Nat → Int} {r : Int32} (h : Inv σ) (hA : IvA σ m mi U T) (hB : IvB σ m mi U T) (hp3 : p < 3) (hy : (y : Int) < m 0) (hk : 2 ≤ k ∧ k ≤ 8) (hv : -2147483648 ≤ v ∧ v < 2147483648)
    (ew : w = fun n => gt (run (KK m U T) (m 0).toNat) (40 + y) p n) (hA0 : v = 0 → ∀ i j, A i j = false) (hA1 : v ≠ 0 → A = aU U) (hS : ∀ i j, A i j = A j i)
    (h0 : ¬ (k : Int) ≤ sm w (m 1).toNat → r = II (-1))
    (h1 : (k : Int) ≤ sm w (m 1).toNat → r = (((LL (cb (sm w (m 1).toNat) k) - LL (hl w A (List.range (m 1).toNat) k (fun _ => false))) * 1000000) / LL (cb (sm w (m 1).toNat) k)).toInt32) :
    wpX12_runsAll σ (fun σ_8 => ∃ m_39, wbX12_room_39 (Q2 r) m_39 (II p) (II y) (II k) (II v) 0 0 σ_8) := by
  have hW := hA.2.2.1
  have w0 := hW.1
  have w1 := hW.2.1
  have hGC := (run_GC (K := KK m U T) hW (m 0).toNat).1
  have g24 := gt_24 hGC (Y := 40 + y) (p := p) (by omega) hp3
  have wb : ∀ n, 0 ≤ w n ∧ w n ≤ 24 := fun n => by rw [ew]; exact g24.1 n
  have wt : ∀ M, M ≤ 16 → 0 ≤ sm w M ∧ sm w M ≤ 24 := fun M hM => ⟨sm_nonneg (fun n _ => (wb n).1), by rw [ew]; exact g24.2 M hM⟩
  refine runsAll_ok hA hB ?_
  intro τ tR tG tn
  have key := up (P := fun f i => ∀ υ, Eqx [113] τ υ → (∀ j, j < i → gI υ 113 j = II (w j)) → wbX12_room_39 (Q2 r) f (II p) (II y) (II k) (II v) (II (sm w i)) (II i) υ) (m 1).toNat ?_ ?_ 0 (by omega)
  · obtain ⟨f, hf⟩ := key
    exact ⟨f, hf τ (Eqx.refl _ _) (fun j hj => absurd hj (by omega))⟩
  · intro f υ uE u113
    have uR : SR σ υ := tR.trans (SR_x uE (by simp))
    have uA := SR_A hA uR
    have uB := SR_B hA hB uR
    have uI := SR_I h uR
    have e1 : gI υ 76 1 = II (m 1) := uA.1 1
    have wt2 := wt (m 1).toNat (by omega)
    simp (disch := omega) only [wbX12_room_39, I_lit, I_neg, L_lit, I_in, true_and, I_cl, Int.reduceToNat, e1, I_le]
    refine ⟨fun _ => ⟨fun q => ?_, fun q => ⟨h0 q, uI⟩⟩, fun z => absurd (by omega) z⟩
    have hr := h1 q
    generalize eS : sm w (m 1).toNat = S at *
    obtain ⟨N, rfl⟩ : ∃ N : Nat, S = N := ⟨S.toNat, by omega⟩
    refine up (P := fun f i => wbX12_room_109 (Q2 r) f (II k) (II v) (II N) (LL (cb N i)) (II i) υ) k ?_ ?_ 0 (by omega)
    · intro f
      have b := cb_b N (by omega) k (by omega) (by omega)
      simp (disch := omega) only [wbX12_room_109, I_le]
      refine ⟨fun _ => ?_, fun z => absurd (Int.le_refl _) z⟩
      refine apart_ok (A := A) (w := w) w1 uA.1 (fun i hi => ?_) (fun n hn => u113 n (by omega)) wb hk.2 hv hA0 hA1 ?_
      · have := uB.1.2 i hi
        exact ⟨this.1, this.2.1⟩
      · rw [mF_hl hS]
        refine ⟨fun z => ?_, hr, uI⟩
        rw [L_lit, L_eq (by omega)] at z
        omega
    · intro f i hi ih
      have b := cb_b N (by omega) i (by omega) (by omega)
      have eb : cb N (i + 1) = cb N i * ((N : Int) - i) / ((i : Int) + 1) := rfl
      have mb := mulb (a := cb N i) (b := (N : Int) - i) (M := 1000000) (N := 25) (by omega) (by omega)
      simp (disch := omega) only [wbX12_room_109, I_le, I_lit, I_add, I_sub, I_wide, L_lit, L_eq, L_mul, L_div, fe]
      rw [eb] at ih
      exact ⟨fun z => absurd z (by omega), fun _ => ⟨by omega, ih⟩⟩
  · intro f i hi ih υ uE u113
    have e1 : gI υ 76 1 = II (m 1) := by rw [Eqx_gI uE (by simp)]; exact (SR_A hA tR).1 1
    have es : sm w (i + 1) = sm w i + w i := rfl
    rw [es] at ih
    have j : (48 * ((y : Int) + 40) + 16 * (p : Int) + (i : Int)).toNat = 48 * (40 + y) + 16 * p + i := by omega
    have r100 : gI υ 100 (48 * (40 + y) + 16 * p + i) = II (w i) := by
      rw [Eqx_gI uE (by simp), tG.2.2.1 (40 + y) (by omega) p hp3 i (by omega), ew]
    simp (disch := omega) only [wbX12_room_39, I_lit, I_in, true_and, I_cl, Int.reduceToNat, Int.toNat_natCast, e1, I_le, I_add, I_mul, j, r100, fe, rI1]
    refine ⟨fun z => absurd z (by omega), fun _ => ih _ (Eqx_tI uE (by simp)) (fun j hj => ?_)⟩
    by_cases e : j = i
    · rw [e, rI1]
    · rw [rI3 e]; exact u113 j (by omega)
theorem room_ok {σ : St} (h : Inv σ) (a b c d : Int32) : wpX11_room a b c d σ (fun r τ => wpX12_room a b c d τ (Q2 r)) := by
  obtain ⟨m, mi, U, T, hA, hB⟩ := id h
  obtain ⟨p, p1, p2, rfl⟩ := I_of a
  obtain ⟨y, y1, y2, rfl⟩ := I_of b
  obtain ⟨k, k1, k2, rfl⟩ := I_of c
  obtain ⟨v, v1, v2, rfl⟩ := I_of d
  have hM := hA.1
  have hW := hA.2.2.1
  have w0 := hW.1
  have w1 := hW.2.1
  have e9 := hB.2.2.1.1
  have ref0 : ¬ ((0 ≤ p ∧ p ≤ 2) ∧ (0 ≤ y ∧ y < m 0) ∧ (2 ≤ k ∧ k ≤ 8)) → wpX12_room (II p) (II y) (II k) (II v) σ (Q2 (II (-1))) := by
    intro hz
    unfold wpX12_room
    refine in_ok (b := 0) (c := 2) (by omega) (fun q => t1 ?_) (fun q => t0 ⟨rfl, h⟩)
    refine isGone_ok hM w0 (by omega) (fun q2 => t1 ?_) (fun q2 => t0 ⟨rfl, h⟩)
    exact in_ok (b := 2) (c := 8) (by omega) (fun q3 => absurd ⟨q, q2, q3⟩ hz) (fun q3 => s0 ⟨rfl, h⟩)
  unfold wpX11_room
  refine wi_ok (b := 0) (c := 2) (by omega) (fun z => t1 ?_) (fun z => t0 (ref0 (fun q => z q.1)))
  refine wentBy_ok e9 w0 (by omega) (fun z2 => t1 ?_) (fun z2 => t0 (ref0 (fun q => z2 q.2.1)))
  refine wi_ok (b := 2) (c := 8) (by omega) (fun z3 => s1 ?_) (fun z3 => s0 (ref0 (fun q => z3 q.2.2)))
  obtain ⟨P, rfl⟩ : ∃ P : Nat, p = P := ⟨p.toNat, by omega⟩
  obtain ⟨Y, rfl⟩ : ∃ Y : Nat, y = Y := ⟨y.toNat, by omega⟩
  obtain ⟨K, rfl⟩ : ∃ K : Nat, k = K := ⟨k.toNat, by omega⟩
  obtain ⟨A, eA⟩ : ∃ A : Nat → Nat → Bool, A = if v = 0 then (fun _ _ => false) else aU U := ⟨_, rfl⟩
  have hA0 : v = 0 → ∀ i j, A i j = false := fun q i j => by rw [eA, if_pos q]
  have hA1 : v ≠ 0 → A = aU U := fun q => by rw [eA, if_neg q]
  have hS : ∀ i j, A i j = A j i := fun i j => by
    by_cases q : v = 0
    · rw [hA0 q, hA0 q]
    · rw [hA1 q]; exact alb_symm _ _ _ _
  have ref : ∀ (τ : St) (r : Int32), SR σ τ → (¬ (K : Int) ≤ sm (fun n => gt (run (KK m U T) (m 0).toNat) (40 + Y) P n) (m 1).toNat → r = II (-1)) → ((K : Int) ≤ sm (fun n => gt (run (KK m U T) (m 0).toNat) (40 + Y) P n) (m 1).toNat → r = (((LL (cb (sm (fun n => gt (run (KK m U T) (m 0).toNat) (40 + Y) P n) (m 1).toNat) K) - LL (hl (fun n => gt (run (KK m U T) (m 0).toNat) (40 + Y) P n) A (List.range (m 1).toNat) K (fun _ => false))) * 1000000) / LL (cb (sm (fun n => gt (run (KK m U T) (m 0).toNat) (40 + Y) P n) (m 1).toNat) K)).toInt32) → wpX12_room (II P) (II Y) (II K) (II v) τ (Q2 r) := by
    intro τ r tR r0 r1
    have tA := SR_A hA tR
    have tB := SR_B hA hB tR
    unfold wpX12_room
    refine in_ok (b := 0) (c := 2) (by omega) (fun _ => t1 ?_) (fun q => absurd z q)
    refine isGone_ok tA.1 w0 (by omega) (fun _ => t1 ?_) (fun q => absurd z2 q)
    refine in_ok (b := 2) (c := 8) (by omega) (fun _ => s1 ?_) (fun q => absurd z3 q)
    exact rroom_ok (SR_I h tR) tA tB (by omega) (by omega) (by omega) (by omega) rfl hA0 hA1 hS r0 r1
  exact sharing_ok hA hB (by omega) (by omega) (by omega) (by omega) rfl hA0 (fun q i j => by rw [hA1 q]) (fun q τ tR => ref τ _ tR (fun _ => rfl) (fun q2 => absurd q2 q)) (fun q τ tR => ref τ _ tR (fun q2 => absurd q q2) (fun _ => rfl))
