theorem up1 {P : Nat → Nat → Prop} (N : Nat) (he : ∀ f, P (f + 1) N) (hs : ∀ f i, i < N → P (f + 1) (i + 1) → P (f + 1 + 1) i) (i : Nat) (hi : i ≤ N) : ∃ f, P f i := by
  obtain ⟨f, hf⟩ := up (P := fun f i => P (f + 1) i) N (fun f => he (f + 1)) (fun f i hi h => hs f i hi h) i hi
  exact ⟨f + 1, hf⟩
theorem knows_ok {σ : St} {u N : Nat} {U : Nat → Nat} {post : Int32 → St → Prop} (hu : u < 2 ^ 64) (hN : N ≤ 16) (h1 : gI σ 1 0 = II N) (h2 : ∀ n, n < N → U n < 2 ^ 63 ∧ gL σ 2 n = lN (U n)) (hy : (∃ n, n < N ∧ U n = u) → post (II 1) σ) (hno : (∀ n, n < N → U n ≠ u) → post (II 0) σ) : wpX5_knows (lN u) σ post := by
  unfold wpX5_knows
  have key := up (P := fun f i => (∀ n, n < i → U n ≠ u) → wbX5_knows_2 post f (lN u) (II i) σ) N ?_ ?_ 0 (by omega)
  · obtain ⟨f, hf⟩ := key
    exact ⟨f, hf (fun n hn => absurd hn (by omega))⟩
  · intro f hn
    simp (disch := omega) only [wbX5_knows_2, h1, I_le, I_lit]
    exact ⟨fun _ => hno hn, fun z => absurd (by omega) z⟩
  · intro f i hi ih hn
    obtain ⟨x1, x2⟩ := h2 i hi
    have heq : (lN (U i) = lN u) ↔ U i = u := by
      constructor
      · intro e
        have := congrArg (fun x : Int64 => x.toBitVec.toNat) e
        simp only [wb_tn hu, wb_tn (show U i < 2 ^ 64 by omega)] at this
        exact this
      · intro e; rw [e]
    simp (disch := omega) only [wbX5_knows_2, h1, I_le, I_lit, I_in, true_and, I_cl, Int.toNat_natCast, x2, fe, I_add]
    refine ⟨fun z => absurd z (by omega), fun _ => ⟨fun z => ih (fun n hn' => ?_), fun z => hy ⟨i, hi, heq.mp z⟩⟩⟩
    by_cases e : n = i
    · subst e; exact fun w => z (heq.mpr w)
    · exact hn n (by omega)
theorem add_ok {σ : St} {u N : Nat} {s c : Int} {post : Int32 → St → Prop} (g : good u) (hN : N < 16) (h1 : gI σ 1 0 = II N)
    (hp : ∀ τ, Eqx [1, 2, 3, 4, 5, 6, 7, 8] σ τ → gI τ 1 0 = II ((N : Int) + 1) → (gL τ 2 N = lN u ∧ gI τ 3 N = II (nl u) ∧ gI τ 4 N = II s ∧ gI τ 5 N = II c ∧ gL τ 6 N = lN (enN u) ∧ gI τ 8 N = II (SC u) ∧ (∀ j, j < SC u → gI τ 7 (N * 10 + j) = II (96 + (SN u j : Nat)))) → (∀ n, n ≠ N → gL τ 2 n = gL σ 2 n ∧ gI τ 3 n = gI σ 3 n ∧ gI τ 4 n = gI σ 4 n ∧ gI τ 5 n = gI σ 5 n ∧ gL τ 6 n = gL σ 6 n ∧ gI τ 8 n = gI σ 8 n ∧ (∀ j, j < 10 → gI τ 7 (n * 10 + j) = gI σ 7 (n * 10 + j))) → post (II N) τ) : wpX5_add (lN u) (II (nl u)) (II s) (II c) σ post := by
  have hu := good_lt g
  simp (disch := omega) only [wpX5_add, h1, I_lit, I_lt, I_in, true_and, I_cl, Int.toNat_natCast, fe, rI2, gI_sL]
  refine ⟨fun _ => ?_, fun z => absurd (by omega) z⟩
  refine cending_ok (by omega) ?_
  rw [rI2 (by omega), rI2 (by omega), rI2 (by omega), gI_sL, h1]
  refine hear_ok g hN ?_ ?_ ?_
  · simp (disch := omega) only [gI_sL, rI1, rI2]
  · simp (disch := omega) only [rL2, gL_sI, rL1]
  · intro τ tE t8 t8o t7 t7o
    have t1' : gI τ 1 0 = II (N : Int) := by rw [Eqx_gI tE (by simp)]; simp (disch := omega) only [gI_sL, rI2]; exact h1
    simp only [fe, t1', rI1, I_lit, I_add, I_sub]
    rw [show (N : Int) + 1 - 1 = N by omega]
    refine hp _ ?_ rI1 ⟨?_, ?_, ?_, ?_, ?_, ?_, ?_⟩ (fun n hn => ⟨?_, ?_, ?_, ?_, ?_, ?_, ?_⟩)
    · exact Eqx_tI (Eqx.trans (Eqx_tL (Eqx_tI (Eqx_tI (Eqx_tI (Eqx_tL (Eqx.refl _ _) (by simp)) (by simp)) (by simp)) (by simp)) (by simp)) (Eqx.mono tE (by simp))) (by simp)
    · rw [gL_sI, Eqx_gL tE (by simp)]; simp (disch := omega) only [rL2, gL_sI, rL1]
    · rw [rI2 (by omega), Eqx_gI tE (by simp)]; simp (disch := omega) only [gI_sL, rI2, rI1]
    · rw [rI2 (by omega), Eqx_gI tE (by simp)]; simp (disch := omega) only [gI_sL, rI2, rI1]
    · rw [rI2 (by omega), Eqx_gI tE (by simp)]; simp (disch := omega) only [gI_sL, rI2, rI1]
    · rw [gL_sI, Eqx_gL tE (by simp)]; simp (disch := omega) only [rL1]
    · rw [rI2 (by omega)]; exact t8
    · intro j hj; rw [rI2 (by omega)]; exact t7 j hj
    · rw [gL_sI, Eqx_gL tE (by simp)]; simp (disch := omega) only [rL2, gL_sI, rL3]
    · rw [rI2 (by omega), Eqx_gI tE (by simp)]; simp (disch := omega) only [gI_sL, rI2, rI3]
    · rw [rI2 (by omega), Eqx_gI tE (by simp)]; simp (disch := omega) only [gI_sL, rI2, rI3]
    · rw [rI2 (by omega), Eqx_gI tE (by simp)]; simp (disch := omega) only [gI_sL, rI2, rI3]
    · rw [gL_sI, Eqx_gL tE (by simp)]; simp (disch := omega) only [rL2, gL_sI, rL3]
    · rw [rI2 (by omega), t8o n hn]; simp (disch := omega) only [gI_sL, rI2]
    · intro j hj; rw [rI2 (by omega), t7o n hn j hj]; simp (disch := omega) only [gI_sL, rI2]
theorem rname_ok {σ : St} {m : MT} {u : Nat} {U : Nat → Nat} {s : Int} {post : Int32 → St → Prop} (hM : RM σ m) (hu : u < 2 ^ 64) (hs : -2147483648 ≤ s ∧ s < 2147483648) (w1 : 0 ≤ m 1 ∧ m 1 ≤ 16) (hU : ∀ n : Nat, (n : Int) < m 1 → U n < 2 ^ 63 ∧ gL σ 78 n = lN (U n))
    (hno : ¬ (good u ∧ (1 ≤ s ∧ s ≤ 3) ∧ m 1 < 16 ∧ ∀ n : Nat, (n : Int) < m 1 → U n ≠ u) → post (II (-1)) σ) (hy : good u ∧ (1 ≤ s ∧ s ≤ 3) ∧ m 1 < 16 ∧ (∀ n : Nat, (n : Int) < m 1 → U n ≠ u) → wbX12_name_148 post (lN u) (II s) (II 1) σ) : wpX12_name (lN u) (II s) σ post := by
  have m1 : gI σ 76 1 = II (m 1) := hM 1
  have c1 : (1 : Int32).toNatClampNeg = 1 := rfl
  have v1 : vp_in 1 9680 := of_eq_true (I_in (a := 1) (N := 9680) (by omega))
  have fail : (¬ (good u ∧ (1 ≤ s ∧ s ≤ 3) ∧ m 1 < 16 ∧ ∀ n : Nat, (n : Int) < m 1 → U n ≠ u)) → wbX12_name_148 post (lN u) (II s) (II 0) σ := fun z => ⟨fun w => absurd rfl w, fun _ => hno z⟩
  have fail107 : (¬ (good u ∧ (1 ≤ s ∧ s ≤ 3) ∧ m 1 < 16 ∧ ∀ n : Nat, (n : Int) < m 1 → U n ≠ u)) → ∀ (f : Nat) v6, wbX12_name_107 post (f + 1) (lN u) (II s) (II 0) v6 σ := fun z f v6 => ⟨v1, fun _ => fail z, fun _ => ⟨fun _ => fail z, fun w => absurd rfl w⟩⟩
  have fail68 : (¬ (good u ∧ (1 ≤ s ∧ s ≤ 3) ∧ m 1 < 16 ∧ ∀ n : Nat, (n : Int) < m 1 → U n ≠ u)) → ∀ v4 (f : Nat) v6, wbX12_name_68 post (f + 1) (lN u) (II s) v4 (II 0) v6 σ := fun z v4 f v6 => ⟨fun _ => ⟨1, fail107 z 0 _⟩, fun _ => ⟨fun _ => ⟨1, fail107 z 0 _⟩, fun w => absurd rfl w⟩⟩
  unfold wpX12_name
  obtain ⟨na, nb, nc⟩ := nl_spec u
  refine ⟨fun z => ?_, fun z => ?_⟩
  · have ng : ¬ good u := by
      intro g
      have hlt := good_lt g
      have hpos : u ≠ 0 := by
        intro e
        have := nb 0 (by have := g.1; omega)
        rw [e] at this
        exact this (by decide)
      have e0 : (lN u ≤ (0 : Int64)) = (u ≤ 0) := propext (pk_lLE (a := u) (b := 0) (by omega) (by omega))
      rw [e0] at z; omega
    have z2 := fun (w : good u ∧ (1 ≤ s ∧ s ≤ 3) ∧ m 1 < 16 ∧ ∀ n : Nat, (n : Int) < m 1 → U n ≠ u) => ng w.1
    unfold wbX12_name_14
    refine in_ok (a := 0) (b := 2) (c := 10) (by omega) (fun w => absurd w.1 (by omega)) (fun w => t0 ⟨1, fail68 z2 _ 0 _⟩)
  · have hu63 : u < 2 ^ 63 := by
      obtain ⟨k, hk, e⟩ := pk_lOf (x := lN u) (fun w => z (Int64.le_iff_toInt_le.mpr (Int.le_of_lt (Int64.lt_iff_toInt_lt.mp w))))
      have := congrArg (fun x : Int64 => x.toBitVec.toNat) e
      simp only [wb_tn hu, wb_tn (show k < 2 ^ 64 by omega)] at this
      omega
    refine size_ok hu63 ?_
    unfold wbX12_name_14
    have e5 : (5 : Int32) * II (nl u : Int) = II ((5 * nl u : Nat) : Int) := by rw [I_lit, I_mul]; rfl
    have hsh : (lN u >>> ((II ((5 * nl u : Nat) : Int)).toInt64 &&& 63) = 0) ↔ u < 2 ^ (5 * nl u) := by
      rw [L_shr (by omega) hu63]
      have hd : u / 2 ^ (5 * nl u) ≤ u := Nat.div_le_self _ _
      have : (lN (u / 2 ^ (5 * nl u)) = (0 : Int64)) ↔ u / 2 ^ (5 * nl u) = 0 := pk_lEQ (a := u / 2 ^ (5 * nl u)) (b := 0) (by omega) (by omega)
      rw [this]
      constructor
      · intro w
        rcases Nat.lt_or_ge u (2 ^ (5 * nl u)) with q | q
        · exact q
        · have := Nat.div_pos q (Nat.pow_pos (by decide)); omega
      · intro w; exact Nat.div_eq_of_lt w
    rw [e5]
    rw [show (2 : Int32) = II 2 from rfl, show (10 : Int32) = II 10 from rfl, show (1 : Int32) = II 1 from rfl, show (3 : Int32) = II 3 from rfl]
    refine in_ok (by omega) (fun q1 => t1 ?_) (fun q1 => t0 ⟨1, fail68 (fun w => q1 (by have := w.1.1; have := w.1.2.1; omega)) _ 0 _⟩)
    refine in_ok (by omega) (fun q2 => t1 ?_) (fun q2 => t0 ⟨1, fail68 (fun w => q2 w.2.1) _ 0 _⟩)
    refine ⟨fun q3 => ⟨1, fail68 (fun w => q3 (hsh.mpr w.1.2.2.1)) _ 0 _⟩, fun q3 => ⟨v1, ?_⟩⟩
    have c1' : (II 1).toNatClampNeg = 1 := rfl
    rw [c1', m1, show (16 : Int32) = II 16 from rfl, I_le (by omega)]
    refine ⟨fun q4 => ⟨1, fail68 (fun w => by omega) _ 0 _⟩, fun q4 => ?_⟩
    -- letters, then what is known
    have known : (∀ k, k < nl u → le u k < 27) → ∃ f, wbX12_name_107 post f (lN u) (II s) (II 1) (II 0) σ := by
      intro hl
      have g : good u := ⟨by omega, by omega, hsh.mp q3, hl⟩
      have key := up1 (P := fun f i => (∀ n, n < i → U n ≠ u) → wbX12_name_107 post f (lN u) (II s) (II 1) (II i) σ) (m 1).toNat ?_ ?_ 0 (by omega)
      · obtain ⟨f, hf⟩ := key
        exact ⟨f, hf (fun n hn => absurd hn (by omega))⟩
      · intro f hn
        simp (disch := omega) only [wbX12_name_107, I_lit, I_in, true_and, I_cl, Int.reduceToNat, m1, I_le]
        exact ⟨fun _ => hy ⟨g, q2, by omega, fun n hn' => hn n (by omega)⟩, fun w => absurd (by omega) w⟩
      · intro f i hi ih hn
        obtain ⟨x1, x2⟩ := hU i (by omega)
        have heq : (lN (U i) = lN u) ↔ U i = u := pk_lEQ x1 hu63
        have m1' : gI σ 76 (II 1).toNatClampNeg = II (m 1) := m1
        unfold wbX12_name_107
        rw [show (1 : Int32) = II 1 from rfl, m1', I_le (by omega)]
        refine ⟨v1, fun w => absurd w (by omega), fun _ => ⟨fun q => absurd q i10, fun _ => ?_⟩⟩
        refine ⟨of_eq_true (I_in (by omega)), ?_⟩
        rw [I_cln (by omega), x2]
        refine ⟨fun q => ?_, fun q => ?_⟩
        · intro v6 _
          exact fail107 (fun w' => w'.2.2.2 i (by omega) (heq.mp q)) f _
        · intro v6 hv6
          rw [hv6, I_add]
          refine ih (fun n hn' => ?_)
          by_cases e : n = i
          · subst e; exact fun w' => q (heq.mpr w')
          · exact hn n (by omega)
    have key := up1 (P := fun f k => (∀ j, j < k → le u j < 27) → wbX12_name_68 post f (lN u) (II s) (II (nl u)) (II 1) (II k) σ) (nl u) ?_ ?_ 0 (by omega)
    · obtain ⟨f, hf⟩ := key
      exact ⟨f, hf (fun n hn => absurd hn (by omega))⟩
    · intro f hl
      simp (disch := omega) only [wbX12_name_68, I_le]
      exact ⟨fun _ => known hl, fun w => absurd (by omega) w⟩
    · intro f k hk ih hl
      have hlt := le_lt u k
      unfold wbX12_name_68
      rw [I_le (by omega)]
      refine ⟨fun w => absurd w (by omega), fun _ => ⟨fun q => absurd q i10, fun _ => ?_⟩⟩
      refine rletterAt_ok hu63 (by omega) ?_
      rw [show (27 : Int32) = II 27 from rfl, I_le (by omega)]
      refine ⟨fun w v6 _ => fail68 (fun w' => by have := w'.1.2.2.2 k hk; omega) _ f _, fun w v6 hv6 => ?_⟩
      rw [hv6, show (1 : Int32) = II 1 from rfl, I_add]
      refine ih (fun j hj => ?_)
      by_cases e : j = k
      · subst e; omega
      · exact hl j (by omega)
theorem name_ok {σ : St} (h : Inv σ) (a : Int64) (b : Int32) : wpX11_name a b σ (fun r τ => wpX12_name a b τ (Q2 r)) := by
  obtain ⟨m, mi, U, T, hA, hB⟩ := id h
  obtain ⟨u, hu, rfl⟩ := wb_of a
  obtain ⟨s, s1', s2', rfl⟩ := I_of b
  have hM := hA.1
  have hW := hA.2.2.1
  have w00 := hW.1
  have w11 := hW.2.1
  have w22 := hW.2.2.1
  have w33 := hW.2.2.2.1
  have w44 := hW.2.2.2.2.1
  have w55 := hW.2.2.2.2.2.1
  have c1 := hB.2.2.1.1
  have n1 := hB.1.1
  have hU : ∀ n : Nat, (n : Int) < m 1 → U n < 2 ^ 63 ∧ gL σ 78 n = lN (U n) := fun n hn => by
    have x := hB.1.2 n hn
    exact ⟨by have := good_lt x.1; omega, x.2.1⟩
  obtain ⟨N, hN, hNe⟩ : ∃ N : Nat, N ≤ 16 ∧ m 1 = N := ⟨(m 1).toNat, by omega, by omega⟩
  have ref0 : ¬ (good u ∧ (1 ≤ s ∧ s ≤ 3) ∧ m 1 < 16 ∧ ∀ n : Nat, (n : Int) < m 1 → U n ≠ u) → wpX12_name (lN u) (II s) σ (Q2 (II (-1))) := fun hz => rname_ok hM hu ⟨s1', s2'⟩ w11 hU (fun _ => ⟨rfl, h⟩) (fun w => absurd w hz)
  unfold wpX11_name
  refine lengthOf_ok hu (fun g => ?_) (fun g => ?_)
  · have hl := (nl_spec u).1
    have hl2 := g.1
    rw [show (0 : Int32) = II 0 from rfl, I_eq (by omega)]
    refine ⟨fun w => absurd w (by omega), fun _ => ?_⟩
    rw [show (1 : Int32) = II 1 from rfl, show (3 : Int32) = II 3 from rfl]
    refine wi_ok (by omega) (fun q2 => t1 ?_) (fun q2 => t0 (ref0 (fun w => q2 w.2.1)))
    rw [n1, show (16 : Int32) = II 16 from rfl, I_le (by omega)]
    refine ⟨fun q3 => ref0 (fun w => by have := w.2.2.1; omega), fun q3 => ?_⟩
    refine knows_ok hu hN (by rw [n1, hNe]) (fun n hn => ⟨(hU n (by omega)).1, (hB.1.2 n (by omega)).2.2.1⟩) (fun q4 => t1 (ref0 (fun w => ?_))) (fun q4 => t0 ?_)
    · obtain ⟨n, hn, e⟩ := q4
      exact w.2.2.2 n (by omega) e
    · simp only [wpX7_forgetRuns, fe]
      rw [rI2 (by omega), c1]
      refine add_ok (N := N) g (by omega) (by rw [rI2 (by omega), n1, hNe]) ?_
      intro υ vE v1 vN vO
      have hM' : RM υ m := fun k => by rw [Eqx_gI vE (by simp), rI2 (by omega)]; exact hM k
      have hU' : ∀ n : Nat, (n : Int) < m 1 → U n < 2 ^ 63 ∧ gL υ 78 n = lN (U n) := fun n hn => ⟨(hU n hn).1, by rw [Eqx_gL vE (by simp), gL_sI]; exact (hU n hn).2⟩
      refine rname_ok hM' hu ⟨s1', s2'⟩ w11 hU' (fun w => absurd ⟨g, q2, by omega, fun n hn => q4 n (by omega)⟩ w) (fun _ => ?_)
      have x1 : gI υ 76 1 = II (N : Int) := by rw [hM' 1, hNe]
      have x0 : gI υ 76 0 = II (m 0) := hM' 0
      have hm := RM_mu (RM_mu (RM_mu (σ := sL υ 78 N (lN u)) (m := m) (fun k => by rw [gI_sL]; exact hM' k) (30 + N) s) (1900 + N) (m 0)) 1 ((N : Int) + 1)
      have j1 : (30 + (N : Int)).toNat = 30 + N := by omega
      have j2 : (1900 + (N : Int)).toNat = 1900 + N := by omega
      unfold wbX12_name_148
      refine ⟨fun _ => ?_, fun w => absurd w i10⟩
      simp (disch := omega) only [I_lit, I_in, true_and, I_cl, Int.reduceToNat, x1, x0, fe, gI_sL, I_add, j1, j2, rI3, rI1, Int.toNat_natCast, I_sub]
      refine ⟨by congr 1; omega, ?_⟩
      have e : ∀ q, q ∉ [1, 2, 3, 4, 5, 6, 7, 8, 64, 76, 78] → sI (sI (sI (sL υ 78 N (lN u)) 76 (30 + N) (II s)) 76 (1900 + N) (II (m 0))) 76 1 (II ((N : Int) + 1)) q = σ q := fun q hq => by
        simp only [List.mem_cons, List.not_mem_nil, or_false, not_or] at hq
        rw [ce_sI _ _ _ _ _ (by omega), ce_sI _ _ _ _ _ (by omega), ce_sI _ _ _ _ _ (by omega), ce_sL _ _ _ _ _ (by omega), ← vE q (by simp; omega), ce_sI _ _ _ _ _ (by omega)]
      have et : ∀ q, q ≠ 76 → q ≠ 78 → sI (sI (sI (sL υ 78 N (lN u)) 76 (30 + N) (II s)) 76 (1900 + N) (II (m 0))) 76 1 (II ((N : Int) + 1)) q = υ q := fun q x y => by rw [ce_sI _ _ _ _ _ x, ce_sI _ _ _ _ _ x, ce_sI _ _ _ _ _ x, ce_sL _ _ _ _ _ y]
      have hZ := hA.2.2.2.2.1
      have hPW := hA.2.2.2.2.2.2.1
      obtain ⟨b1, b2, b3, b4, b5, b6, b7, b8, b9, b10, b11⟩ := id hB
      have E64 : υ 64 = sI σ 64 6 0 64 := (vE 64 (by simp)).symm
      refine Inv_step (m' := mu (mu (mu m (30 + N) s) (1900 + N) (m 0)) 1 ((N : Int) + 1)) (U' := fun n => if n = N then u else U n) (T' := T) hA hB (by simp (disch := omega) only [mu_ne, mu_eq]) ⟨by simp (disch := omega) only [mu_ne, mu_eq]; exact Int.le_refl _, by simp (disch := omega) only [mu_ne, mu_eq]; omega, by simp (disch := omega) only [mu_ne, mu_eq]; exact Int.le_refl _, by simp (disch := omega) only [mu_ne, mu_eq]; exact Int.le_refl _, by simp (disch := omega) only [mu_ne, mu_eq]; exact Int.le_refl _, by simp (disch := omega) only [mu_ne, mu_eq]; exact Int.le_refl _, fun n hn => ⟨by simp (disch := omega) only [mu_ne, mu_eq], by simp (disch := omega) only [mu_ne, mu_eq]⟩, fun n h1 h2 => by
      simp (disch := omega) only [mu_eq] at h2
      have ec : n = N := by omega
      subst ec; simp (disch := omega) only [mu_ne, mu_eq]; omega, fun k hk => ⟨by simp (disch := omega) only [mu_ne, mu_eq], by simp (disch := omega) only [mu_ne, mu_eq]⟩, fun k h1 h2 => by simp (disch := omega) only [mu_ne, mu_eq] at h2; omega, fun k hk => ⟨by simp (disch := omega) only [mu_ne, mu_eq], by simp (disch := omega) only [mu_ne, mu_eq], by simp (disch := omega) only [mu_ne, mu_eq]⟩, fun k h1 h2 => by simp (disch := omega) only [mu_ne, mu_eq] at h2; omega, fun y hy c hc => by simp (disch := omega) only [mu_ne, mu_eq], fun k hk j hj => by simp (disch := omega) only [mu_ne, mu_eq], fun k hk => by simp (disch := omega) only [mu_ne, mu_eq]⟩ ⟨by simp (disch := omega) only [mu_ne, mu_eq], fun Y hY c hc n hn => by simp (disch := omega) only [mu_ne, mu_eq]⟩ ?_ (fun Y hY c hc n hn h1 => ?_) (fun k hk => ?_) (fun _ _ => ⟨rfl, rfl, rfl, rfl⟩) (fun n hn => if_neg (by omega)) hm (e 77 (by simp)) ?_ (by simp (disch := omega) only [mu_ne, mu_eq]; exact NP_c b2.1 (e 83 (by simp)) (e 84 (by simp))) (by simp (disch := omega) only [mu_ne, mu_eq]; exact RW_eq b2.2 (fun q p1 p2 => e q (by simp; omega))) ?_ (by simp (disch := omega) only [mu_ne, mu_eq]; exact CW_eq hW.2.2.2.2.1.2 b4.1 (fun q p1 p2 => e q (by simp; omega))) (by rw [gI_of (e 0 (by simp))]; simp (disch := omega) only [mu_ne, mu_eq]; exact b4.2) (fun q p1 p2 => e q (by simp; omega)) (e 15 (by simp)) (PRs_c b7 (fun q p1 p2 => e q (by simp; omega)) (by rw [gI_of (et 64 (by omega) (by omega)), gI_of E64, rI3 (by omega)]) (by simp (disch := omega) only [mu_ne, mu_eq]) (fun k hk j hj => by simp (disch := omega) only [mu_ne, mu_eq])) (RUs_0 (by rw [gI_of (et 64 (by omega) (by omega)), gI_of E64, rI1]; rfl)) ⟨by rw [gI_of (e 47 (by simp))], by rw [gI_of (e 47 (by simp))]⟩ (TPs_c b10 (fun k _ => by rw [gI_of (e 42 (by simp))]) (e 43 (by simp)) (e 79 (by simp)) (fun k p1 p2 => by rw [gI_of (e 75 (by simp))])) (fun q p1 p2 => e q (by simp; omega))
      · obtain ⟨w0, w1, w2, w3, w4, w5, w6, w7, w8, w9, w10, w11, w12, w13⟩ := hW
        exact ⟨by simp (disch := omega) only [mu_ne, mu_eq]; exact w0, by simp (disch := omega) only [mu_ne, mu_eq]; omega, by simp (disch := omega) only [mu_ne, mu_eq]; exact w2, by simp (disch := omega) only [mu_ne, mu_eq]; exact w3, by simp (disch := omega) only [mu_ne, mu_eq]; exact w4, by simp (disch := omega) only [mu_ne, mu_eq]; exact w5, by simp (disch := omega) only [mu_ne, mu_eq]; exact w6, fun s hs => by simp (disch := omega) only [mu_ne, mu_eq]; exact w7 s hs, fun c hc => by simp (disch := omega) only [mu_ne, mu_eq]; exact w8 c hc, fun n hn => by
      simp (disch := omega) only [mu_eq] at hn
      by_cases ec : n = N
      · subst ec; simp (disch := omega) only [mu_ne, mu_eq]; omega
      · simp (disch := omega) only [mu_ne, mu_eq]; exact w9 n (by omega), fun k hk => by simp (disch := omega) only [mu_ne, mu_eq] at hk; simp (disch := omega) only [mu_ne, mu_eq]; exact w10 k hk, fun k hk => by simp (disch := omega) only [mu_ne, mu_eq] at hk; simp (disch := omega) only [mu_ne, mu_eq]; exact w11 k hk, fun y hy => by simp (disch := omega) only [mu_ne, mu_eq] at hy; exact ⟨fun c hc => by simp (disch := omega) only [mu_ne, mu_eq]; exact (w12 y hy).1 c hc, fun s hs => by simp (disch := omega) only [mu_ne, mu_eq]; exact (w12 y hy).2 s hs⟩, fun Y hY c hc n hn => by simp (disch := omega) only [mu_ne, mu_eq]; exact w13 Y hY c hc n hn⟩
      · simp (disch := omega) only [mu_eq] at h1
        simp (disch := omega) only [mu_ne, mu_eq]
        exact hZ Y hY c hc n hn (by omega)
      · simp (disch := omega) only [mu_ne] at hk
        have := hPW k hk
        simp (disch := omega) only [mu_ne, mu_eq]
        omega
      · refine ⟨?_, fun n hn => ?_⟩
        · rw [gI_of (et 1 (by omega) (by omega)), v1]; simp (disch := omega) only [mu_ne, mu_eq]
        · simp (disch := omega) only [mu_eq] at hn
          by_cases ec : n = N
          · subst ec
            obtain ⟨y2, y3, y4, y5, y6, y8, y7⟩ := vN
            simp only [if_true]
            refine ⟨g, ?_, ?_, ?_, ?_, ?_, ?_, ?_, fun j hj => ?_⟩
            · rw [gL_sI, gL_sI, gL_sI, rL1]
            · rw [gL_of (et 2 (by omega) (by omega))]; exact y2
            · rw [gI_of (et 3 (by omega) (by omega))]; exact y3
            · rw [gI_of (et 4 (by omega) (by omega)), y4]; simp (disch := omega) only [mu_ne, mu_eq]
            · rw [gI_of (et 5 (by omega) (by omega)), y5]; simp (disch := omega) only [mu_ne, mu_eq]
            · rw [gL_of (et 6 (by omega) (by omega))]; exact y6
            · rw [gI_of (et 8 (by omega) (by omega))]; exact y8
            · rw [gI_of (et 7 (by omega) (by omega))]; exact y7 j hj
          · obtain ⟨y2, y3, y4, y5, y6, y8, y7⟩ := vO n ec
            obtain ⟨x1, x2, x3, x4, x5, x6, x7, x8, x9⟩ := b1.2 n (by omega)
            have sc10 := (SN_in x1).1
            simp only [ec, if_false]
            refine ⟨x1, ?_, ?_, ?_, ?_, ?_, ?_, ?_, fun j hj => ?_⟩
            · rw [gL_sI, gL_sI, gL_sI, rL3 ec]; exact (hU' n (by omega)).2
            · rw [gL_of (et 2 (by omega) (by omega)), y2, gL_sI]; exact x3
            · rw [gI_of (et 3 (by omega) (by omega)), y3, rI2 (by omega)]; exact x4
            · rw [gI_of (et 4 (by omega) (by omega)), y4, rI2 (by omega), x5]; simp (disch := omega) only [mu_ne, mu_eq]
            · rw [gI_of (et 5 (by omega) (by omega)), y5, rI2 (by omega), x6]; simp (disch := omega) only [mu_ne, mu_eq]
            · rw [gL_of (et 6 (by omega) (by omega)), y6, gL_sI]; exact x7
            · rw [gI_of (et 8 (by omega) (by omega)), y8, rI2 (by omega)]; exact x8
            · rw [gI_of (et 7 (by omega) (by omega)), y7 j (by omega), rI2 (by omega)]; exact x9 j hj
      · obtain ⟨d1, d2, d3, d4, d5, d6, d7, d8, d9, d10, d11⟩ := b3
        have gg : ∀ q k, 9 ≤ q → q ≤ 20 → gI (sI (sI (sI (sL υ 78 N (lN u)) 76 (30 + N) (II s)) 76 (1900 + N) (II (m 0))) 76 1 (II ((N : Int) + 1))) q k = gI σ q k := fun q k p1 p2 => gI_of (e q (by simp; omega)) k
        refine ⟨by rw [gg _ _ (by omega) (by omega)]; simp (disch := omega) only [mu_ne, mu_eq]; exact d1, by rw [gg _ _ (by omega) (by omega)]; simp (disch := omega) only [mu_ne, mu_eq]; exact d2, by rw [gg _ _ (by omega) (by omega)]; simp (disch := omega) only [mu_ne, mu_eq]; exact d3, by rw [gg _ _ (by omega) (by omega)]; simp (disch := omega) only [mu_ne, mu_eq]; exact d4, fun Y p c q n r => by rw [gg _ _ (by omega) (by omega)]; simp (disch := omega) only [mu_ne, mu_eq]; exact d5 Y p c q n r, fun c q => by rw [gg _ _ (by omega) (by omega)]; simp (disch := omega) only [mu_ne, mu_eq]; exact d6 c q, fun y p c q => by simp (disch := omega) only [mu_ne] at p; rw [gg _ _ (by omega) (by omega)]; simp (disch := omega) only [mu_ne, mu_eq]; exact d7 y p c q, fun c q => by rw [gg _ _ (by omega) (by omega)]; simp (disch := omega) only [mu_ne, mu_eq]; exact d8 c q, fun y p c q => by simp (disch := omega) only [mu_ne] at p; rw [gg _ _ (by omega) (by omega)]; simp (disch := omega) only [mu_ne, mu_eq]; exact d9 y p c q, fun k p => by simp (disch := omega) only [mu_ne] at p; rw [gg _ _ (by omega) (by omega), gg _ _ (by omega) (by omega)]; simp (disch := omega) only [mu_ne, mu_eq]; exact d10 k p, fun k p => by simp (disch := omega) only [mu_ne] at p; rw [gg _ _ (by omega) (by omega), gg _ _ (by omega) (by omega), gg _ _ (by omega) (by omega)]; simp (disch := omega) only [mu_ne, mu_eq]; exact d11 k p⟩
  · exact ⟨fun _ => ref0 (fun w => g w.1), fun w => absurd rfl w⟩
