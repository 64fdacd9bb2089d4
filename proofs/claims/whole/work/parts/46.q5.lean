theorem cr_at {d e : Nat → Int} (i : Nat) (h : cr d e i ≠ -1) : 0 ≤ cr d e i ∧ cr d e (cr d e i + 41).toNat = cr d e i ∧ cr d e (cr d e i + 40).toNat = -1 := by
  induction i with
  | zero => exact absurd rfl h
  | succ i ih =>
    by_cases c : cr d e i = -1
    · have e1 : cr d e (i + 1) = if cr d e i = -1 then (if 40 ≤ i ∧ ld d i = true ∧ 0 ≤ d i ∧ 0 < e i then (i : Int) - 40 else -1) else cr d e i := rfl
      rw [if_pos c] at e1
      by_cases c2 : 40 ≤ i ∧ ld d i = true ∧ 0 ≤ d i ∧ 0 < e i
      · rw [if_pos c2] at e1
        have a1 : (cr d e (i + 1) + 41).toNat = i + 1 := by omega
        have a2 : (cr d e (i + 1) + 40).toNat = i := by omega
        rw [a1, a2]
        exact ⟨by omega, rfl, c⟩
      · rw [if_neg c2] at e1; exact absurd e1 h
    · have := cr_stay c 1
      rw [this]; exact ih c
theorem ofSex_ok {σ : St} {G : GV} {i x n : Nat} {post : Int32 → St → Prop} (h : RG σ G) (hi : i < 101) (hx : x < 2) (hn : n < 16) (hp : post (II (gx G i x n)) σ) : wpX12_ofSex (II ((i : Int) - 40)) (II x) (II n) σ post := by
  simp (disch := omega) only [wpX12_ofSex, I_lit, I_add, I_mul, I_in, true_and, I_cl]
  rw [show (32 * ((i : Int) - 40 + 40) + 16 * (x : Int) + (n : Int)).toNat = 32 * i + 16 * x + n by omega, h.2.2.2.2 i hi x hx n hn]
  exact hp
theorem rcross1 {σ : St} {G : GV} {m : MT} {n : Nat} {k : Int} {post : Int32 → St → Prop} (hR : RG σ G) (hG : GB G) (hn : n < 16) (hm : RM σ m) (hM : 0 ≤ m 0 ∧ m 0 ≤ 61) (hk : 0 ≤ k ∧ k ≤ 1)
    (hp : ∀ r : Int, (cr (dg G n) (fun i => gt G i 6 n) (m 0 + 40).toNat = -1 → r = -1) → (cr (dg G n) (fun i => gt G i 6 n) (m 0 + 40).toNat ≠ -1 → k = 0 → r = cr (dg G n) (fun i => gt G i 6 n) (m 0 + 40).toNat) → (cr (dg G n) (fun i => gt G i 6 n) (m 0 + 40).toNat ≠ -1 → k = 1 → r = bI (ag (dg G n) (fun i => gt G i 6 n) (m 0 + 40).toNat)) → post (II r) σ) :
    ∃ f, wbX12_crossed_35 post f (II n) (II k) 0 (-1) 0 (-40) σ := by
  have e0 : gI σ 76 0 = II (m 0) := hm 0
  refine up (P := fun f i => wbX12_crossed_35 post f (II n) (II k) (II (bI (ld (dg G n) i))) (II (cr (dg G n) (fun i => gt G i 6 n) i)) (II (bI (ag (dg G n) (fun i => gt G i 6 n) i))) (II ((i : Int) - 40)) σ) (m 0 + 40).toNat ?_ ?_ 0 (by omega)
  · intro f
    have c := cr_in (dg G n) (fun i => gt G i 6 n) (m 0 + 40).toNat
    simp (disch := omega) only [wbX12_crossed_35, I_lit, I_neg, I_in, true_and, I_cl, Int.reduceToNat, e0, I_le, I_eq]
    refine ⟨fun _ => ⟨fun q => hp _ (fun _ => q) (fun z => absurd q z) (fun z => absurd q z), fun q => ⟨fun q2 => ?_, fun q2 => hp _ (fun z => absurd z q) (fun _ _ => rfl) (fun _ z => by omega)⟩⟩, fun q => absurd (by omega) q⟩
    have hp1 := hp _ (fun z => absurd z q) (fun _ z => absurd z q2) (fun _ _ => rfl)
    cases ha : ag (dg G n) (fun i => gt G i 6 n) (m 0 + 40).toNat with
    | true => rw [ha] at hp1; exact t1 hp1
    | false => rw [ha] at hp1; exact t0 hp1
  · intro f i hi ih
    have c := cr_in (dg G n) (fun i => gt G i 6 n) i
    have o1 := ofSex_ok (σ := σ) (G := G) (i := i) (x := 1) (n := n) (post := fun r_1 σ_2 => wpX12_ofSex (II ((i : Int) - 40)) (II 0) (II n) σ_2 (fun r_3 σ_4 =>
      ((r_1 ≤ r_3 →
        wbX12_crossed_70 (wbX12_crossed_35 post f) post (II n) (II k) (II (bI (ld (dg G n) i))) (II (cr (dg G n) (fun i => gt G i 6 n) i)) (II (bI (ag (dg G n) (fun i => gt G i 6 n) i))) (II ((i : Int) - 40)) (II 0) σ_4) ∧
      (¬ r_1 ≤ r_3 →
        wbX12_crossed_70 (wbX12_crossed_35 post f) post (II n) (II k) (II (bI (ld (dg G n) i))) (II (cr (dg G n) (fun i => gt G i 6 n) i)) (II (bI (ag (dg G n) (fun i => gt G i 6 n) i))) (II ((i : Int) - 40)) (II 1) σ_4)))) hR (by omega) (by omega) hn ?_
    · simp (disch := omega) only [wbX12_crossed_35, I_lit, I_in, true_and, I_cl, Int.reduceToNat, e0, I_le]
      exact ⟨fun q => absurd q (by omega), fun _ => o1⟩
    · refine ofSex_ok (x := 0) hR (by omega) (by omega) hn ?_
      have g1 := gt_nn hG i 6 n
      have g2 := gt_le hG i 6 n
      have g3 := gt_nn hG i 5 n
      have g4 := gt_le hG i 5 n
      have g5 : gx G i 1 n = gt G i 6 n - gt G i 5 n := rfl
      have g6 : gx G i 0 n = gt G i 5 n := rfl
      have g7 : dg G n i = 2 * gt G i 5 n - gt G i 6 n := rfl
      rw [g5, g6, I_le (by omega)]
      have e1 : cr (dg G n) (fun i => gt G i 6 n) (i + 1) = if cr (dg G n) (fun i => gt G i 6 n) i = -1 then (if 40 ≤ i ∧ ld (dg G n) i = true ∧ 0 ≤ dg G n i ∧ 0 < gt G i 6 n then (i : Int) - 40 else -1) else cr (dg G n) (fun i => gt G i 6 n) i := rfl
      have e2 : ld (dg G n) (i + 1) = (ld (dg G n) i || decide (dg G n i < 0)) := rfl
      have e3 : ag (dg G n) (fun i => gt G i 6 n) (i + 1) = if cr (dg G n) (fun i => gt G i 6 n) i = -1 then ag (dg G n) (fun i => gt G i 6 n) i else (ag (dg G n) (fun i => gt G i 6 n) i || decide (dg G n i < 0)) := rfl
      rw [show ((i + 1 : Nat) : Int) - 40 = (i : Int) - 40 + 1 by omega] at ih
      -- the last step, led
      have last : ∀ (C A : Int) (s : Bool), (s = decide (dg G n i < 0)) → wbX12_crossed_35 post f (II n) (II k) (II (bI (ld (dg G n) (i + 1)))) (II C) (II A) (II ((i : Int) - 40 + 1)) σ →
          wbX12_crossed_126 (wbX12_crossed_35 post f) post (II n) (II k) (II (bI (ld (dg G n) i))) (II C) (II A) (II ((i : Int) - 40)) (II (bI s)) σ := by
        intro C A s hs hw
        rw [e2, ← hs] at hw
        unfold wbX12_crossed_126
        simp only [I_lit, fe, I_add]
        cases hl : ld (dg G n) i with
        | true => rw [hl] at hw; exact s1 hw
        | false =>
          rw [hl] at hw
          refine s0 ?_
          cases s with
          | true => exact t1 hw
          | false => exact t0 hw
      have hb : bI (ld (dg G n) i) = 0 ∨ bI (ld (dg G n) i) = 1 := by cases ld (dg G n) i <;> simp [bI]
      have hb1 : bI (ld (dg G n) i) = 0 → ¬ ld (dg G n) i = true := by cases ld (dg G n) i <;> simp [bI]
      have hb2 : ¬ bI (ld (dg G n) i) = 0 → ld (dg G n) i = true := by cases ld (dg G n) i <;> simp [bI]
      have main : ∀ s : Bool, s = decide (dg G n i < 0) → wbX12_crossed_70 (wbX12_crossed_35 post f) post (II n) (II k) (II (bI (ld (dg G n) i))) (II (cr (dg G n) (fun i => gt G i 6 n) i)) (II (bI (ag (dg G n) (fun i => gt G i 6 n) i))) (II ((i : Int) - 40)) (II (bI s)) σ := by
        intro s hs
        unfold wbX12_crossed_70
        simp (disch := omega) only [I_lit, I_neg, I_eq, I_lt]
        refine ⟨fun q => ?_, fun q => ?_⟩
        · rw [if_pos q] at e1 e3
          have no : ¬ (40 ≤ i ∧ ld (dg G n) i = true ∧ 0 ≤ dg G n i ∧ 0 < gt G i 6 n) → wbX12_crossed_126 (wbX12_crossed_35 post f) post (II n) (II k) (II (bI (ld (dg G n) i))) (II (cr (dg G n) (fun i => gt G i 6 n) i)) (II (bI (ag (dg G n) (fun i => gt G i 6 n) i))) (II ((i : Int) - 40)) (II (bI s)) σ := by
            intro nc
            rw [if_neg nc, ← q] at e1
            refine last _ _ s hs ?_
            rw [e1, e3] at ih; exact ih
          refine ⟨fun q2 => no (by omega), fun q2 => ⟨fun q3 => no (fun z => hb1 q3 z.2.1), fun q3 => all_ok hR hn (by omega) ?_⟩⟩
          rw [if_neg (by omega), show ((i : Int) - 40 + 40).toNat = i by omega, I_le (by omega)]
          refine ⟨fun q4 => no (by omega), fun q4 => ?_⟩
          have hs2 : s = true → dg G n i < 0 := fun z => of_decide_eq_true (by rw [← hs]; exact z)
          have hs3 : s = false → ¬ dg G n i < 0 := fun z => of_decide_eq_false (by rw [← hs]; exact z)
          cases s with
          | true => exact s1 (no (fun z => by have := hs2 rfl; omega))
          | false =>
            have := hs3 rfl
            refine s0 (last _ _ false hs ?_)
            rw [if_pos ⟨by omega, hb2 q3, by omega, by omega⟩] at e1
            rw [e1, e3] at ih; exact ih
        · rw [if_neg q] at e1 e3
          cases ha : ag (dg G n) (fun i => gt G i 6 n) i with
          | true =>
            refine s1 (last _ 1 s hs ?_)
            rw [e1, e3, ha] at ih; exact ih
          | false =>
            rw [← hs] at e3
            refine s0 ?_
            cases s with
            | true =>
              refine t1 (last _ 1 true hs ?_)
              rw [e1, e3, ha] at ih; exact ih
            | false =>
              refine t0 (last _ 0 false hs ?_)
              rw [e1, e3, ha] at ih; exact ih
      refine ⟨fun q => main false ?_, fun q => main true ?_⟩
      · exact (decide_eq_false (by omega)).symm
      · exact (decide_eq_true (by omega)).symm
theorem crossed_ok {σ : St} (h : Inv σ) (a b : Int32) : wpX11_crossed a b σ (fun r τ => wpX12_crossed a b τ (Q2 r)) := by
  obtain ⟨m, mi, U, T, hA, hB⟩ := id h
  obtain ⟨n, n1, n2, rfl⟩ := I_of a
  obtain ⟨k, k1, k2, rfl⟩ := I_of b
  have hM := hA.1
  have hW := hA.2.2.1
  have w0 := hW.1
  have w1 := hW.2.1
  have e9 := hB.2.2.1.1
  have hb := hB.2.2.2.2.1
  have hG : GB (run (KK m U T) (m 0).toNat) := GC_GB (run_GC (K := KK m U T) hW _).1
  have ref0 : ¬ ((0 ≤ n ∧ n < m 1) ∧ (0 ≤ k ∧ k ≤ 1)) → wpX12_crossed (II n) (II k) σ (Q2 (II (-1))) := by
    intro hz
    unfold wpX12_crossed
    refine isName_ok hM w1 (by omega) (fun q => t1 ?_) (fun q => t0 ⟨rfl, h⟩)
    exact in_ok (b := 0) (c := 1) (by omega) (fun q2 => absurd ⟨q, q2⟩ hz) (fun q2 => s0 ⟨rfl, h⟩)
  unfold wpX11_crossed
  refine has_ok hB.1.1 w1 (by omega) (fun z => t1 ?_) (fun z => t0 (ref0 (fun q => z q.1)))
  refine wi_ok (b := 0) (c := 1) (by omega) (fun x => s1 ?_) (fun x => s0 (ref0 (fun q => x q.2)))
  obtain ⟨N, rfl⟩ : ∃ N : Nat, n = N := ⟨n.toNat, by omega⟩
  obtain ⟨G, eG⟩ : ∃ G, G = run (KK m U T) (m 0).toNat := ⟨_, rfl⟩
  have cin := cr_in (dg G N) (fun i => gt G i 6 N) (m 0 + 40).toNat
  have cat := cr_at (d := dg G N) (e := fun i => gt G i 6 N) (m 0 + 40).toNat
  rw [← eG] at hG hb
  have ref : ∀ r : Int, (cr (dg G N) (fun i => gt G i 6 N) (m 0 + 40).toNat = -1 → r = -1) → (cr (dg G N) (fun i => gt G i 6 N) (m 0 + 40).toNat ≠ -1 → k = 0 → r = cr (dg G N) (fun i => gt G i 6 N) (m 0 + 40).toNat) → (cr (dg G N) (fun i => gt G i 6 N) (m 0 + 40).toNat ≠ -1 → k = 1 → r = bI (ag (dg G N) (fun i => gt G i 6 N) (m 0 + 40).toNat)) → wpX12_crossed (II N) (II k) σ (Q2 (II r)) := by
    intro r r0 r1 r2
    unfold wpX12_crossed
    refine isName_ok hM w1 (by omega) (fun _ => t1 ?_) (fun q => absurd z q)
    refine in_ok (b := 0) (c := 1) (by omega) (fun _ => s1 ?_) (fun q => absurd x q)
    refine runsAll_ok hA hB ?_
    intro τ tR tG tn
    have tA := SR_A hA tR
    have tI := SR_I h tR
    rw [← eG] at tG
    refine rcross1 tG hG (by omega) tA.1 w0 x ?_
    intro r' s0 s1 s2
    have : r' = r := by
      by_cases c : cr (dg G N) (fun i => gt G i 6 N) (m 0 + 40).toNat = -1
      · rw [r0 c, s0 c]
      · by_cases c2 : k = 0
        · rw [r1 c c2, s1 c c2]
        · rw [r2 c (by omega), s2 c (by omega)]
    rw [this]
    exact ⟨rfl, tI⟩
  refine crossing_ok hb hG (by omega) e9 w0 ?_
  simp (disch := omega) only [I_lit, I_neg, I_eq]
  refine ⟨fun q => ref _ (fun _ => q) (fun c => absurd q c) (fun c => absurd q c), fun q => ⟨fun q1 => ?_, fun q1 => ref _ (fun c => absurd c q) (fun _ _ => rfl) (fun _ => by omega)⟩⟩
  have c3 := cat q
  refine boysAgain_ok hb hG (by omega) e9 w0 (by omega) c3.2.1.symm c3.2.2 ?_
  have fin := ref (bI (ag (dg G N) (fun i => gt G i 6 N) (m 0 + 40).toNat)) (fun c => absurd c q) (fun _ c => absurd c q1) (fun _ _ => rfl)
  cases ha : ag (dg G N) (fun i => gt G i 6 N) (m 0 + 40).toNat with
  | true => rw [ha] at fin; exact t1 fin
  | false => rw [ha] at fin; exact t0 fin
