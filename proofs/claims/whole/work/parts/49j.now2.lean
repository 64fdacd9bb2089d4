theorem SR_75 {σ τ : St} (e : ∀ q, q ≠ 75 → q < 96 → τ q = σ q) (f : ∀ k, k < 55 → gI τ 75 k = gI σ 75 k) : SR σ τ :=
  ⟨⟨fun q hq => e q (by omega) (by omega), by rw [gI_of (e 64 (by omega) (by omega))], by rw [gI_of (e 47 (by omega) (by omega))], by rw [gI_of (e 47 (by omega) (by omega))], fun k hk => f k (by omega)⟩, e 64 (by omega) (by omega), e 69 (by omega) (by omega)⟩
theorem tas_now {m : MT} {U : Nat → Nat} {T : TT} (s : Nat) : tas (KK m U T) (m 0).toNat s = m (7 + s) := by
  unfold tas
  rw [if_neg (show ¬ kb (KK m U T) ≠ -1 from fun z => z rfl), if_neg (show ¬ (m 0).toNat < kc (KK m U T) from Nat.lt_irrefl _)]
  rfl
theorem rnow1 {σ : St} {m mi : MT} {U : Nat → Nat} {T : TT} {p s x : Nat} {k : Int} {j : Bool} {r : Int32} (h : Inv σ) (hA : IvA σ m mi U T) (hB : IvB σ m mi U T) (h60 : m 0 ≤ 60) (hp : p < 3) (hs : s < 2) (hx : x < 2) (ht : m (7 + s) ≠ -1) (K : KT) (eK : K = KK m U T) (G : GV) (eG : G = run (KK m U T) (m 0).toNat)
    (hk : j = false ∧ (k = 0 ∨ k = 1) ∨ j = true ∧ (100 ≤ k ∧ k ≤ 99 + m 1 ∨ 200 ≤ k ∧ k ≤ 199 + m 1))
    (r0 : k = 0 → r = II (chp K G (m 0).toNat p s x)) (r1 : k = 1 → r = II (if chp K G (m 0).toNat p s x = -1 then -2000000000 else wo K G (m 0).toNat p s (chp K G (m 0).toNat p s x).toNat (m (7 + s)).toNat))
    (r2 : 100 ≤ k → k < 200 → r = II (wo K G (m 0).toNat p s (k - 100).toNat (m (7 + s)).toNat)) (r3 : 200 ≤ k → r = II (if my K G (m 0).toNat p s x (k - 200).toNat (m (7 + s)).toNat then 1 else 0)) :
    wbX12_now_103 (Q2 r) (II p) (II s) (II x) (II k) (II (bI j)) σ := by
  have hW := hA.2.2.1
  have w0 := hW.1
  have w1 := hW.2.1
  have w4 := hW.2.2.2.2.1
  have w7 := hW.2.2.2.2.2.2.2.1 s hs
  unfold wbX12_now_103
  refine laysNow_ok hA hB h60 ?_
  intro τ tR tC tL tT
  rw [← eK] at tC tL tT
  have eG' : run K (m 0).toNat = G := by rw [eK, eG]
  rw [eG'] at tC tL
  have et : tas K (m 0).toNat s = m (7 + s) := by rw [eK]; exact tas_now s
  have e0 : gI τ 76 0 = II (((m 0).toNat : Nat) : Int) := by rw [show (((m 0).toNat : Nat) : Int) = m 0 by omega]; exact (SR_A hA tR).1 0
  have e7 : gI τ 76 (7 + s) = II (m (7 + s)) := (SR_A hA tR).1 (7 + s)
  have kn1 : kn K = (m 1).toNat := by rw [eK]; rfl
  have eK1 : K.1 = m := by rw [eK]; rfl
  rw [← eK1] at tT
  cases j with
  | false =>
    refine ⟨fun z => absurd rfl z, fun _ => ?_⟩
    have hk' : k = 0 ∨ k = 1 := by
      rcases hk with ⟨_, z⟩ | ⟨z, _⟩
      · exact z
      · exact absurd z (by decide)
    simp (disch := omega) only [I_lit, I_neg, I_in, true_and, I_cl, Int.reduceToNat, e0]
    refine chooses_ok tC tT tL hp hs hx ?_
    intro υ uE uF u56 u57
    have uR : SR σ υ := tR.trans (SR_75 (fun q h1 h2 => (uE q (by simp; omega)).symm) (fun k hk => uF k (by omega)))
    have uI := SR_I h uR
    have cr := pck_range (fun n => my K G (m 0).toNat p s x n (tas K (m 0).toNat s).toNat) (fun n => wo K G (m 0).toNat p s n (tas K (m 0).toNat s).toNat) (kn K)
    have ec : chp K G (m 0).toNat p s x = pck (fun n => my K G (m 0).toNat p s x n (tas K (m 0).toNat s).toNat) (fun n => wo K G (m 0).toNat p s n (tas K (m 0).toNat s).toNat) (kn K) := if_neg (by rw [et]; exact ht)
    rw [← ec] at cr
    rw [u56, I_eq (by omega), I_eq (by omega)]
    refine ⟨fun q => ⟨fun q2 => ?_, fun q2 => ?_⟩, fun q => ⟨r0 q, uI⟩⟩
    · rw [u57 q2, L_thin, et]
      refine ⟨?_, uI⟩
      rw [r1 (by omega), if_neg q2]
    · refine ⟨?_, uI⟩
      rw [r1 (by omega), if_pos q2]
  | true =>
    refine ⟨fun _ => ?_, fun z => absurd z (by decide)⟩
    have hk' : 100 ≤ k ∧ k ≤ 99 + m 1 ∨ 200 ≤ k ∧ k ≤ 199 + m 1 := by
      rcases hk with ⟨z, _⟩ | ⟨_, z⟩
      · exact absurd z (by decide)
      · exact z
    obtain ⟨n, en⟩ : ∃ n : Nat, k - k / 100 * 100 = n := ⟨(k - k / 100 * 100).toNat, by omega⟩
    simp (disch := omega) only [I_lit, I_in, true_and, I_cl, Int.reduceToNat, fe, I_div, I_mul, I_sub, en, e0]
    refine words_ok tC tL hp hs (by omega) (by rw [et]; exact ht) ?_
    intro υ uE uw
    obtain ⟨-, -, -, -, nr5, -⟩ := tC.1.2.2.1 (tas K (m 0).toNat s).toNat (by rw [et, eK1]; omega)
    obtain ⟨_, -, -, en3⟩ := tC.1.2.2.2
    have wb := wv_wb (p := p) (s := s) tC.2.2.1 tC.1.2.1 ⟨(en3 n (by omega)).1, (en3 n (by omega)).2.1⟩ tC.2.2.2.2.2 nr5
    have f0 : gI υ 76 0 = II (((m 0).toNat : Nat) : Int) := by rw [Eqx_gI uE (by simp)]; exact e0
    have f7 : gI υ 76 (7 + s) = II (m (7 + s)) := by rw [Eqx_gI uE (by simp)]; exact e7
    have uR : SR σ υ := tR.trans (SR_x uE (by simp))
    have uC : Cx1 υ G K (m 0).toNat (tas K (m 0).toNat) := ⟨Cx0_eq tC.1 (uE 76 (by simp)).symm (uE 78 (by simp)).symm (uE 83 (by simp)).symm (uE 84 (by simp)).symm, RG_eq tC.2.1 (fun q h1 h2 => (uE q (by simp; omega)).symm), tC.2.2.1, fun s hs => by rw [Eqx_gI uE (by simp)]; exact tC.2.2.2.1 s hs, tC.2.2.2.2⟩
    have uT := RW_eq tT (fun q a b => (uE q (by simp; omega)).symm)
    simp (disch := omega) only [I_le, f0]
    refine ⟨fun q => ?_, fun q => ?_⟩
    · refine may_ok uC uT (by rw [Eqx_gI uE (by simp)]; exact tL.2) hs hx (by omega) (by rw [et]; exact ht) wb uw ?_
      intro ω wE
      have wI := SR_I h (uR.trans (SR_x wE (by simp)))
      have hr := r3 q
      rw [et, show (k - 200).toNat = n by omega] at *
      cases hm : my K G (m 0).toNat p s x n (m (7 + s)).toNat with
      | true => rw [hm] at hr; exact t1 ⟨hr, wI⟩
      | false => rw [hm] at hr; exact t0 ⟨hr, wI⟩
    · have j7 : ((7 : Int) + (s : Int)).toNat = 7 + s := by omega
      simp (disch := omega) only [I_add, I_in, true_and, I_cl, j7, f7]
      rw [show m (7 + s) = (((tas K (m 0).toNat s).toNat : Nat) : Int) by rw [et]; omega]
      refine (uT (tas K (m 0).toNat s).toNat (by rw [et, eK1]; omega) υ (RWe_of (fun _ _ _ => rfl)) _ wb uw).2.1 _ ?_
      intro ω wE
      have wI := SR_I h (uR.trans (SR_x wE (by simp)))
      rw [L_thin]
      refine ⟨?_, wI⟩
      have hr := r2 (by omega) (by omega)
      rw [show (k - 100).toNat = n by omega] at hr
      rw [hr, et]; rfl
