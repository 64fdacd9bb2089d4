theorem rky_ok {υ : St} {m : MT} {U : Nat → Nat} {G : GV} {p s x n : Nat} {v b5 b6 w7 w : Int} {K70 : Int32 → Int32 → Int32 → Int32 → Int32 → Int32 → Int64 → Int32 → St → Prop} {post : Int32 → St → Prop} (hR : RG υ G) (hG : GB G) (hM : RM υ m) (hU : ∀ i : Nat, (i : Int) < m 1 → good (U i) ∧ gL υ 78 i = lN (U i)) (w0 : 1 ≤ m 0 ∧ m 0 ≤ 60) (w1 : 0 ≤ m 1 ∧ m 1 ≤ 16) (hp3 : p < 3) (hn : (n : Int) < m 1) (hb5 : -1 ≤ b5 ∧ b5 ≤ 16) (hb6 : 0 ≤ b6 ∧ b6 ≤ 1919808) (hw7 : -2000000000 ≤ w7 ∧ w7 ≤ 2000000000) (hw : -2000000000 ≤ w ∧ w ≤ 2000000000)
    (hyes : (b5 = -1 ∨ ky G U (m 0 + 39).toNat p n (m 1).toNat < b6 ∨ (ky G U (m 0 + 39).toNat p n (m 1).toNat = b6 ∧ w7 < w)) → K70 (II p) (II s) (II x) (II v) (II n) (II (ky G U (m 0 + 39).toNat p n (m 1).toNat)) (LL w) (II ((n : Int) + 1)) υ)
    (hno : ¬ (b5 = -1 ∨ ky G U (m 0 + 39).toNat p n (m 1).toNat < b6 ∨ (ky G U (m 0 + 39).toNat p n (m 1).toNat = b6 ∧ w7 < w)) → K70 (II p) (II s) (II x) (II v) (II b5) (II b6) (LL w7) (II ((n : Int) + 1)) υ) :
    ∃ f, wbX12_best_133 K70 post f (II p) (II s) (II x) (II v) (II b5) (II b6) (LL w7) (II n) (LL w) 0 0 υ := by
  have e0 : gI υ 76 0 = II (m 0) := hM 0
  have e1 : gI υ 76 1 = II (m 1) := hM 1
  refine up (P := fun f i => wbX12_best_133 K70 post f (II p) (II s) (II x) (II v) (II b5) (II b6) (LL w7) (II n) (LL w) (II (ky G U (m 0 + 39).toNat p n i)) (II i) υ) (m 1).toNat ?_ ?_ 0 (by omega)
  · intro f
    have kb := ky_b hG U (m 0 + 39).toNat p n (m 1).toNat (by omega)
    simp (disch := omega) only [wbX12_best_133, wbX12_best_239, I_lit, I_neg, I_in, true_and, I_cl, Int.reduceToNat, e1, I_le, I_lt, I_eq, L_le, fe, I_add]
    refine ⟨fun _ => ⟨fun q => hyes (Or.inl q), fun q => ⟨fun q2 => hyes (Or.inr (Or.inl q2)), fun q2 => ⟨fun q3 => hno (by omega), fun q3 => ⟨fun q4 => hno (by omega), fun q4 => hyes (Or.inr (Or.inr ⟨q3, by omega⟩))⟩⟩⟩⟩, fun q => absurd (by omega) q⟩
  · intro f i hi ih
    have es : ky G U (m 0 + 39).toNat p n (i + 1) = ky G U (m 0 + 39).toNat p n i + (if aU U n i = true then gt G (m 0 + 39).toNat p i else 0) := rfl
    rw [es] at ih
    have j : (48 * (m 0 + 39) + 16 * (p : Int) + (i : Int)).toNat = 48 * (m 0 + 39).toNat + 16 * p + i := by omega
    have r := hR.2.2.1 (m 0 + 39).toNat (by omega) p hp3 i (by omega)
    obtain ⟨a1, a2⟩ := hU i (by omega)
    obtain ⟨b1, b2⟩ := hU n (by omega)
    simp (disch := omega) only [wbX12_best_133, wbX12_best_173, I_lit, I_neg, I_in, true_and, I_cl, Int.reduceToNat, Int.toNat_natCast, e1, e0, I_le, I_eq, fe, I_add, I_mul, j, r, a2, b2]
    refine ⟨fun q => absurd q (by omega), fun _ => ⟨fun q => ?_, fun q => ?_⟩⟩
    · have : i = n := by omega
      rw [this, show aU U n n = true from alb_self _ _, if_pos rfl] at ih
      rw [this]; exact ih
    · refine areAlike_ok a1 b1 ?_
      have al : alb (SN (U i)) (SC (U i)) (SN (U n)) (SC (U n)) = aU U n i := alb_symm _ _ _ _
      rw [al]
      cases c : aU U n i with
      | false => rw [c, if_neg (by decide)] at ih; exact t0 ih
      | true =>
        rw [c, if_pos rfl] at ih
        refine t1 ?_
        simp (disch := omega) only [e0, I_add, I_mul, I_in, true_and, I_cl, j, r]
        exact ih
theorem rbest_ok {σ : St} {m mi : MT} {U : Nat → Nat} {T : TT} {p s x : Nat} {v : Int} {r : Int32} (h : Inv σ) (hA : IvA σ m mi U T) (hB : IvB σ m mi U T) (h60 : 1 ≤ m 0 ∧ m 0 ≤ 60) (hp : p < 3) (hs : s < 2) (hx : x < 2) (ht : m (7 + s) ≠ -1) (hv : 0 ≤ v ∧ v ≤ 1) (K : KT) (eK : K = KK m U T) (G : GV) (eG : G = run (KK m U T) (m 0).toNat)
    (hr : r = II (bF (fun n => my K G (m 0).toNat p s x n (m (7 + s)).toNat) (fun n => wo K G (m 0).toNat p s n (m (7 + s)).toNat) (fun n => ky G U (m 0 + 39).toNat p n (m 1).toNat) (m 1).toNat v)) :
    wpX12_laysNow σ (fun σ_6 => ∃ m_70, wbX12_best_70 (Q2 r) m_70 (II p) (II s) (II x) (II v) (-1) 0 0 0 σ_6) := by
  have hW := hA.2.2.1
  have w1 := hW.2.1
  have w4 := hW.2.2.2.2.1
  have w7 := hW.2.2.2.2.2.2.2.1 s hs
  refine laysNow_ok hA hB h60.2 ?_
  intro τ tR tC tL tT
  rw [← eK] at tC tL tT
  have eG' : run K (m 0).toNat = G := by rw [eK, eG]
  rw [eG'] at tC tL
  have et : tas K (m 0).toNat s = m (7 + s) := by rw [eK]; exact tas_now s
  have kn1 : kn K = (m 1).toNat := by rw [eK]; rfl
  have eK1 : K.1 = m := by rw [eK]; rfl
  rw [← eK1] at tT
  have tA := SR_A hA tR
  have tB := SR_B hA hB tR
  obtain ⟨-, -, -, -, nr5, -⟩ := tC.1.2.2.1 (tas K (m 0).toNat s).toNat (by rw [et, eK1]; omega)
  obtain ⟨_, -, -, en3⟩ := tC.1.2.2.2
  have wb : ∀ n, n < kn K → WB (wv K G (40 + (m 0).toNat) p s n (tas K (m 0).toNat s).toNat) := fun n hn => wv_wb tC.2.2.1 tC.1.2.1 ⟨(en3 n hn).1, (en3 n hn).2.1⟩ tC.2.2.2.2.2 nr5
  have hws : ∀ n, n < kn K → -2000000000 < wo K G (m 0).toNat p s n (m (7 + s)).toNat ∧ wo K G (m 0).toNat p s n (m (7 + s)).toNat < 2000000000 := by
    intro n hn
    rw [← et]
    exact (tT (tas K (m 0).toNat s).toNat (by rw [et, eK1]; omega) (fun q => if q = 96 then ((τ 96).1, (fun i => LL (wv K G (40 + (m 0).toNat) p s n (tas K (m 0).toNat s).toNat i)), (τ 96).2.2) else τ q) (RWe_of (fun q a b => if_neg (by omega))) _ (wb n hn) (fun i hi => by unfold gL; simp)).1
  obtain ⟨M, eM⟩ : ∃ M, M = fun n => my K G (m 0).toNat p s x n (m (7 + s)).toNat := ⟨_, rfl⟩
  obtain ⟨W, eW⟩ : ∃ W, W = fun n => wo K G (m 0).toNat p s n (m (7 + s)).toNat := ⟨_, rfl⟩
  obtain ⟨k, ek⟩ : ∃ k, k = fun n => ky G U (m 0 + 39).toNat p n (m 1).toNat := ⟨_, rfl⟩
  rw [← eM, ← eW, ← ek] at hr
  have kb : ∀ n, 0 ≤ k n ∧ k n ≤ 1919808 := fun n => by rw [ek]; exact ky_b tC.2.2.1 U _ _ _ _ (by omega)
  have wb2 : ∀ n, n < kn K → -2000000000 < W n ∧ W n < 2000000000 := fun n hn => by rw [eW]; exact hws n hn
  have key := up (P := fun f n => ∀ υ, Eqx [96, 97] τ υ → wbX12_best_70 (Q2 r) f (II p) (II s) (II x) (II v) (II (bs M W k n)) (II (if bs M W k n = -1 then 0 else k (bs M W k n).toNat)) (LL (if bs M W k n = -1 then 0 else W (bs M W k n).toNat)) (II n) υ) (m 1).toNat ?_ ?_ 0 (by omega)
  · obtain ⟨f, hf⟩ := key
    exact ⟨f, hf τ (Eqx.refl _ _)⟩
  · intro f υ uE
    have uI := SR_I h (tR.trans (SR_x uE (by simp)))
    have e1 : gI υ 76 1 = II (m 1) := by rw [Eqx_gI uE (by simp)]; exact tA.1 1
    have br := bs_range M W k (m 1).toNat
    unfold bF at hr
    simp (disch := omega) only [wbX12_best_70, I_lit, I_neg, I_in, true_and, I_cl, Int.reduceToNat, e1, I_le, I_eq]
    refine ⟨fun _ => ⟨fun q => ?_, fun q => ⟨fun q2 => ?_, fun q2 => ?_⟩⟩, fun q => absurd (by omega) q⟩
    · rw [if_pos q] at hr; rw [q]; exact ⟨hr, uI⟩
    · rw [if_neg q, if_neg q2] at hr; rw [if_neg q]; exact ⟨hr, uI⟩
    · rw [if_neg q, if_pos q2] at hr; exact ⟨hr, uI⟩
  · intro f n hn ih υ uE
    have br := bs_range M W k n
    have eb : bs M W k (n + 1) = if M n = true ∧ (bs M W k n = -1 ∨ k n < k (bs M W k n).toNat ∨ (k n = k (bs M W k n).toNat ∧ W (bs M W k n).toNat < W n)) then (n : Int) else bs M W k n := rfl
    rw [eb] at ih
    have yes : (M n = true ∧ (bs M W k n = -1 ∨ k n < k (bs M W k n).toNat ∨ (k n = k (bs M W k n).toNat ∧ W (bs M W k n).toNat < W n))) → ∀ ω, Eqx [96, 97] τ ω → wbX12_best_70 (Q2 r) f (II p) (II s) (II x) (II v) (II n) (II (k n)) (LL (W n)) (II ((n : Int) + 1)) ω := by
      intro c ω wE
      have := ih ω wE
      rw [if_pos c, if_neg (by omega), if_neg (by omega), Int.toNat_natCast] at this
      exact this
    have no : ¬ (M n = true ∧ (bs M W k n = -1 ∨ k n < k (bs M W k n).toNat ∨ (k n = k (bs M W k n).toNat ∧ W (bs M W k n).toNat < W n))) → ∀ ω, Eqx [96, 97] τ ω → wbX12_best_70 (Q2 r) f (II p) (II s) (II x) (II v) (II (bs M W k n)) (II (if bs M W k n = -1 then 0 else k (bs M W k n).toNat)) (LL (if bs M W k n = -1 then 0 else W (bs M W k n).toNat)) (II ((n : Int) + 1)) ω := by
      intro c ω wE
      have := ih ω wE
      rw [if_neg c] at this
      exact this
    clear ih
    have uM : RM υ m := fun k => by rw [Eqx_gI uE (by simp)]; exact tA.1 k
    have e1 : gI υ 76 1 = II (m 1) := uM 1
    have e0 : gI υ 76 0 = II (((m 0).toNat : Nat) : Int) := by rw [show (((m 0).toNat : Nat) : Int) = m 0 by omega]; exact uM 0
    have C2 : Cx1 υ G K (m 0).toNat (tas K (m 0).toNat) := by
      obtain ⟨h1, h2, h3, h4, h5, h6⟩ := tC
      exact ⟨Cx0_eq h1 (uE 76 (by simp)).symm (uE 78 (by simp)).symm (uE 83 (by simp)).symm (uE 84 (by simp)).symm, RG_eq h2 (fun q a b => (uE q (by simp; omega)).symm), h3, fun s hs => by rw [Eqx_gI uE (by simp)]; exact h4 s hs, h5, h6⟩
    have L2 : LY υ G K (m 0).toNat (tas K (m 0).toNat) := by
      have uI : ∀ q, 105 ≤ q → q ≤ 112 → υ q = τ q := fun q a b => (uE q (by simp; omega)).symm
      refine ⟨fun n hn => ?_, by rw [Eqx_gI uE (by simp)]; exact tL.2⟩
      obtain ⟨a1, a2, a3, a4, a5, a6, a7⟩ := tL.1 n hn
      refine ⟨by rw [gI_of (uI 108 (by omega) (by omega))]; exact a1, by rw [gI_of (uI 108 (by omega) (by omega))]; exact a2, by rw [gI_of (uI 109 (by omega) (by omega))]; exact a3, by rw [gI_of (uI 110 (by omega) (by omega))]; exact a4, by rw [gI_of (uI 111 (by omega) (by omega))]; exact a5, by rw [gI_of (uI 112 (by omega) (by omega))]; exact a6, fun s hs hne => ?_⟩
      obtain ⟨b1, b2, b3⟩ := a7 s hs hne
      exact ⟨fun p hp => by rw [gI_of (uI 105 (by omega) (by omega))]; exact b1 p hp, fun q hq => by rw [gI_of (uI 106 (by omega) (by omega))]; exact b2 q hq, by rw [gI_of (uI 107 (by omega) (by omega))]; exact b3⟩
    simp (disch := omega) only [wbX12_best_70, I_lit, I_in, true_and, I_cl, Int.reduceToNat, e1, I_le, e0]
    refine ⟨fun q => absurd q (by omega), fun _ => ?_⟩
    refine words_ok C2 L2 hp hs (by omega) (by rw [et]; exact ht) ?_
    intro ρ rE rw'
    have rE2 : Eqx [96, 97] τ ρ := Eqx.trans uE (Eqx.mono rE (by simp))
    have C3 : Cx1 ρ G K (m 0).toNat (tas K (m 0).toNat) := by
      obtain ⟨h1, h2, h3, h4, h5, h6⟩ := C2
      exact ⟨Cx0_eq h1 (rE 76 (by simp)).symm (rE 78 (by simp)).symm (rE 83 (by simp)).symm (rE 84 (by simp)).symm, RG_eq h2 (fun q a b => (rE q (by simp; omega)).symm), h3, fun s hs => by rw [Eqx_gI rE (by simp)]; exact h4 s hs, h5, h6⟩
    have rT : RW ρ (kT K) (K.1 4) := RW_eq tT (fun q a b => (rE2 q (by simp; omega)).symm)
    have f0 : gI ρ 76 0 = II (((m 0).toNat : Nat) : Int) := by rw [Eqx_gI rE (by simp)]; exact e0
    rw [f0]
    refine may_ok (p := p) C3 rT (by rw [Eqx_gI rE (by simp)]; exact L2.2) hs hx (by omega) (by rw [et]; exact ht) (wb n (by omega)) rw' ?_
    intro ω wE
    have wE2 : Eqx [96, 97] τ ω := Eqx.trans rE2 (Eqx.mono wE (by simp))
    rw [et]
    have eMn : my K G (m 0).toNat p s x n (m (7 + s)).toNat = M n := by rw [eM]
    rw [eMn]
    simp only [fe, I_add]
    cases hm : M n with
    | false => exact t0 (no (fun z => by rw [hm] at z; exact absurd z.1 (by decide)) ω wE2)
    | true =>
      refine t1 ?_
      have g7 : gI ω 76 (7 + s) = II (m (7 + s)) := by rw [Eqx_gI wE2 (by simp)]; exact tA.1 (7 + s)
      have j7 : ((7 : Int) + (s : Int)).toNat = 7 + s := by omega
      simp (disch := omega) only [I_in, true_and, I_cl, j7, g7]
      obtain ⟨-, hwo, -⟩ := tT (tas K (m 0).toNat s).toNat (by rw [et, eK1]; omega) ω (RWe_of (fun q a b => (wE2 q (by simp; omega)).symm)) _ (wb n (by omega)) (fun j hj => by rw [Eqx_gL wE (by simp)]; exact rw' j hj)
      rw [show (((tas K (m 0).toNat s).toNat : Nat) : Int) = m (7 + s) by rw [et]; omega] at hwo
      refine hwo _ (fun ρ' hE' => ?_)
      have pE : Eqx [96, 97] τ ρ' := Eqx.trans wE2 (Eqx.mono hE' (by simp))
      have eWn : woT (kT K) (tas K (m 0).toNat s).toNat (wv K G (40 + (m 0).toNat) p s n (tas K (m 0).toNat s).toNat) = W n := by rw [eW, et]; rfl
      rw [eWn]
      have pM : RM ρ' m := fun k => by rw [Eqx_gI pE (by simp)]; exact tA.1 k
      have a1 := wb2 n (by omega)
      have kb2 := kb (bs M W k n).toNat
      have ekn : ky G U (m 0 + 39).toNat p n (m 1).toNat = k n := by rw [ek]
      by_cases c : bs M W k n = -1
      · rw [if_pos c, if_pos c]
        refine rky_ok (U := U) (RG_eq tC.2.1 (fun q a b => (pE q (by simp; omega)).symm)) tC.2.2.1 pM (fun i hi => ?_) h60 w1 hp (by omega) (by omega) (by omega) (by omega) (by omega) (fun z => ?_) (fun z => absurd (Or.inl c) z)
        · rw [Eqx_gL pE (by simp)]
          have := tB.1.2 i hi
          exact ⟨this.1, this.2.1⟩
        · rw [ekn]; exact yes ⟨hm, Or.inl c⟩ ρ' pE
      · have no := fun z => no z ρ' pE
        rw [if_neg c, if_neg c] at no
        rw [if_neg c, if_neg c]
        have a2 := wb2 (bs M W k n).toNat (by omega)
        refine rky_ok (U := U) (RG_eq tC.2.1 (fun q a b => (pE q (by simp; omega)).symm)) tC.2.2.1 pM (fun i hi => ?_) h60 w1 hp (by omega) (by omega) (by omega) (by omega) (by omega) (fun z => ?_) (fun z => ?_)
        · rw [Eqx_gL pE (by simp)]
          have := tB.1.2 i hi
          exact ⟨this.1, this.2.1⟩
        · rw [ekn] at z ⊢; exact yes ⟨hm, z⟩ ρ' pE
        · rw [ekn] at z; exact no (fun y => z y.2)
theorem best_ok {σ : St} (h : Inv σ) (a b c d : Int32) : wpX11_best a b c d σ (fun r τ => wpX12_best a b c d τ (Q2 r)) := by
  obtain ⟨m, mi, U, T, hA, hB⟩ := id h
  obtain ⟨p, p1, p2, rfl⟩ := I_of a
  obtain ⟨s, b1, b2, rfl⟩ := I_of b
  obtain ⟨x, c1, c2, rfl⟩ := I_of c
  obtain ⟨v, d1, d2, rfl⟩ := I_of d
  have hM := hA.1
  have hW := hA.2.2.1
  have w0 := hW.1
  have w1 := hW.2.1
  have w7 := hW.2.2.2.2.2.2.2.1
  have e9 := hB.2.2.1.1
  have e0 : gI σ 76 0 = II (m 0) := hM 0
  have ref0 : ¬ (((0 ≤ p ∧ p ≤ 2) ∧ (0 ≤ s ∧ s ≤ 1) ∧ (0 ≤ x ∧ x ≤ 1)) ∧ (0 ≤ v ∧ v ≤ 1) ∧ m 0 ≠ 0 ∧ m 0 ≠ 61 ∧ m (7 + s.toNat) ≠ -1) → wpX12_best (II p) (II s) (II x) (II v) σ (Q2 (II (-1))) := by
    intro hz
    unfold wpX12_best
    refine isCradle_ok (by omega) (fun q => t1 ?_) (fun q => t0 ⟨rfl, h⟩)
    refine in_ok (b := 0) (c := 1) (by omega) (fun q2 => t1 ?_) (fun q2 => t0 ⟨rfl, h⟩)
    have e7 : gI σ 76 (7 + s.toNat) = II (m (7 + s.toNat)) := hM (7 + s.toNat)
    have j7 : ((7 : Int) + s).toNat = 7 + s.toNat := by omega
    have w7' := w7 s.toNat (by omega)
    have w4 := hW.2.2.2.2.1
    simp (disch := omega) only [I_lit, I_neg, I_add, I_in, true_and, I_cl, Int.reduceToNat, e0, j7, e7, I_eq]
    refine ⟨fun _ => ⟨rfl, h⟩, fun q3 => ⟨fun _ => ⟨rfl, h⟩, fun q4 => ⟨fun q5 => absurd ⟨q, q2, q3, q4, q5⟩ hz, fun _ => ⟨rfl, h⟩⟩⟩⟩
  unfold wpX11_best
  refine isRow_ok (by omega) (fun z => t1 ?_) (fun z => t0 (ref0 (fun q => z q.1)))
  refine wi_ok (b := 0) (c := 1) (by omega) (fun z2 => t1 ?_) (fun z2 => t0 (ref0 (fun q => z2 q.2.1)))
  rw [e9, show (0 : Int32) = II 0 from rfl, I_eq (by omega)]
  refine ⟨fun z3 => ?_, fun z3 => ref0 (fun q => q.2.2.1 z3)⟩
  obtain ⟨P, rfl⟩ : ∃ P : Nat, p = P := ⟨p.toNat, by omega⟩
  obtain ⟨S, rfl⟩ : ∃ S : Nat, s = S := ⟨s.toNat, by omega⟩
  obtain ⟨X, rfl⟩ : ∃ X : Nat, x = X := ⟨x.toNat, by omega⟩
  rw [Int.toNat_natCast] at ref0
  refine weighAll_ok hA hB (by omega) (by omega) (by omega) (fun q => s0 (ref0 (fun y => by omega))) (fun q1 q2 τ tR tv => s1 ?_)
  have tA := SR_A hA tR
  have tB := SR_B hA hB tR
  have tI := SR_I h tR
  have kn1 : kn (KK m U T) = (m 1).toNat := rfl
  have hG : GB (run (KK m U T) (m 0).toNat) := GC_GB (run_GC (K := KK m U T) hW _).1
  have tC := IvCy tA tB (-1) false (-1) (by omega) (by have := hW.2.2.2.2.1; omega)
  have w7' := w7 S (by omega)
  have hws : ∀ n, n < kn (KK m U T) → -2000000000 < wo (KK m U T) (run (KK m U T) (m 0).toNat) (m 0).toNat P S n (m (7 + S)).toNat ∧ wo (KK m U T) (run (KK m U T) (m 0).toNat) (m 0).toNat P S n (m (7 + S)).toNat < 2000000000 := by
    intro n hn
    obtain ⟨-, -, -, -, nr5, -⟩ := tC.1.2.2.1 (m (7 + S)).toNat (by show _ < m 4; omega)
    obtain ⟨_, -, -, en3⟩ := tC.1.2.2.2
    have wb := wv_wb (p := P) (s := S) hG tC.1.2.1 ⟨(en3 n hn).1, (en3 n hn).2.1⟩ (show (m 0).toNat ≤ 60 by omega) nr5
    exact (tC.2.1 (m (7 + S)).toNat (by show _ < m 4; omega) (fun q => if q = 96 then ((τ 96).1, (fun i => LL (wv (KK m U T) (run (KK m U T) (m 0).toNat) (40 + (m 0).toNat) P S n (m (7 + S)).toNat i)), (τ 96).2.2) else τ q) (RWe_of (fun q a b => if_neg (by omega))) _ wb (fun i hi => by unfold gL; simp)).1
  refine cbest_ok (M := fun n => my (KK m U T) (run (KK m U T) (m 0).toNat) (m 0).toNat P S X n (m (7 + S)).toNat) (W := fun n => wo (KK m U T) (run (KK m U T) (m 0).toNat) (m 0).toNat P S n (m (7 + S)).toNat) (k := fun n => ky (run (KK m U T) (m 0).toNat) U (m 0 + 39).toNat P n (m 1).toNat) (N := (m 1).toNat) (by omega) (by rw [show (((m 1).toNat : Nat) : Int) = m 1 by omega]; exact tB.1.1) (fun n hn => (tv n (by omega)).2) (fun n hn => ⟨(tv n (by omega)).1, hws n (by omega)⟩) (fun n hn => ⟨ky_b hG _ _ _ _ _ (by omega), fun post hpost => akinLastYear_ok tB.2.2.2.2.1 tB.2.2.1.1 w0 w1 tB.1 (by omega) (by omega) hpost⟩) z2 ?_
  unfold wpX12_best
  refine isCradle_ok (by omega) (fun _ => t1 ?_) (fun q => absurd z q)
  refine in_ok (b := 0) (c := 1) (by omega) (fun _ => t1 ?_) (fun q => absurd z2 q)
  have e7 : gI τ 76 (7 + S) = II (m (7 + S)) := tA.1 (7 + S)
  have f0 : gI τ 76 0 = II (m 0) := tA.1 0
  have j7 : ((7 : Int) + (S : Int)).toNat = 7 + S := by omega
  have w4 := hW.2.2.2.2.1
  simp (disch := omega) only [I_lit, I_neg, I_add, I_in, true_and, I_cl, Int.reduceToNat, f0, j7, e7, I_eq]
  refine ⟨fun q => absurd q z3, fun _ => ⟨fun q => by omega, fun _ => ⟨fun _ => ?_, fun q => absurd q q1⟩⟩⟩
  exact rbest_ok tI tA tB (by omega) (by omega) (by omega) (by omega) q1 z2 _ rfl _ rfl rfl
