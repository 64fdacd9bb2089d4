/-! let: the call -/
theorem SQ_SR {σ τ υ : St} (h : SQ σ τ) (s : SR τ υ) : SQ σ υ := h.trans s.1
noncomputable def agI (m : MT) (U : Nat → Nat) (T : TT) (v Y0 : Int) (t : Nat) : Int := if v = -1 ∨ v = (t : Int) then (if agr m U T t Y0 = true then 1 else 0) else 0
theorem rlet_ok {σ : St} {m mi : MT} {U : Nat → Nat} {T : TT} {v Y0 : Int} {r : Int32} (h : Inv σ) (hA : IvA σ m mi U T) (hB : IvB σ m mi U T) (hv : -2147483648 ≤ v ∧ v < 2147483648) (hY : -2147483648 ≤ Y0 ∧ Y0 < 2147483648)
    (r0 : ¬ ((-1 ≤ v ∧ v < m 4) ∧ (0 ≤ Y0 ∧ Y0 ≤ 61)) → r = II (-1)) (r1 : (-1 ≤ v ∧ v < m 4) → (0 ≤ Y0 ∧ Y0 ≤ 61) → r = II (sm (agI m U T v Y0) (m 4).toNat)) : wpX12_let (II v) (II Y0) σ (Q2 r) := by
  have hW := hA.2.2.1
  have w4 := hW.2.2.2.2.1
  have core : (-1 ≤ v ∧ v < m 4) → wbX12_let_13 (Q2 r) (II v) (II Y0) σ := by
    intro hv2
    unfold wbX12_let_13
    refine in_ok (b := 0) (c := 61) (by omega) (fun z => s1 ?_) (fun z => s0 ⟨r0 (fun q => z q.2), h⟩)
    have hr := r1 hv2 z
    have key := up (P := fun f t => ∀ υ, SR σ υ → wbX12_let_30 (Q2 r) f (II v) (II Y0) (II (sm (agI m U T v Y0) t)) (II t) υ) (m 4).toNat ?_ ?_ 0 (by omega)
    · obtain ⟨f, hf⟩ := key
      exact ⟨f, hf σ (SR.refl σ)⟩
    · intro f υ uR
      have e4 : gI υ 76 4 = II (m 4) := (SR_A hA uR).1 4
      simp (disch := omega) only [wbX12_let_30, I_lit, I_in, true_and, I_cl, Int.reduceToNat, e4, I_le]
      exact ⟨fun _ => ⟨hr, SR_I h uR⟩, fun y => absurd (by omega) y⟩
    · intro f t ht ih υ uR
      have e4 : gI υ 76 4 = II (m 4) := (SR_A hA uR).1 4
      have es : sm (agI m U T v Y0) (t + 1) = sm (agI m U T v Y0) t + agI m U T v Y0 t := rfl
      rw [es] at ih
      have go : (v = -1 ∨ v = (t : Int)) → wbX12_let_53 (wbX12_let_30 (Q2 r) f) (Q2 r) (II v) (II Y0) (II t) (II (sm (agI m U T v Y0) t)) υ := fun c => by
        unfold wbX12_let_53
        refine isLet_ok (SR_A hA uR) (SR_B hA hB uR) (by omega) z ?_
        intro τ tR
        have ih := ih τ (uR.trans tR)
        unfold agI at ih
        rw [if_pos c] at ih
        simp only [fe, I_lit, I_add]
        cases e : agr m U T t Y0 with
        | false => rw [e] at ih; exact ⟨fun _ => ih, fun y => absurd rfl y⟩
        | true => rw [e] at ih; exact ⟨fun y => absurd y i10, fun _ => ih⟩
      simp (disch := omega) only [wbX12_let_30, I_lit, I_neg, I_in, true_and, I_cl, Int.reduceToNat, e4, I_le, I_eq, fe, I_add]
      refine ⟨fun y => absurd y (by omega), fun _ => ⟨fun y => go (Or.inl y), fun y => ⟨fun y2 => ?_, fun y2 => go (Or.inr y2)⟩⟩⟩
      have ih := ih υ uR
      unfold agI at ih
      rw [if_neg (by omega)] at ih
      exact ih
  simp (disch := omega) only [wpX12_let, I_lit, I_neg, I_eq]
  refine ⟨fun q => core (by omega), fun q => isTaste_ok hA.1 w4 (by omega) (fun z => ?_) (fun z => ?_)⟩
  · exact ⟨fun y => absurd y i10, fun _ => core (by omega)⟩
  · exact ⟨fun _ => ⟨r0 (fun y => z (by omega)), h⟩, fun y => absurd rfl y⟩
theorem pc_sm (x : Nat) (f : Nat → Int) : ∀ N, (∀ t, t < N → (if x.testBit t = true then 1 else 0) = f t) → ((pc x N : Nat) : Int) = sm f N := by
  intro N
  induction N with
  | zero => intro _; rfl
  | succ N ih =>
    intro hf
    have e : pc x (N + 1) = pc x N + (if x.testBit N = true then 1 else 0) := rfl
    have e2 : sm f (N + 1) = sm f N + f N := rfl
    rw [e, e2, ← ih (fun t ht => hf t (by omega)), ← hf N (by omega)]
    split <;> simp
theorem pc_ext {x N : Nat} (h : ∀ t, N ≤ t → x.testBit t = false) : ∀ d, pc x (N + d) = pc x N := by
  intro d
  induction d with
  | zero => rfl
  | succ d ih =>
    show pc x (N + d) + (if x.testBit (N + d) = true then 1 else 0) = _
    rw [h (N + d) (by omega), ih]; rfl
theorem let_ok {σ : St} (h : Inv σ) (a b : Int32) : wpX11_let a b σ (fun r τ => wpX12_let a b τ (Q2 r)) := by
  obtain ⟨m, mi, U, T, hA, hB⟩ := id h
  obtain ⟨v, v1, v2, rfl⟩ := I_of a
  obtain ⟨Y0, y1, y2, rfl⟩ := I_of b
  have hW := hA.2.2.1
  have w4 := hW.2.2.2.2.1
  have e5 := hB.2.2.2.1.2
  have ref0 : ¬ ((-1 ≤ v ∧ v < m 4) ∧ (0 ≤ Y0 ∧ Y0 ≤ 61)) → wpX12_let (II v) (II Y0) σ (Q2 (II (-1))) := fun z => rlet_ok h hA hB (by omega) (by omega) (fun _ => rfl) (fun q1 q2 => absurd ⟨q1, q2⟩ z)
  have core : ∀ lo : Nat, ∀ hi : Int, (-1 ≤ v ∧ v < m 4) → (0 ≤ Y0 ∧ Y0 ≤ 61) → lo ≤ 6 → (-1 ≤ hi ∧ hi < m 4) → (∀ t : Nat, (t : Int) < m 4 → ((lo ≤ t ∧ (t : Int) ≤ hi) ↔ (v = -1 ∨ v = (t : Int)))) → wbX11_let_52 (fun r τ => wpX12_let (II v) (II Y0) τ (Q2 r)) (II Y0) (II lo) (II hi) σ := by
    intro lo hi hv hY hlo hhi hiff
    unfold wbX11_let_52
    refine runBy_ok hA hB hlo hhi ?_
    intro τ tQ tU tK
    have tA := SQ_A hA tQ
    have tB := SQ_B hA hB tQ tU
    refine agreeing_ok hW hA.2.2.2.2.2.2.1 tB.2.2.2.2.2.2.1 hlo hhi hY tK ?_
    intro x x1 x2
    refine bitCount_ok (by omega) ?_
    have e16 : pc x 16 = pc x (m 4).toNat := by
      have := pc_ext (x := x) (N := (m 4).toNat) (fun t ht => by rw [x2 t, decide_eq_false (by omega)]; rfl) (16 - (m 4).toNat)
      rw [show (m 4).toNat + (16 - (m 4).toNat) = 16 by omega] at this; exact this
    rw [e16]
    refine rlet_ok ⟨m, mi, U, T, tA, tB⟩ tA tB (by omega) (by omega) (fun q => absurd ⟨hv, hY⟩ q) (fun _ _ => ?_)
    congr 1
    refine pc_sm x _ _ (fun t ht => ?_)
    rw [x2 t]
    unfold agI
    by_cases c : lo ≤ t ∧ (t : Int) ≤ hi
    · rw [decide_eq_true c, if_pos ((hiff t (by omega)).mp c), Bool.true_and]
    · rw [decide_eq_false c, if_neg (fun q => c ((hiff t (by omega)).mpr q)), Bool.false_and]; rfl
  unfold wpX11_let
  simp only [I_lit, I_neg, e5, I_sub]
  refine wi_ok (by omega) (fun z => ?_) (fun z => ?_)
  · refine ⟨fun q => absurd q i10, fun _ => wi_ok (by omega) (fun z2 => ?_) (fun z2 => ?_)⟩
    · refine ⟨fun _ => ?_, fun q => absurd q i10⟩
      simp (disch := omega) only [wbX11_let_36, I_lit, I_neg, I_eq, e5, I_sub]
      refine ⟨fun q => ⟨fun _ => ?_, fun q2 => absurd q2 q⟩, fun q => ⟨fun q2 => absurd q q2, fun _ => ?_⟩⟩
      · have := core v.toNat v (by omega) z2 (by omega) (by omega) (fun t ht => ⟨fun y => by omega, fun y => by omega⟩)
        rw [show ((v.toNat : Nat) : Int) = v by omega] at this
        exact this
      · exact core 0 (m 4 - 1) (by omega) z2 (by omega) (by omega) (fun t ht => ⟨fun y => by omega, fun y => by omega⟩)
    · exact ⟨fun q => absurd rfl q, fun _ => ref0 (fun q => z2 q.2)⟩
  · exact ⟨fun _ => ref0 (fun q => z (by omega)), fun q => absurd rfl q⟩
