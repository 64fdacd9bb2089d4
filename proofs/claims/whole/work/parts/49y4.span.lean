/-! span -/
def loF (ag : Nat → Bool) (B : Nat → Int) : Nat → Int
  | 0 => -1
  | t + 1 => if ag t = true then (if loF ag B t = -1 then B t else min (loF ag B t) (B t)) else loF ag B t
def hiF (ag : Nat → Bool) (B : Nat → Int) : Nat → Int
  | 0 => -1
  | t + 1 => if ag t = true then max (hiF ag B t) (B t) else hiF ag B t
def anF (ag : Nat → Bool) : Nat → Bool
  | 0 => false
  | t + 1 => anF ag t || ag t
theorem lo_b {ag : Nat → Bool} {B : Nat → Int} {N : Nat} (h : ∀ t, t < N → 0 ≤ B t ∧ B t ≤ 12) : ∀ t, t ≤ N → (-1 ≤ loF ag B t ∧ loF ag B t ≤ 12) ∧ (-1 ≤ hiF ag B t ∧ hiF ag B t ≤ 12) ∧ (anF ag t = false → loF ag B t = -1 ∧ hiF ag B t = -1) ∧ (anF ag t = true → 0 ≤ loF ag B t ∧ 0 ≤ hiF ag B t) := by
  intro t
  induction t with
  | zero => intro _; exact ⟨⟨by show (-1 : Int) ≤ -1; omega, by show (-1 : Int) ≤ 12; omega⟩, ⟨by show (-1 : Int) ≤ -1; omega, by show (-1 : Int) ≤ 12; omega⟩, fun _ => ⟨rfl, rfl⟩, fun z => absurd (show false = true from z) (by decide)⟩
  | succ t ih =>
    intro ht
    obtain ⟨i1, i2, i3, i4⟩ := ih (by omega)
    have b := h t (by omega)
    simp only [loF, hiF, anF]
    cases c : ag t with
    | false =>
      refine ⟨i1, i2, fun z => ?_, fun z => ?_⟩
      · simp at z; simpa using i3 z
      · simp at z; simpa using i4 z
    | true =>
      rw [if_pos rfl, if_pos rfl]
      refine ⟨by split <;> omega, by omega, fun z => by simp at z, fun z => ⟨?_, by omega⟩⟩
      split
      · exact b.1
      · omega
theorem lo_ext {ag : Nat → Bool} {B : Nat → Int} {N : Nat} (h : ∀ t, N ≤ t → ag t = false) : ∀ d, loF ag B (N + d) = loF ag B N ∧ hiF ag B (N + d) = hiF ag B N := by
  intro d
  induction d with
  | zero => exact ⟨rfl, rfl⟩
  | succ d ih =>
    have e1 : loF ag B (N + d + 1) = if ag (N + d) = true then (if loF ag B (N + d) = -1 then B (N + d) else min (loF ag B (N + d)) (B (N + d))) else loF ag B (N + d) := rfl
    have e2 : hiF ag B (N + d + 1) = if ag (N + d) = true then max (hiF ag B (N + d)) (B (N + d)) else hiF ag B (N + d) := rfl
    rw [show N + (d + 1) = N + d + 1 by omega, e1, e2, h (N + d) (by omega)]
    exact ih
theorem bound_ok {σ : St} {m : MT} {U : Nat → Nat} {T : TT} {x y p s n : Nat} {v : Int} {ag : Nat → Bool} {post : Int32 → St → Prop} (hW : WFm m) (hx : x < 64) (hag : ∀ t, x.testBit t = ag t) (hK : ∀ t, t < 6 → ag t = true → KR σ (Gt m U T t) t) (hy : y < 61) (hp3 : p < 3) (hs : s < 2) (hn : n < 16) (hv : -2147483648 ≤ v ∧ v < 2147483648)
    (hp : post (II (if v = 0 then loF ag (fun t => bro (Gt m U T t) (40 + y) p s n) 6 else hiF ag (fun t => bro (Gt m U T t) (40 + y) p s n) 6)) σ) : wpX7_bound (II x) (II y) (II (((p : Int) * 2 + s) * 16 + n)) (II v) σ post := by
  have hG : ∀ t, GC (Gt m U T t) := fun t => (run_GC (K := KB m U T (-1) false t) hW 61).1
  obtain ⟨B, eB⟩ : ∃ B : Nat → Int, B = fun t => bro (Gt m U T t) (40 + y) p s n := ⟨_, rfl⟩
  have bb : ∀ t, 0 ≤ B t ∧ B t ≤ 12 := fun t => by rw [eB]; exact bro_b (hG t) (by omega) _ _ _
  rw [← eB] at hp
  have rd : ∀ (t : Nat) (post : Int32 → St → Prop), t < 6 → ag t = true → post (II (B t)) σ → wpX7_brought (II t) (II y) (II (((p : Int) * 2 + s) * 16 + n)) σ post := fun t post ht ha hq => cbro_ok (hK t ht ha) (hG t) ht hy hp3 hs hn (by rw [eB] at hq; exact hq)
  unfold wpX7_bound
  refine up (P := fun f t => wbX7_bound_6 post f (II x) (II y) (II (((p : Int) * 2 + s) * 16 + n)) (II v) (II (if v = 0 then loF ag B t else hiF ag B t)) (II t) σ) 6 ?_ ?_ 0 (by omega) |> fun key => ?_
  · obtain ⟨f, hf⟩ := key
    rw [show (if v = 0 then loF ag B 0 else hiF ag B 0) = -1 by split <;> rfl] at hf
    exact ⟨f, hf⟩
  · intro f
    simp (disch := omega) only [wbX7_bound_6, I_lit, I_le]
    exact ⟨fun _ => hp, fun z => absurd (by decide) z⟩
  · intro f t ht ih
    obtain ⟨i1, i2, i3, i4⟩ := lo_b (ag := ag) (N := 6) (fun t _ => bb t) t (by omega)
    have b := bb t
    have e1 : loF ag B (t + 1) = if ag t = true then (if loF ag B t = -1 then B t else min (loF ag B t) (B t)) else loF ag B t := rfl
    have e2 : hiF ag B (t + 1) = if ag t = true then max (hiF ag B t) (B t) else hiF ag B t := rfl
    rw [e1, e2] at ih
    simp (disch := omega) only [wbX7_bound_6, I_lit, I_neg, I_le, I_tb1, hag, fe, I_add]
    refine ⟨fun z => absurd z (by omega), fun _ => ⟨fun q => ?_, fun q => rd t _ ht q ?_⟩⟩
    · rw [if_neg q, if_neg q] at ih; exact ih
    · rw [if_pos q, if_pos q] at ih
      generalize loF ag B t = L at *
      generalize hiF ag B t = H at *
      generalize B t = b0 at *
      by_cases c : v = 0
      · rw [if_pos c] at ih ⊢
        rw [I_eq (by omega), I_eq (by omega), I_le (by omega), I_le (by omega)]
        refine ⟨fun q2 => ?_, fun q2 => ⟨fun _ => ⟨fun q3 => ?_, fun q3 => ?_⟩, fun q3 => absurd c q3⟩⟩
        · rw [if_pos q2] at ih; exact ih
        · rw [if_neg q2, show min L b0 = L by omega] at ih; exact ih
        · rw [if_neg q2, show min L b0 = b0 by omega] at ih; exact ih
      · rw [if_neg c] at ih ⊢
        rw [I_eq (by omega), I_eq (by omega), I_le (by omega), I_le (by omega)]
        refine ⟨fun q2 => ?_, fun q2 => ⟨fun q3 => absurd q3 c, fun _ => ⟨fun q3 => ?_, fun q3 => ?_⟩⟩⟩
        · rw [show max H b0 = b0 by omega] at ih; exact ih
        · rw [show max H b0 = H by omega] at ih; exact ih
        · rw [show max H b0 = b0 by omega] at ih; exact ih
theorem agree0_ok {σ : St} {m mi : MT} {U : Nat → Nat} {T : TT} {post : Int32 → St → Prop} (hA : IvA σ m mi U T) (hB : IvB σ m mi U T)
    (hp : ∀ (τ : St) (x : Nat), SQ σ τ → RUs τ m U T → x < 64 → (∀ t : Nat, x.testBit t = (decide ((t : Int) < m 4) && agr m U T t (m 0))) → (∀ t : Nat, t < 6 → (decide ((t : Int) < m 4) && agr m U T t (m 0)) = true → KR τ (Gt m U T t) t) → post (II (x : Nat)) τ) : wpX11_runBy 0 ((gI σ 0 5) - 1) σ (fun σ_4 => wpX7_agreeing 0 ((gI σ_4 0 5) - 1) (gI σ_4 9 0) σ_4 post) := by
  have hW := hA.2.2.1
  have w0 := hW.1
  have w4 := hW.2.2.2.2.1
  rw [hB.2.2.2.1.2, show (1 : Int32) = II 1 from rfl, I_sub]
  refine runBy_ok (a := 0) hA hB (by omega) (by omega) ?_
  intro τ tQ tU tK
  have tA := SQ_A hA tQ
  have tB := SQ_B hA hB tQ tU
  rw [tB.2.2.2.1.2, I_sub, tB.2.2.1.1]
  refine agreeing_ok (a := 0) hW hA.2.2.2.2.2.2.1 tB.2.2.2.2.2.2.1 (by omega) (by omega) w0 tK ?_
  intro x x1 x2
  have e : ∀ t : Nat, decide (0 ≤ t ∧ (t : Int) ≤ m 4 - 1) = decide ((t : Int) < m 4) := fun t => by
    by_cases c : (t : Int) < m 4
    · rw [decide_eq_true c, decide_eq_true ⟨by omega, by omega⟩]
    · rw [decide_eq_false c, decide_eq_false (by omega)]
  refine hp τ x tQ tU x1 (fun t => by rw [x2 t, e]) (fun t ht q => tK t (by omega) ?_)
  rw [Bool.and_eq_true] at q
  have := of_decide_eq_true q.1
  omega
theorem bringOf_ok {σ : St} {m mi : MT} {U : Nat → Nat} {T : TT} {t y p s n : Nat} {post : Int32 → St → Prop} (hA : IvA σ m mi U T) (hB : IvB σ m mi U T) (ht : (t : Int) < m 4) (hy : y < 61) (hp3 : p < 3) (hs : s < 2) (hn : (n : Int) < m 1) (hG : RG σ (run (KB m U T (-1) false t) (y + 1)))
    (hp : post (II (bro (Gt m U T t) (40 + y) p s n)) σ) : wpX12_sumOf (II y) (II p) (II (-1)) (II s) (II n) σ post := by
  have w1 := hA.2.2.1.2.1
  refine rgiven_ok hG hA.1 w1 (by omega) (by omega) (by omega) (by omega) (by omega) ?_
  rw [show ((y : Int) + 40).toNat = 40 + y by omega, toG_bro _ _ _ _ _ _ hp3 hs (by omega), bro_past (by omega) (by omega)]
  exact hp
theorem rspan2_ok {σ : St} {m mi : MT} {U : Nat → Nat} {T : TT} {y p s n : Nat} {v : Int} {r : Int32} (h : Inv σ) (hA : IvA σ m mi U T) (hB : IvB σ m mi U T) (hy : y < 61) (hp3 : p < 3) (hs : s < 2) (hn : (n : Int) < m 1) (hv : -2147483648 ≤ v ∧ v < 2147483648)
    (hr : r = II (if v = 0 then loF (fun (t : Nat) => decide ((t : Int) < m 4) && agr m U T t (m 0)) (fun t => bro (Gt m U T t) (40 + y) p s n) (m 4).toNat else hiF (fun (t : Nat) => decide ((t : Int) < m 4) && agr m U T t (m 0)) (fun t => bro (Gt m U T t) (40 + y) p s n) (m 4).toNat)) :
    ∃ f, wbX12_span_48 (Q2 r) f (II y) (II p) (II s) (II n) (II v) (-1) (-1) 0 σ := by
  have hW := hA.2.2.1
  have w0 := hW.1
  have w4 := hW.2.2.2.2.1
  have hG : ∀ t, GC (Gt m U T t) := fun t => (run_GC (K := KB m U T (-1) false t) hW 61).1
  obtain ⟨B, eB⟩ : ∃ B : Nat → Int, B = fun t => bro (Gt m U T t) (40 + y) p s n := ⟨_, rfl⟩
  obtain ⟨ag, eag⟩ : ∃ ag : Nat → Bool, ag = fun (t : Nat) => decide ((t : Int) < m 4) && agr m U T t (m 0) := ⟨_, rfl⟩
  have bb : ∀ t, 0 ≤ B t ∧ B t ≤ 12 := fun t => by rw [eB]; exact bro_b (hG t) (by omega) _ _ _
  rw [← eB, ← eag] at hr
  have key := up (P := fun f t => ∀ υ, SR σ υ → wbX12_span_48 (Q2 r) f (II y) (II p) (II s) (II n) (II v) (II (loF ag B t)) (II (hiF ag B t)) (II t) υ) (m 4).toNat ?_ ?_ 0 (by omega)
  · obtain ⟨f, hf⟩ := key
    exact ⟨f, hf σ (SR.refl σ)⟩
  · intro f υ uR
    have e4 : gI υ 76 4 = II (m 4) := (SR_A hA uR).1 4
    simp (disch := omega) only [wbX12_span_48, I_lit, I_in, true_and, I_cl, Int.reduceToNat, e4, I_le, I_eq]
    refine ⟨fun _ => ⟨fun q => ?_, fun q => ?_⟩, fun z => absurd (by omega) z⟩
    · rw [if_pos q] at hr; exact ⟨hr, SR_I h uR⟩
    · rw [if_neg q] at hr; exact ⟨hr, SR_I h uR⟩
  · intro f t ht ih υ uR
    have uA := SR_A hA uR
    have uB := SR_B hA hB uR
    have e4 : gI υ 76 4 = II (m 4) := uA.1 4
    have e0 : gI υ 76 0 = II (m 0) := uA.1 0
    obtain ⟨i1, i2, i3, i4⟩ := lo_b (ag := ag) (N := 6) (fun t _ => bb t) t (by omega)
    have b := bb t
    have e1 : loF ag B (t + 1) = if ag t = true then (if loF ag B t = -1 then B t else min (loF ag B t) (B t)) else loF ag B t := rfl
    have e2 : hiF ag B (t + 1) = if ag t = true then max (hiF ag B t) (B t) else hiF ag B t := rfl
    rw [e1, e2] at ih
    have ea : ag t = agr m U T t (m 0) := by rw [eag]; simp only [decide_eq_true (show (t : Int) < m 4 by omega), Bool.true_and]
    simp (disch := omega) only [wbX12_span_48, I_lit, I_neg, I_in, true_and, I_cl, Int.reduceToNat, e4, e0, I_le]
    refine ⟨fun z => absurd z (by omega), fun _ => isLet_ok uA uB (by omega) w0 ?_⟩
    intro τ tR
    rw [← ea]
    simp only [fe, I_add]
    cases c : ag t with
    | false =>
      have ih := ih τ (uR.trans tR)
      rw [c] at ih
      exact ⟨fun _ => ih, fun z => absurd rfl z⟩
    | true =>
      rw [c, if_pos rfl, if_pos rfl] at ih
      refine ⟨fun z => absurd z i10, fun _ => ?_⟩
      have tA := SR_A uA tR
      have tB := SR_B uA uB tR
      refine runs_ok (K := KB m U T (-1) false t) (N := y + 1) (IvCy tA tB (-1) false t (by omega) (by omega)) (by omega) ?_
      intro ρ rE rF rG rn
      have rR := SR_rl rE rF
      have rA := SR_A tA rR
      have rB := SR_B tA tB rR
      refine bringOf_ok rA rB (by omega) hy hp3 hs hn rG ?_
      rw [show bro (Gt m U T t) (40 + y) p s n = B t by rw [eB]]
      have ih := ih ρ (uR.trans (tR.trans rR))
      rw [I_eq (by omega)]
      refine ⟨fun q => lesser_ok (by omega) ?_, fun q => ?_⟩
      · rw [if_neg q] at ih
        unfold wbX12_span_115
        refine greater_ok (by omega) ?_
        simp only [fe, I_lit, I_add]
        exact ih
      · rw [if_pos q] at ih
        unfold wbX12_span_115
        refine greater_ok (by omega) ?_
        simp only [fe, I_lit, I_add]
        exact ih
theorem span_ok {σ : St} (h : Inv σ) (a b c d e : Int32) : wpX11_span a b c d e σ (fun r τ => wpX12_span a b c d e τ (Q2 r)) := by
  obtain ⟨m, mi, U, T, hA, hB⟩ := id h
  obtain ⟨y, y1, y2, rfl⟩ := I_of a
  obtain ⟨p, p1, p2, rfl⟩ := I_of b
  obtain ⟨s, s1', s2', rfl⟩ := I_of c
  obtain ⟨n, n1, n2, rfl⟩ := I_of d
  obtain ⟨v, v1, v2, rfl⟩ := I_of e
  have hW := hA.2.2.1
  have w1 := hW.2.1
  have w4 := hW.2.2.2.2.1
  have ref0 : ¬ ((0 ≤ y ∧ y ≤ 60) ∧ (0 ≤ p ∧ p ≤ 2) ∧ (0 ≤ s ∧ s ≤ 1) ∧ (0 ≤ n ∧ n < m 1)) → wpX12_span (II y) (II p) (II s) (II n) (II v) σ (Q2 (II (-1))) := by
    intro hz
    unfold wpX12_span
    refine in_ok (b := 0) (c := 60) (by omega) (fun q => t1 ?_) (fun q => t0 ⟨rfl, h⟩)
    refine in_ok (b := 0) (c := 2) (by omega) (fun q2 => t1 ?_) (fun q2 => t0 ⟨rfl, h⟩)
    refine in_ok (b := 0) (c := 1) (by omega) (fun q3 => t1 ?_) (fun q3 => t0 ⟨rfl, h⟩)
    exact isName_ok hA.1 w1 (by omega) (fun q4 => absurd ⟨q, q2, q3, q4⟩ hz) (fun q4 => s0 ⟨rfl, h⟩)
  unfold wpX11_span wpX11_isPrintable
  refine wi_ok (b := 0) (c := 60) (by omega) (fun z => t1 ?_) (fun z => t0 (s0 (ref0 (fun q => z q.1))))
  refine isRow_ok (b := 0) (by omega) (fun z2 => t1 ?_) (fun z2 => t0 (s0 (ref0 (fun q => z2 ⟨q.2.1, by omega, q.2.2.1⟩))))
  refine has_ok hB.1.1 w1 (by omega) (fun z3 => t1 (s1 ?_)) (fun z3 => t0 (s0 (ref0 (fun q => z3 q.2.2.2))))
  obtain ⟨Y, rfl⟩ : ∃ Y : Nat, y = Y := ⟨y.toNat, by omega⟩
  obtain ⟨P, rfl⟩ : ∃ P : Nat, p = P := ⟨p.toNat, by omega⟩
  obtain ⟨S, rfl⟩ : ∃ S : Nat, s = S := ⟨s.toNat, by omega⟩
  obtain ⟨N, rfl⟩ : ∃ N : Nat, n = N := ⟨n.toNat, by omega⟩
  refine agree0_ok hA hB ?_
  intro τ x tQ tU x1 x2 tK
  have tA := SQ_A hA tQ
  have tB := SQ_B hA hB tQ tU
  unfold wpX7_spot
  rw [show (2 : Int32) = II 2 from rfl, I_mul, I_add, show (16 : Int32) = II 16 from rfl, I_mul, I_add]
  refine bound_ok hW x1 x2 tK (by omega) (by omega) (by omega) (by omega) (by omega) ?_
  unfold wpX12_span
  refine in_ok (b := 0) (c := 60) (by omega) (fun _ => t1 ?_) (fun q => absurd z q)
  refine in_ok (b := 0) (c := 2) (by omega) (fun _ => t1 ?_) (fun q => absurd z2.1 q)
  refine in_ok (b := 0) (c := 1) (by omega) (fun _ => t1 ?_) (fun q => absurd z2.2.2 q)
  refine isName_ok tA.1 w1 (by omega) (fun _ => s1 ?_) (fun q => absurd z3 q)
  have ex := lo_ext (ag := fun (t : Nat) => decide ((t : Int) < m 4) && agr m U T t (m 0)) (B := fun t => bro (Gt m U T t) (40 + Y) P S N) (N := (m 4).toNat) (fun t ht => by rw [decide_eq_false (by omega)]; rfl) (6 - (m 4).toNat)
  rw [show (m 4).toNat + (6 - (m 4).toNat) = 6 by omega] at ex
  refine rspan2_ok ⟨m, mi, U, T, tA, tB⟩ tA tB (by omega) (by omega) (by omega) (by omega) (by omega) ?_
  rw [ex.1, ex.2]
