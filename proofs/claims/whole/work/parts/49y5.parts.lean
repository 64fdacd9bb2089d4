/-! parts -/
def wV (W : Nat → Int) : Nat → Int
  | 0 => 0
  | s + 1 => if W s ≤ wV W s then wV W s else W s
def wS (W : Nat → Int) : Nat → Int
  | 0 => -1
  | s + 1 => if W s ≤ wV W s then wS W s else (s : Int)
theorem wS_in (W : Nat → Int) : ∀ s, (-1 ≤ wS W s ∧ wS W s < s) ∧ (wS W s ≠ -1 → wV W s = W (wS W s).toNat) := by
  intro s
  induction s with
  | zero => exact ⟨⟨by show (-1 : Int) ≤ -1; omega, by show (-1 : Int) < 0; omega⟩, fun z => absurd rfl z⟩
  | succ s ih =>
    simp only [wS, wV]
    by_cases c : W s ≤ wV W s
    · rw [if_pos c, if_pos c]; exact ⟨by omega, ih.2⟩
    · rw [if_neg c, if_neg c, Int.toNat_natCast]; exact ⟨by omega, fun _ => rfl⟩
theorem wV_in (W : Nat → Int) (h : ∀ s, s < 96 → 0 ≤ W s ∧ W s ≤ 13) : ∀ s, s ≤ 96 → 0 ≤ wV W s ∧ wV W s ≤ 13 := by
  intro s
  induction s with
  | zero => intro _; exact ⟨by show (0 : Int) ≤ 0; omega, by show (0 : Int) ≤ 13; omega⟩
  | succ s ih =>
    intro hs
    have := ih (by omega)
    have := h s (by omega)
    simp only [wV]; split <;> omega
abbrev Bs (m : MT) (U : Nat → Nat) (T : TT) (y s t : Nat) : Int := bro (Gt m U T t) (40 + y) (s / 32) (s / 16 % 2) (s % 16)
def pF (W : Nat → Int) (k : Int) : Int := if wS W 96 = -1 then -1 else if k = 0 then wS W 96 / 32 else if k = 1 then wS W 96 / 16 - wS W 96 / 16 / 2 * 2 else if k = 2 then wS W 96 - wS W 96 / 16 * 16 else wV W 96
theorem lo_le_hi {ag : Nat → Bool} {B : Nat → Int} (h : ∀ t, 0 ≤ B t ∧ B t ≤ 12) : ∀ t, loF ag B t ≤ hiF ag B t := by
  intro t
  induction t with
  | zero => exact Int.le_refl _
  | succ t ih =>
    have := h t
    obtain ⟨i1, i2, i3, i4⟩ := lo_b (ag := ag) (B := B) (N := t) (fun t _ => h t) t (Nat.le_refl _)
    simp only [loF, hiF]
    cases c : ag t with
    | false => exact ih
    | true =>
      rw [if_pos rfl, if_pos rfl]
      split <;> omega
theorem width_ok {σ : St} {m : MT} {U : Nat → Nat} {T : TT} {x y s : Nat} {ag : Nat → Bool} {post : Int32 → St → Prop} (hW : WFm m) (hx : x < 64) (hag : ∀ t, x.testBit t = ag t) (hK : ∀ t, t < 6 → ag t = true → KR σ (Gt m U T t) t) (hy : y < 61) (hs : s < 96)
    (hp : post (II (hiF ag (Bs m U T y s) 6 - loF ag (Bs m U T y s) 6)) σ) : wpX7_width (II x) (II y) (II s) σ post := by
  unfold wpX7_width
  have e : (s : Int) = (((s / 32 : Nat) : Int) * 2 + ((s / 16 % 2 : Nat) : Int)) * 16 + ((s % 16 : Nat) : Int) := by omega
  rw [e, show (1 : Int32) = II 1 from rfl, show (0 : Int32) = II 0 from rfl]
  refine bound_ok hW hx hag hK hy (by omega) (by omega) (by omega) (by omega) ?_
  refine bound_ok hW hx hag hK hy (by omega) (by omega) (by omega) (by omega) ?_
  rw [if_neg (by omega), if_pos rfl, I_sub]
  exact hp
theorem parts_end {σ : St} {W : Nat → Int} {k : Int} {r : Int32} (h : Inv σ) (hk : 0 ≤ k ∧ k ≤ 3) (hW : ∀ s, s < 96 → 0 ≤ W s ∧ W s ≤ 13) (hr : r = II (pF W k)) : wbX12_parts_253 (Q2 r) (II k) (II (wS W 96)) (II (wV W 96)) σ := by
  obtain ⟨a, b⟩ := wS_in W 96
  unfold pF at hr
  simp (disch := omega) only [wbX12_parts_253, I_lit, I_neg, I_eq]
  refine ⟨fun q => ⟨fun q0 => ⟨fun q1 => ⟨fun q2 => ?_, fun q2 => ?_⟩, fun q1 => ?_⟩, fun q0 => ?_⟩, fun q => ?_⟩
  · rw [if_neg q, if_neg q0, if_neg q1, if_neg q2] at hr; exact ⟨hr, h⟩
  · rw [if_neg q, if_neg q0, if_neg q1, if_pos q2] at hr; rw [I_div (by omega), I_mul, I_sub]; exact ⟨hr, h⟩
  · rw [if_neg q, if_neg q0, if_pos q1] at hr; rw [I_div (by omega), I_div (by omega), I_mul, I_sub]; exact ⟨hr, h⟩
  · rw [if_neg q, if_pos q0] at hr; rw [I_div (by omega)]; exact ⟨hr, h⟩
  · rw [if_pos q] at hr; exact ⟨hr, h⟩
theorem rparts_ok {σ : St} {m mi : MT} {U : Nat → Nat} {T : TT} {y : Nat} {k : Int} {r : Int32} (h : Inv σ) (hA : IvA σ m mi U T) (hB : IvB σ m mi U T) (hy : y < 61) (hk : 0 ≤ k ∧ k ≤ 3) (ag : Nat → Bool) (eag : ∀ t : Nat, (t : Int) < m 4 → ag t = agr m U T t (m 0))
    (hr : r = II (pF (fun s => hiF ag (Bs m U T y s) (m 4).toNat - loF ag (Bs m U T y s) (m 4).toNat) k)) :
    ∃ f, wbX12_parts_26 (Q2 r) f (II y) (II k) 0 0 σ := by
  have hW := hA.2.2.1
  have w0 := hW.1
  have w1 := hW.2.1
  have w4 := hW.2.2.2.2.1
  have hG : ∀ t, GC (Gt m U T t) := fun t => (run_GC (K := KB m U T (-1) false t) hW 61).1
  have bb : ∀ s t, 0 ≤ Bs m U T y s t ∧ Bs m U T y s t ≤ 12 := fun s t => bro_b (hG t) (by omega) _ _ _
  have key := up (P := fun f t => ∀ υ, SR σ υ → (anF ag t = true → ∀ s, s < 96 → gI υ 117 s = II (loF ag (Bs m U T y s) t) ∧ gI υ 118 s = II (hiF ag (Bs m U T y s) t)) → wbX12_parts_26 (Q2 r) f (II y) (II k) (II (if anF ag t = true then 1 else 0)) (II t) υ) (m 4).toNat ?_ ?_ 0 (by omega)
  · obtain ⟨f, hf⟩ := key
    exact ⟨f, hf σ (SR.refl σ) (fun z => absurd (show false = true from z) (by decide))⟩
  · intro f υ uR uA'
    have e4 : gI υ 76 4 = II (m 4) := (SR_A hA uR).1 4
    have uI := SR_I h uR
    simp (disch := omega) only [wbX12_parts_26, I_lit, I_neg, I_in, true_and, I_cl, Int.reduceToNat, e4, I_le]
    refine ⟨fun _ => ?_, fun z => absurd (by omega) z⟩
    obtain ⟨W, eW⟩ : ∃ W : Nat → Int, W = fun s => hiF ag (Bs m U T y s) (m 4).toNat - loF ag (Bs m U T y s) (m 4).toNat := ⟨_, rfl⟩
    have lb := fun s => lo_b (ag := ag) (B := Bs m U T y s) (N := (m 4).toNat) (fun t _ => bb s t) (m 4).toNat (Nat.le_refl _)
    have Wb : ∀ s, s < 96 → 0 ≤ W s ∧ W s ≤ 13 := fun s _ => by
      rw [eW]
      have a := lo_le_hi (ag := ag) (B := Bs m U T y s) (fun t => bb s t) (m 4).toNat
      obtain ⟨b1, b2, -, -⟩ := lb s
      show 0 ≤ _ - _ ∧ _ - _ ≤ 13
      omega
    rw [← eW] at hr
    cases c : anF ag (m 4).toNat with
    | false =>
      have W0 : ∀ s, s ≤ 96 → wS W s = -1 ∧ wV W s = 0 := fun s => by
        induction s with
        | zero => intro _; exact ⟨rfl, rfl⟩
        | succ s ih =>
          intro hs
          have i := ih (by omega)
          have e : W s = 0 := by
            rw [eW]
            obtain ⟨-, -, b3, -⟩ := lb s
            have := b3 c
            show hiF ag (Bs m U T y s) (m 4).toNat - loF ag (Bs m U T y s) (m 4).toNat = 0
            omega
          simp only [wS, wV]
          rw [i.2, e, if_pos (by omega), if_pos (by omega)]
          exact ⟨i.1, rfl⟩
      have pe := parts_end (σ := υ) (r := r) (k := k) uI hk Wb hr
      rw [(W0 96 (by omega)).1, (W0 96 (by omega)).2] at pe
      refine ⟨1, ?_⟩
      simp (disch := omega) only [wbX12_parts_195, I_le, I_lit]
      exact ⟨fun z => absurd z (by decide), fun _ => ⟨fun _ => pe, fun z => absurd rfl z⟩⟩
    | true =>
      have uC := uA' c
      refine up (P := fun g s => wbX12_parts_195 (Q2 r) g (II k) (II 1) (II (wS W s)) (II (wV W s)) (II s) υ) 96 ?_ ?_ 0 (by omega)
      · intro g
        simp (disch := omega) only [wbX12_parts_195, I_le, I_lit]
        exact ⟨fun _ => parts_end uI hk Wb hr, fun z => absurd (by decide) z⟩
      · intro g s hs ih
        have ws := wS_in W s
        have wb := Wb s hs
        have wv := wV_in W Wb s (by omega)
        have e1 : wS W (s + 1) = if W s ≤ wV W s then wS W s else (s : Int) := rfl
        have e2 : wV W (s + 1) = if W s ≤ wV W s then wV W s else W s := rfl
        rw [e1, e2] at ih
        have ew : hiF ag (Bs m U T y s) (m 4).toNat - loF ag (Bs m U T y s) (m 4).toNat = W s := by rw [eW]
        simp (disch := omega) only [wbX12_parts_195, I_le, I_lit, I_eq, I_in, true_and, I_cl, Int.toNat_natCast, (uC s hs).1, (uC s hs).2, I_sub, ew, fe, I_add]
        refine ⟨fun z => absurd z (by omega), fun _ => ⟨fun z => absurd z (by omega), fun _ => ⟨fun q => ?_, fun q => ?_⟩⟩⟩
        · rw [if_pos q, if_pos q] at ih; exact ih
        · rw [if_neg q, if_neg q] at ih; exact ih
  · intro f t ht ih υ uR uA'
    have uA := SR_A hA uR
    have uB := SR_B hA hB uR
    have e4 : gI υ 76 4 = II (m 4) := uA.1 4
    have e0 : gI υ 76 0 = II (m 0) := uA.1 0
    have ea := eag t (by omega)
    simp (disch := omega) only [wbX12_parts_26, I_lit, I_neg, I_in, true_and, I_cl, Int.reduceToNat, e4, e0, I_le]
    refine ⟨fun z => absurd z (by omega), fun _ => isLetE_ok uA uB (by omega) w0 ?_⟩
    intro τ tE tF
    have tR := SR_rl tE tF
    rw [← ea]
    simp only [fe, I_add]
    have en : anF ag (t + 1) = (anF ag t || ag t) := rfl
    have el : ∀ s, loF ag (Bs m U T y s) (t + 1) = if ag t = true then (if loF ag (Bs m U T y s) t = -1 then Bs m U T y s t else min (loF ag (Bs m U T y s) t) (Bs m U T y s t)) else loF ag (Bs m U T y s) t := fun s => rfl
    have eh : ∀ s, hiF ag (Bs m U T y s) (t + 1) = if ag t = true then max (hiF ag (Bs m U T y s) t) (Bs m U T y s t) else hiF ag (Bs m U T y s) t := fun s => rfl
    cases c : ag t with
    | false =>
      have ih := ih τ (uR.trans tR)
      rw [en, c, Bool.or_false] at ih
      refine ⟨fun _ => ih (fun z s hs => ?_), fun z => absurd rfl z⟩
      rw [el, eh, c, if_neg (by decide), if_neg (by decide), Eqx_gI tE (by simp [RL]), Eqx_gI tE (by simp [RL])]
      exact uA' z s hs
    | true =>
      refine ⟨fun z => absurd z i10, fun _ => ?_⟩
      have tA := SR_A uA tR
      have tB := SR_B uA uB tR
      refine runs_ok (K := KB m U T (-1) false t) (N := y + 1) (IvCy tA tB (-1) false t (by omega) (by omega)) (by omega) ?_
      intro ρ rE rF rG rn
      have rR := SR_rl rE rF
      have rC : anF ag t = true → ∀ s, s < 96 → gI ρ 117 s = II (loF ag (Bs m U T y s) t) ∧ gI ρ 118 s = II (hiF ag (Bs m U T y s) t) := fun z s hs => by
        rw [Eqx_gI rE (by simp [RL]), Eqx_gI rE (by simp [RL]), Eqx_gI tE (by simp [RL]), Eqx_gI tE (by simp [RL])]
        exact uA' z s hs
      have k2 := up (P := fun g s => ∀ ω, Eqx [117, 118] ρ ω → (∀ s', s' < s → gI ω 117 s' = II (loF ag (Bs m U T y s') (t + 1)) ∧ gI ω 118 s' = II (hiF ag (Bs m U T y s') (t + 1))) → (anF ag t = true → ∀ s', s ≤ s' → s' < 96 → gI ω 117 s' = II (loF ag (Bs m U T y s') t) ∧ gI ω 118 s' = II (hiF ag (Bs m U T y s') t)) → wbX12_parts_66 (wbX12_parts_26 (Q2 r) f) (Q2 r) g (II y) (II k) (II (if anF ag t = true then 1 else 0)) (II t) (II s) ω) 96 ?_ ?_ 0 (by omega)
      · obtain ⟨g, hg⟩ := k2
        exact ⟨g, hg ρ (Eqx.refl _ _) (fun s' hs => absurd hs (by omega)) (fun z s' _ hs => rC z s' hs)⟩
      · intro g ω wE w1' w2'
        have ih := ih ω (uR.trans (tR.trans (rR.trans (SR_x wE (by simp)))))
        rw [en, c, Bool.or_true] at ih
        simp (disch := omega) only [wbX12_parts_66, I_lit, I_le, fe, I_add]
        exact ⟨fun _ => ih (fun _ s hs => w1' s hs), fun z => absurd (by decide) z⟩
      · intro g s hs ih2 ω wE w1' w2'
        have wR := rR.trans (SR_x wE (by simp))
        have wA := SR_A tA wR
        have wB := SR_B tA tB wR
        have wG : RG ω (run (KB m U T (-1) false t) (y + 1)) := RG_eq rG (fun q a b => (wE q (by simp; omega)).symm)
        have e1 : gI ω 76 1 = II (m 1) := wA.1 1
        have b := bb s t
        obtain ⟨l1, l2, l3, l4⟩ := lo_b (ag := ag) (B := Bs m U T y s) (N := t) (fun t _ => bb s t) t (Nat.le_refl _)
        have nx : wbX12_parts_114 (wbX12_parts_66 (wbX12_parts_26 (Q2 r) f) (Q2 r) g) (Q2 r) (II y) (II k) (II (if anF ag t = true then 1 else 0)) (II t) (II s) (II (Bs m U T y s t)) ω := by
          have el := el s
          have eh := eh s
          rw [c, if_pos rfl] at el eh
          have step : ∀ (L H : Int), L = loF ag (Bs m U T y s) (t + 1) → H = hiF ag (Bs m U T y s) (t + 1) → wbX12_parts_66 (wbX12_parts_26 (Q2 r) f) (Q2 r) g (II y) (II k) (II (if anF ag t = true then 1 else 0)) (II t) (II ((s : Int) + 1)) (sI (sI ω 117 s (II L)) 118 s (II H)) := by
            intro L H hL hH
            refine ih2 _ (Eqx_tI (Eqx_tI wE (by simp)) (by simp)) (fun s' hs' => ?_) (fun z s' h1 h2 => ?_)
            · by_cases e : s' = s
              · rw [e, rI2 (by omega), rI1, rI1, hL, hH]; exact ⟨rfl, rfl⟩
              · rw [rI2 (by omega), rI3 e, rI3 e, rI2 (by omega)]; exact w1' s' (by omega)
            · rw [rI2 (by omega), rI3 (by omega), rI3 (by omega), rI2 (by omega)]; exact w2' z s' (by omega) h2
          generalize Bs m U T y s t = b0 at *
          unfold wbX12_parts_114
          cases ca : anF ag t with
          | false =>
            rw [ca] at step
            obtain ⟨x1, x2⟩ := l3 ca
            rw [x1, if_pos rfl] at el
            rw [x2] at eh
            simp (disch := omega) only [wbX12_parts_143, I_lit, I_in, true_and, I_cl, Int.toNat_natCast, fe, I_add]
            exact ⟨fun _ => ⟨fun _ => step b0 b0 el.symm (by omega), fun z => absurd rfl z⟩, fun z => absurd rfl z⟩
          | true =>
            rw [ca] at step
            obtain ⟨x1, x2⟩ := l4 ca
            obtain ⟨y1, y2⟩ := w2' ca s (Nat.le_refl _) hs
            rw [if_neg (by omega)] at el
            simp (disch := omega) only [wbX12_parts_143, I_lit, I_in, true_and, I_cl, Int.toNat_natCast, fe, I_add, y1]
            refine ⟨fun z => absurd z i10, fun _ => lesser_ok (by omega) ?_⟩
            refine ⟨fun z => absurd z i10, fun _ => ?_⟩
            rw [rI2 (by omega), y2]
            refine greater_ok (by omega) ?_
            exact step _ _ el.symm eh.symm
        have d16 : (s : Int) - (s : Int) / 16 * 16 = ((s % 16 : Nat) : Int) := by omega
        have d32 : (s : Int) / 32 = ((s / 32 : Nat) : Int) := by omega
        have d2 : (s : Int) / 16 - (s : Int) / 16 / 2 * 2 = ((s / 16 % 2 : Nat) : Int) := by omega
        simp (disch := omega) only [wbX12_parts_66, I_lit, I_neg, I_in, true_and, I_cl, Int.reduceToNat, e1, I_le, I_div, I_mul, I_sub, d16, d32, d2]
        refine ⟨fun z => absurd z (by omega), fun _ => ⟨fun q => ?_, fun q => ?_⟩⟩
        · have ez : Bs m U T y s t = 0 := by
            have hn : ∀ cc, Gt m U T t (40 + y) cc (s % 16) = 0 := fun cc => GN_run (KB m U T (-1) false t) 61 (40 + y) cc (s % 16) (by rw [kn_KB]; omega)
            show _ + _ = (0 : Int)
            rw [hn, hn]; rfl
          rw [ez] at nx; exact nx
        · exact bringOf_ok wA wB (by omega) hy (by omega) (by omega) (by omega) wG nx
theorem parts_ok {σ : St} (h : Inv σ) (a b : Int32) : wpX11_parts a b σ (fun r τ => wpX12_parts a b τ (Q2 r)) := by
  obtain ⟨m, mi, U, T, hA, hB⟩ := id h
  obtain ⟨y, y1, y2, rfl⟩ := I_of a
  obtain ⟨k, k1, k2, rfl⟩ := I_of b
  have hW := hA.2.2.1
  have w1 := hW.2.1
  have w4 := hW.2.2.2.2.1
  have ref0 : ¬ ((0 ≤ y ∧ y ≤ 60) ∧ (0 ≤ k ∧ k ≤ 3)) → wpX12_parts (II y) (II k) σ (Q2 (II (-1))) := by
    intro hz
    unfold wpX12_parts
    refine in_ok (b := 0) (c := 60) (by omega) (fun q => t1 ?_) (fun q => t0 ⟨rfl, h⟩)
    exact in_ok (b := 0) (c := 3) (by omega) (fun q2 => absurd ⟨q, q2⟩ hz) (fun q2 => s0 ⟨rfl, h⟩)
  unfold wpX11_parts
  refine wi_ok (b := 0) (c := 60) (by omega) (fun z => t1 ?_) (fun z => t0 (ref0 (fun q => z q.1)))
  refine wi_ok (b := 0) (c := 3) (by omega) (fun z2 => s1 ?_) (fun z2 => s0 (ref0 (fun q => z2 q.2)))
  obtain ⟨Y, rfl⟩ : ∃ Y : Nat, y = Y := ⟨y.toNat, by omega⟩
  refine agree0_ok hA hB ?_
  intro τ x tQ tU x1 x2 tK
  have tA := SQ_A hA tQ
  have tB := SQ_B hA hB tQ tU
  have tI : Inv τ := ⟨m, mi, U, T, tA, tB⟩
  obtain ⟨ag, eag⟩ : ∃ ag : Nat → Bool, ag = fun (t : Nat) => decide ((t : Int) < m 4) && agr m U T t (m 0) := ⟨_, rfl⟩
  have x2' : ∀ t, x.testBit t = ag t := fun t => by rw [eag]; exact x2 t
  have tK' : ∀ t, t < 6 → ag t = true → KR τ (Gt m U T t) t := fun t ht q => tK t ht (by rw [eag] at q; exact q)
  have hG : ∀ t, GC (Gt m U T t) := fun t => (run_GC (K := KB m U T (-1) false t) hW 61).1
  have bb : ∀ s t, 0 ≤ Bs m U T Y s t ∧ Bs m U T Y s t ≤ 12 := fun s t => bro_b (hG t) (by omega) _ _ _
  obtain ⟨W, eW⟩ : ∃ W : Nat → Int, W = fun s => hiF ag (Bs m U T Y s) 6 - loF ag (Bs m U T Y s) 6 := ⟨_, rfl⟩
  have ex : ∀ s, hiF ag (Bs m U T Y s) 6 - loF ag (Bs m U T Y s) 6 = hiF ag (Bs m U T Y s) (m 4).toNat - loF ag (Bs m U T Y s) (m 4).toNat := fun s => by
    have := lo_ext (ag := ag) (B := Bs m U T Y s) (N := (m 4).toNat) (fun t ht => by rw [eag]; simp only; rw [decide_eq_false (by omega)]; rfl) (6 - (m 4).toNat)
    rw [show (m 4).toNat + (6 - (m 4).toNat) = 6 by omega] at this
    rw [this.1, this.2]
  have Wb : ∀ s, s < 96 → 0 ≤ W s ∧ W s ≤ 13 := fun s _ => by
    rw [eW]
    have a := lo_le_hi (ag := ag) (B := Bs m U T Y s) (fun t => bb s t) 6
    obtain ⟨b1, b2, -, -⟩ := lo_b (ag := ag) (B := Bs m U T Y s) (N := 6) (fun t _ => bb s t) 6 (Nat.le_refl _)
    show 0 ≤ _ - _ ∧ _ - _ ≤ 13
    omega
  have ref : ∀ r : Int32, r = II (pF W k) → wpX12_parts (II Y) (II k) τ (Q2 r) := by
    intro r hr
    unfold wpX12_parts
    refine in_ok (b := 0) (c := 60) (by omega) (fun _ => t1 ?_) (fun q => absurd z q)
    refine in_ok (b := 0) (c := 3) (by omega) (fun _ => s1 ?_) (fun q => absurd z2 q)
    refine rparts_ok tI tA tB (by omega) z2 ag (fun t ht => by rw [eag]; simp only [decide_eq_true ht, Bool.true_and]) ?_
    rw [hr, eW]
    congr 2
    funext s
    exact ex s
  have wid : ∀ (s : Nat) (post : Int32 → St → Prop), s < 96 → post (II (W s)) τ → wpX7_width (II x) (II Y) (II s) τ post := fun s post hs hq => width_ok hW x1 x2' tK' (by omega) hs (by rw [eW] at hq; exact hq)
  unfold wpX7_widestSpot
  refine up (P := fun g s => wbX7_widestSpot_8 _ g (II x) (II Y) (II (wS W s)) (II (wV W s)) (II s) τ) 96 ?_ ?_ 0 (by omega)
  · intro g
    obtain ⟨a, b⟩ := wS_in W 96
    simp (disch := omega) only [wbX7_widestSpot_8, I_le, I_lit, I_neg, I_eq]
    refine ⟨fun _ => ⟨fun q => ⟨fun q0 => ?_, fun q0 => ⟨fun q1 => ?_, fun q1 => ⟨fun q2 => ?_, fun q2 => ?_⟩⟩⟩, fun q => ?_⟩, fun z => absurd (by decide) z⟩
    · rw [I_div (by omega)]; exact ref _ (by unfold pF; rw [if_neg q, if_pos q0])
    · rw [I_div (by omega), I_div (by omega), I_mul, I_sub]; exact ref _ (by unfold pF; rw [if_neg q, if_neg q0, if_pos q1])
    · rw [I_div (by omega), I_mul, I_sub]; exact ref _ (by unfold pF; rw [if_neg q, if_neg q0, if_neg q1, if_pos q2])
    · rw [show wS W 96 = (((wS W 96).toNat : Nat) : Int) by omega]
      refine wid _ _ (by omega) ?_
      exact ref _ (by unfold pF; rw [if_neg q, if_neg q0, if_neg q1, if_neg q2, b q])
    · exact ref _ (by unfold pF; rw [if_pos q])
  · intro g s hs ih
    have ws := wS_in W s
    have wb := Wb s hs
    have wv := wV_in W Wb s (by omega)
    have e1 : wS W (s + 1) = if W s ≤ wV W s then wS W s else (s : Int) := rfl
    have e2 : wV W (s + 1) = if W s ≤ wV W s then wV W s else W s := rfl
    rw [e1, e2] at ih
    simp (disch := omega) only [wbX7_widestSpot_8, I_le, I_lit]
    refine ⟨fun z => absurd z (by omega), fun _ => wid s _ hs ?_⟩
    rw [I_le (by omega)]
    simp only [fe, I_add]
    refine ⟨fun q => ?_, fun q => ?_⟩
    · rw [if_pos q, if_pos q] at ih; exact ih
    · rw [if_neg q, if_neg q] at ih; exact ih
