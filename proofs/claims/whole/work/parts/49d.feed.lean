/-! feed -/
def bt (v s : Int32) : Int32 := (v.toUInt32 >>> (s.toUInt32 &&& Int32.toUInt32 31)).toInt32 &&& 255
theorem bt_lt (v s : Int32) : (bt v s).toBitVec.toNat < 256 := by
  unfold bt
  have : ((v.toUInt32 >>> (s.toUInt32 &&& Int32.toUInt32 31)).toInt32 &&& 255).toBitVec = (v.toUInt32 >>> (s.toUInt32 &&& Int32.toUInt32 31)).toInt32.toBitVec &&& 255#32 := rfl
  rw [this, BitVec.toNat_and]
  exact Nat.lt_of_le_of_lt Nat.and_le_right (by decide)
theorem bt_II (v s : Int32) : bt v s = II ((bt v s).toBitVec.toNat : Int) := by
  have h := bt_lt v s
  have e := I_self (bt v s)
  have e2 : (bt v s).toInt = ((bt v s).toBitVec.toNat : Int) := BitVec.toInt_eq_toNat_of_lt (by omega)
  rw [e2] at e
  exact e
theorem nar8 (x : Int32) : vp_nar .byte (x.toInt8.toInt32) = x.toInt8.toInt32 := by
  have : vp_nar .byte (x.toInt8.toInt32) = x.toInt8.toInt32.toInt8.toInt32 := rfl
  rw [this]
  simp
theorem bt_low (v s : Int32) (hs : s = 24 ∨ s = 16 ∨ s = 8 ∨ s = 0) : (v >>> (s &&& 31)).toInt8 = (bt v s).toInt8 := by
  refine Int8.toBitVec_inj.mp ?_
  refine BitVec.eq_of_getLsbD_eq (fun i hi => ?_)
  have h255 : ∀ i, i < 8 → (255#32).getLsbD i = true := by decide
  have c1 : (i < 32) = True := eq_true (by omega)
  have c3 : (32 ≤ i) = False := eq_false (by omega)
  have gen : ∀ k : Nat, k ≤ 24 → ((v.toBitVec.sshiftRight k).signExtend 8).getLsbD i = (((v.toBitVec >>> k) &&& 255#32).signExtend 8).getLsbD i := by
    intro k hk
    have c2 : (k + i < 32) = True := eq_true (by omega)
    simp only [BitVec.getLsbD_signExtend, BitVec.getLsbD_sshiftRight, BitVec.getLsbD_and, BitVec.getLsbD_ushiftRight, h255 i hi, c1, c2, c3, if_true, decide_false, Bool.not_false, Bool.true_and, Bool.and_true]
  rcases hs with rfl | rfl | rfl | rfl
  · exact gen 24 (by omega)
  · exact gen 16 (by omega)
  · exact gen 8 (by omega)
  · exact gen 0 (by omega)
theorem bt_ref (v s : Int32) (hs : s = 24 ∨ s = 16 ∨ s = 8 ∨ s = 0) : vp_nar .byte ((v >>> (s &&& 31)).toInt8.toInt32) = (II ((bt v s).toBitVec.toNat : Int)).toInt8.toInt32 := by
  rw [nar8, bt_low v s hs, ← bt_II]
def CT (σ τ : St) (l k : Nat) (w : Nat → Nat) : Prop := Eqx [42, 43] σ τ ∧ gI τ 42 1 = II ((l + k : Nat) : Int) ∧ (∀ q, q ≠ 1 → gI τ 42 q = gI σ 42 q) ∧ (∀ j, j < l → gI τ 43 j = gI σ 43 j) ∧ ∀ i, i < k → gI τ 43 (l + i) = II (w i)
def RT (σ τ : St) (l k : Nat) (w : Nat → Nat) : Prop := Eqx [75, 79] σ τ ∧ gI τ 75 4 = II ((l + k : Nat) : Int) ∧ (∀ q, q ≠ 4 → gI τ 75 q = gI σ 75 q) ∧ (∀ j, j < l → gI τ 79 j = gI σ 79 j) ∧ ∀ i, i < k → gI τ 79 (l + i) = (II (w i)).toInt8.toInt32
theorem CT_step {σ τ : St} {l k : Nat} {w : Nat → Nat} (h : CT σ τ l k w) : CT σ (sI (sI τ 43 (l + k) (II (w k))) 42 1 (II ((l + (k + 1) : Nat) : Int))) l (k + 1) w := by
  obtain ⟨h1, h2, h3, h4, h5⟩ := h
  refine ⟨Eqx_tI (Eqx_tI h1 (by simp)) (by simp), rI1, fun q hq => by rw [rI3 hq, rI2 (by omega)]; exact h3 q hq, fun j hj => by rw [rI2 (by omega), rI3 (by omega)]; exact h4 j hj, fun i hi => ?_⟩
  by_cases c : i = k
  · rw [c, rI2 (by omega), rI1]
  · rw [rI2 (by omega), rI3 (by omega)]; exact h5 i (by omega)
theorem RT_step {σ τ : St} {l k : Nat} {w : Nat → Nat} (h : RT σ τ l k w) : RT σ (sI (sI τ 79 (l + k) ((II (w k)).toInt8.toInt32)) 75 4 (II ((l + (k + 1) : Nat) : Int))) l (k + 1) w := by
  obtain ⟨h1, h2, h3, h4, h5⟩ := h
  refine ⟨Eqx_tI (Eqx_tI h1 (by simp)) (by simp), rI1, fun q hq => by rw [rI3 hq, rI2 (by omega)]; exact h3 q hq, fun j hj => by rw [rI2 (by omega), rI3 (by omega)]; exact h4 j hj, fun i hi => ?_⟩
  by_cases c : i = k
  · rw [c, rI2 (by omega), rI1]
  · rw [rI2 (by omega), rI3 (by omega)]; exact h5 i (by omega)
theorem cput1 {σ τ : St} {l k f : Nat} {w : Nat → Nat} {v : Int32} {s : Int} {post : St → Prop} (h : CT σ τ l k w) (hl : l + k < 300) (hs : 0 ≤ s ∧ s ≤ 24) (hw : w k = (bt v (II s)).toBitVec.toNat) (hp : ∀ υ, CT σ υ l (k + 1) w → wbX8_put_3 post f v (II (s + -8)) υ) : wbX8_put_3 post (f + 1) v (II s) τ := by
  have h2 := h.2.1
  have e : (v.toUInt32 >>> ((II s).toUInt32 &&& Int32.toUInt32 31)).toInt32 &&& 255 = II (w k) := by rw [hw]; exact bt_II v (II s)
  simp only [wbX8_put_3, h2, e]
  simp (disch := omega) only [I_lit, I_neg, I_lt, I_le, I_in, true_and, I_cl, Int.toNat_natCast, fe, I_add]
  refine ⟨fun q => absurd q (by omega), fun _ => ⟨fun q => absurd q (by omega), fun _ => ?_⟩⟩
  rw [rI2 (by omega), h2, I_add, show ((l + k : Nat) : Int) + 1 = ((l + (k + 1) : Nat) : Int) by omega]
  exact hp _ (CT_step h)
theorem rput1 {σ τ : St} {l k f : Nat} {w : Nat → Nat} {v : Int32} {s : Int} {post : St → Prop} (h : RT σ τ l k w) (hl : l + k < 300) (hs : s = 24 ∨ s = 16 ∨ s = 8 ∨ s = 0) (hw : w k = (bt v (II s)).toBitVec.toNat) (hp : ∀ υ, RT σ υ l (k + 1) w → wbX12_put_3 post f v (II (s - 8)) υ) : wbX12_put_3 post (f + 1) v (II s) τ := by
  have h2 := h.2.1
  have e : vp_nar .byte ((v >>> (II s &&& 31)).toInt8.toInt32) = (II (w k)).toInt8.toInt32 := by
    rw [hw]
    refine bt_ref v (II s) ?_
    rcases hs with rfl | rfl | rfl | rfl
    · exact Or.inl rfl
    · exact Or.inr (Or.inl rfl)
    · exact Or.inr (Or.inr (Or.inl rfl))
    · exact Or.inr (Or.inr (Or.inr rfl))
  simp only [wbX12_put_3, h2, e]
  simp (disch := omega) only [I_lit, I_neg, I_lt, I_le, I_in, true_and, I_cl, Int.toNat_natCast, fe, I_add, I_sub]
  refine ⟨fun q => absurd q (by omega), fun _ => ?_⟩
  rw [rI2 (by omega), h2, I_add, show ((l + k : Nat) : Int) + 1 = ((l + (k + 1) : Nat) : Int) by omega]
  exact hp _ (RT_step h)
theorem cput_ok {σ τ : St} {l k : Nat} {w : Nat → Nat} {v : Int32} {post : St → Prop} (h : CT σ τ l k w) (hl : l + k + 4 ≤ 300) (hw : ∀ i, i < 4 → w (k + i) = (bt v (II (24 - 8 * (i : Int)))).toBitVec.toNat) (hp : ∀ υ, CT σ υ l (k + 4) w → post υ) : wpX8_put v τ post := by
  unfold wpX8_put
  refine ⟨5, ?_⟩
  refine cput1 (s := 24) h (by omega) (by omega) (hw 0 (by omega)) (fun υ u => ?_)
  refine cput1 (s := 16) u (by omega) (by omega) (hw 1 (by omega)) (fun υ u => ?_)
  refine cput1 (s := 8) u (by omega) (by omega) (hw 2 (by omega)) (fun υ u => ?_)
  refine cput1 (s := 0) u (by omega) (by omega) (hw 3 (by omega)) (fun υ u => ?_)
  simp (disch := omega) only [wbX8_put_3, I_lit, I_lt]
  exact ⟨fun _ => hp υ u, fun q => absurd (by omega) q⟩
theorem rput_ok {σ τ : St} {l k : Nat} {w : Nat → Nat} {v : Int32} {post : St → Prop} (h : RT σ τ l k w) (hl : l + k + 4 ≤ 300) (hw : ∀ i, i < 4 → w (k + i) = (bt v (II (24 - 8 * (i : Int)))).toBitVec.toNat) (hp : ∀ υ, RT σ υ l (k + 4) w → post υ) : wpX12_put v τ post := by
  unfold wpX12_put
  refine ⟨5, ?_⟩
  refine rput1 (s := 24) h (by omega) (by omega) (hw 0 (by omega)) (fun υ u => ?_)
  refine rput1 (s := 16) u (by omega) (by omega) (hw 1 (by omega)) (fun υ u => ?_)
  refine rput1 (s := 8) u (by omega) (by omega) (hw 2 (by omega)) (fun υ u => ?_)
  refine rput1 (s := 0) u (by omega) (by omega) (hw 3 (by omega)) (fun υ u => ?_)
  simp (disch := omega) only [wbX12_put_3, I_lit, I_lt]
  exact ⟨fun _ => hp υ u, fun q => absurd (by omega) q⟩
theorem Inv_tape {σ τ : St} {m mi : MT} {U : Nat → Nat} {T : TT} (hA : IvA σ m mi U T) (hB : IvB σ m mi U T) (e : ∀ q, q ≠ 42 → q ≠ 43 → q ≠ 75 → q ≠ 79 → τ q = σ q) (hT : TPs τ) : Inv τ := by
  refine ⟨m, mi, U, T, ?_, ?_⟩
  · refine ⟨fun k => by rw [gI_of (e 76 (by omega) (by omega) (by omega) (by omega))]; exact hA.1 k, fun k => by rw [gI_of (e 77 (by omega) (by omega) (by omega) (by omega))]; exact hA.2.1 k, hA.2.2⟩
  · obtain ⟨b1, b2, b3, b4, b5, b6, b7, b8, b9, b10, b11⟩ := hB
    have e' : ∀ q, (q < 42 ∨ 43 < q ∧ q < 75 ∨ 75 < q ∧ q < 79 ∨ 79 < q) → τ q = σ q := fun q hq => e q (by omega) (by omega) (by omega) (by omega)
    refine ⟨NMs_c b1 (fun q p1 p2 => e' q (by omega)) (e' 78 (by omega)) rfl (fun _ _ => ⟨rfl, rfl⟩), ⟨NP_c b2.1 (e' 83 (by omega)) (e' 84 (by omega)), RW_eq b2.2 (fun q p1 p2 => e' q (by omega))⟩, CL_eq b3 (fun q hq => e' q ?_), ⟨CW_eq hA.2.2.1.2.2.2.2.1.2 b4.1 (fun q p1 p2 => e' q (by omega)), by rw [gI_of (e' 0 (by omega))]; exact b4.2⟩, Bk_eq b5 (fun q p1 p2 => e' q (by omega)), fun y hy => by rw [gI_of (e' 15 (by omega))]; exact b6 y hy, PRs_c b7 (fun q p1 p2 => e' q (by omega)) (by rw [gI_of (e' 64 (by omega))]) rfl (fun _ _ _ _ => rfl), RUs_c b8 (by rw [gI_of (e' 64 (by omega))]) (e' 69 (by omega)), by rw [gI_of (e' 47 (by omega)), gI_of (e' 47 (by omega))]; exact b9, hT, IMs_c b11 (fun q p1 p2 => e' q (by omega))⟩
    simp only [CE, List.mem_cons, List.not_mem_nil, or_false] at hq; omega
theorem feed_ok {σ : St} (h : Inv σ) (a b c d e : Int32) : wpX11_feed a b c d e σ (fun r τ => wpX12_feed a b c d e τ (Q2 r)) := by
  obtain ⟨m, mi, U, T, hA, hB⟩ := id h
  obtain ⟨l, l3, h1, h2, h3, h5, h6⟩ := id hB.2.2.2.2.2.2.2.2.2.1
  obtain ⟨w, w0, w1, w2, w3, w4⟩ : ∃ w : Nat → Nat, (∀ i, i < 4 → w (0 + i) = (bt a (II (24 - 8 * (i : Int)))).toBitVec.toNat) ∧ (∀ i, i < 4 → w (0 + 4 + i) = (bt b (II (24 - 8 * (i : Int)))).toBitVec.toNat) ∧ (∀ i, i < 4 → w (0 + 4 + 4 + i) = (bt c (II (24 - 8 * (i : Int)))).toBitVec.toNat) ∧ (∀ i, i < 4 → w (0 + 4 + 4 + 4 + i) = (bt d (II (24 - 8 * (i : Int)))).toBitVec.toNat) ∧ (∀ i, i < 4 → w (0 + 4 + 4 + 4 + 4 + i) = (bt e (II (24 - 8 * (i : Int)))).toBitVec.toNat) := by
    refine ⟨fun j => (bt (if j < 4 then a else if j < 8 then b else if j < 12 then c else if j < 16 then d else e) (II (24 - 8 * ((j % 4 : Nat) : Int)))).toBitVec.toNat, fun i hi => ?_, fun i hi => ?_, fun i hi => ?_, fun i hi => ?_, fun i hi => ?_⟩
    · show (bt _ _).toBitVec.toNat = _
      rw [if_pos (by omega), show (0 + i) % 4 = i by omega]
    · show (bt _ _).toBitVec.toNat = _
      rw [if_neg (by omega), if_pos (by omega), show (0 + 4 + i) % 4 = i by omega]
    · show (bt _ _).toBitVec.toNat = _
      rw [if_neg (by omega), if_neg (by omega), if_pos (by omega), show (0 + 4 + 4 + i) % 4 = i by omega]
    · show (bt _ _).toBitVec.toNat = _
      rw [if_neg (by omega), if_neg (by omega), if_neg (by omega), if_pos (by omega), show (0 + 4 + 4 + 4 + i) % 4 = i by omega]
    · show (bt _ _).toBitVec.toNat = _
      rw [if_neg (by omega), if_neg (by omega), if_neg (by omega), if_neg (by omega), show (0 + 4 + 4 + 4 + 4 + i) % 4 = i by omega]
  have wb : ∀ i, i < 20 → w i < 256 := by
    intro i hi
    by_cases c1 : i < 4
    · have := w0 i c1; rw [show 0 + i = i by omega] at this; rw [this]; exact bt_lt _ _
    by_cases c2 : i < 8
    · have := w1 (i - 4) (by omega); rw [show 0 + 4 + (i - 4) = i by omega] at this; rw [this]; exact bt_lt _ _
    by_cases c3 : i < 12
    · have := w2 (i - 8) (by omega); rw [show 0 + 4 + 4 + (i - 8) = i by omega] at this; rw [this]; exact bt_lt _ _
    by_cases c4 : i < 16
    · have := w3 (i - 12) (by omega); rw [show 0 + 4 + 4 + 4 + (i - 12) = i by omega] at this; rw [this]; exact bt_lt _ _
    · have := w4 (i - 16) (by omega); rw [show 0 + 4 + 4 + 4 + 4 + (i - 16) = i by omega] at this; rw [this]; exact bt_lt _ _
  unfold wpX11_feed wpX8_hasRoom
  simp (disch := omega) only [h1, I_lit, I_add, I_lt]
  refine ⟨fun q => ?_, fun q => ?_⟩
  · refine ⟨fun z => absurd trivial z, fun _ => ?_⟩
    show wpX12_feed a b c d e σ (Q2 (-1))
    unfold wpX12_feed
    simp (disch := omega) only [h2, I_lit, I_add, I_le]
    exact ⟨fun z => by omega, fun _ => ⟨rfl, h⟩⟩
  · refine ⟨fun _ => ?_, fun z => absurd z (by decide)⟩
    have c0 : CT σ σ l 0 w := ⟨fun _ _ => rfl, h1, fun _ _ => rfl, fun _ _ => rfl, fun i hi => absurd hi (by omega)⟩
    refine cput_ok c0 (by omega) w0 (fun _ c1 => ?_)
    refine cput_ok c1 (by omega) w1 (fun _ c2 => ?_)
    refine cput_ok c2 (by omega) w2 (fun _ c3 => ?_)
    refine cput_ok c3 (by omega) w3 (fun _ c4 => ?_)
    refine cput_ok c4 (by omega) w4 (fun τ c5 => ?_)
    obtain ⟨x1, x2, x3, x4, x5⟩ := c5
    have t2 : gI τ 75 4 = II l := by rw [Eqx_gI x1 (by simp)]; exact h2
    rw [x2]
    show wpX12_feed a b c d e τ (Q2 (II ((l + 20 : Nat) : Int)))
    unfold wpX12_feed
    simp (disch := omega) only [t2, I_lit, I_add, I_le]
    refine ⟨fun _ => ?_, fun z => by omega⟩
    have r0 : RT τ τ l 0 w := ⟨fun _ _ => rfl, t2, fun _ _ => rfl, fun _ _ => rfl, fun i hi => absurd hi (by omega)⟩
    refine rput_ok r0 (by omega) w0 (fun _ r1 => ?_)
    refine rput_ok r1 (by omega) w1 (fun _ r2 => ?_)
    refine rput_ok r2 (by omega) w2 (fun _ r3 => ?_)
    refine rput_ok r3 (by omega) w3 (fun _ r4 => ?_)
    refine rput_ok r4 (by omega) w4 (fun υ r5 => ?_)
    obtain ⟨y1, y2, y3, y4, y5⟩ := r5
    refine ⟨by rw [y2], Inv_tape hA hB ?_ ?_⟩
    · intro q p1 p2 p3 p4
      rw [← y1 q (by simp; omega), ← x1 q (by simp; omega)]
    · refine ⟨l + 20, by omega, ?_, y2, fun j hj => ?_, ?_, ?_⟩
      · rw [Eqx_gI y1 (by simp)]; exact x2
      · by_cases cj : j < l
        · obtain ⟨b, q1, q2, q3⟩ := h3 j cj
          refine ⟨b, q1, ?_, ?_⟩
          · rw [Eqx_gI y1 (by simp), x4 j cj]; exact q2
          · rw [y4 j cj, Eqx_gI x1 (by simp)]; exact q3
        · refine ⟨w (j - l), wb _ (by omega), ?_, ?_⟩
          · have := x5 (j - l) (by omega)
            rw [show l + (j - l) = j by omega] at this
            rw [Eqx_gI y1 (by simp)]; exact this
          · have := y5 (j - l) (by omega)
            rw [show l + (j - l) = j by omega] at this
            exact this
      · rw [Eqx_gI y1 (by simp), x3 2 (by omega), y3 5 (by omega), Eqx_gI x1 (by simp)]; exact h5
      · rw [Eqx_gI y1 (by simp), x3 3 (by omega), y3 6 (by omega), Eqx_gI x1 (by simp)]; exact h6
