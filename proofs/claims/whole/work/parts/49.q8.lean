theorem rshapes_in {τ : St} {G : GV} {m : MT} {k s c : Int} {i : Nat} {K : Int32 → Int32 → Int32 → St → Prop} {post : Int32 → St → Prop} (hR : RG τ G) (hG : GB G) (hm : RM τ m) (hM : 0 ≤ m 0 ∧ m 0 ≤ 61) (hi : i < 16) (hs : k = 0 ∧ s = 1 ∨ k = 1 ∧ s = -1)
    (hk : K (II k) (II (c + sm (Fp (pP G (m 0)) (pA G (m 0) (-1)) (pA G (m 0) 1) s i) i)) (II ((i : Int) + 1)) τ) : ∃ f, wbX12_shapes_32 K post f (II k) (II c) (II i) 0 τ := by
  have key := up (P := fun f j => wbX12_shapes_32 K post f (II k) (II (c + sm (Fp (pP G (m 0)) (pA G (m 0) (-1)) (pA G (m 0) 1) s i) j)) (II i) (II j) τ) i ?_ ?_ 0 (by omega)
  · obtain ⟨f, hf⟩ := key
    rw [show sm (Fp (pP G (m 0)) (pA G (m 0) (-1)) (pA G (m 0) 1) s i) 0 = 0 from rfl, Int.add_zero] at hf
    exact ⟨f, hf⟩
  · intro f
    unfold wbX12_shapes_32
    simp (disch := omega) only [I_lit, I_le, fe, I_add]
    exact ⟨fun _ => hk, fun q => absurd (by omega) q⟩
  · intro f j hj ih
    have es : sm (Fp (pP G (m 0)) (pA G (m 0) (-1)) (pA G (m 0) 1) s i) (j + 1) = sm (Fp (pP G (m 0)) (pA G (m 0) (-1)) (pA G (m 0) 1) s i) j + Fp (pP G (m 0)) (pA G (m 0) (-1)) (pA G (m 0) 1) s i j := rfl
    rw [es, ← Int.add_assoc] at ih
    have pi := pe_in (fy G i) (m 0).toNat
    have pj := pe_in (fy G j) (m 0).toNat
    have ei : pe (fy G i) (m 0).toNat = pP G (m 0) i := rfl
    have ej : pe (fy G j) (m 0).toNat = pP G (m 0) j := rfl
    rw [ei] at pi
    rw [ej] at pj
    unfold wbX12_shapes_32
    simp (disch := omega) only [I_lit, I_neg, I_le]
    refine ⟨fun q => absurd q (by omega), fun _ => peak_ok hR hG (by omega) hm hM ?_⟩
    refine peak_ok hR hG (by omega) hm hM ?_
    rw [ei, ej]
    simp (disch := omega) only [I_eq, fe, I_add]
    refine ⟨fun q => ?_, fun q => ⟨fun q2 => ?_, fun q2 => ?_⟩⟩
    · rw [show Fp (pP G (m 0)) (pA G (m 0) (-1)) (pA G (m 0) 1) s i j = 0 from if_neg (fun z => z.1 q), Int.add_zero] at ih
      exact ih
    · rw [show Fp (pP G (m 0)) (pA G (m 0) (-1)) (pA G (m 0) 1) s i j = 0 from if_neg (fun z => z.2.1 q2), Int.add_zero] at ih
      exact ih
    · have hAi := pA_in G (m 0) (-1) i
      have hAj := pA_in G (m 0) (-1) j
      have hBi := pA_in G (m 0) 1 i
      have hBj := pA_in G (m 0) 1 j
      have aA : pA G (m 0) (-1) i = sl (fy G i) (m 0) (fy G i (pP G (m 0) i)) (-1) 62 (pP G (m 0) i + -1) 0 := if_neg q
      have aB : pA G (m 0) (-1) j = sl (fy G j) (m 0) (fy G j (pP G (m 0) j)) (-1) 62 (pP G (m 0) j + -1) 0 := if_neg q2
      have bA : pA G (m 0) 1 i = sl (fy G i) (m 0) (fy G i (pP G (m 0) i)) 1 62 (pP G (m 0) i + 1) 0 := if_neg q
      have bB : pA G (m 0) 1 j = sl (fy G j) (m 0) (fy G j (pP G (m 0) j)) 1 62 (pP G (m 0) j + 1) 0 := if_neg q2
      refine slope_ok hR hG (by omega) hm hM (by omega) (Or.inr rfl) ?_
      refine slope_ok hR hG (by omega) hm hM (by omega) (Or.inr rfl) ?_
      refine slope_ok hR hG (by omega) hm hM (by omega) (Or.inl rfl) ?_
      refine slope_ok hR hG (by omega) hm hM (by omega) (Or.inl rfl) ?_
      rw [← aA, ← aB, ← bA, ← bB]
      have s1 := sg_same (pA G (m 0) (-1) i) (pA G (m 0) (-1) j) (pA G (m 0) 1 i) (pA G (m 0) 1 j)
      have s2 := sg_opp (pA G (m 0) (-1) i) (pA G (m 0) (-1) j) (pA G (m 0) 1 i) (pA G (m 0) 1 j)
      simp only [I_sub]
      generalize eu : pA G (m 0) (-1) i - pA G (m 0) (-1) j = u at s1 s2 ⊢
      generalize ev : pA G (m 0) 1 i - pA G (m 0) 1 j = v at s1 s2 ⊢
      have bu : -100 ≤ u ∧ u ≤ 100 := by omega
      have bv : -100 ≤ v ∧ v ≤ 100 := by omega
      have ih1 : (k = 0 ∧ ((0 < u ∧ 0 < v) ∨ (u < 0 ∧ v < 0)) ∨ k = 1 ∧ ((0 < u ∧ v < 0) ∨ (u < 0 ∧ 0 < v))) → wbX12_shapes_32 K post f (II k) (II (c + sm (Fp (pP G (m 0)) (pA G (m 0) (-1)) (pA G (m 0) 1) s i) j + 1)) (II i) (II ((j : Int) + 1)) τ := by
        intro hc
        rw [show Fp (pP G (m 0)) (pA G (m 0) (-1)) (pA G (m 0) 1) s i j = 1 from if_pos ⟨q, q2, ?_⟩] at ih
        · exact ih
        · rcases hs with ⟨h1, h2⟩ | ⟨h1, h2⟩
          · rw [h2]; exact s1.mpr (by omega)
          · rw [h2]; exact s2.mpr (by omega)
      have ih0 : ¬ (k = 0 ∧ ((0 < u ∧ 0 < v) ∨ (u < 0 ∧ v < 0)) ∨ k = 1 ∧ ((0 < u ∧ v < 0) ∨ (u < 0 ∧ 0 < v))) → wbX12_shapes_32 K post f (II k) (II (c + sm (Fp (pP G (m 0)) (pA G (m 0) (-1)) (pA G (m 0) 1) s i) j + 0)) (II i) (II ((j : Int) + 1)) τ := by
        intro hc
        rw [show Fp (pP G (m 0)) (pA G (m 0) (-1)) (pA G (m 0) 1) s i j = 0 from if_neg ?_] at ih
        · exact ih
        · intro z
          rcases hs with ⟨h1, h2⟩ | ⟨h1, h2⟩
          · rw [h2] at z; have := s1.mp z.2.2; omega
          · rw [h2] at z; have := s2.mp z.2.2; omega
      clear ih s1 s2 aA aB bA bB hAi hAj hBi hBj eu ev es
      have z157 : ∀ x9 x0 : Int, (x9 = 0 ∨ x9 = 1) → (x0 = 0 ∨ x0 = 1) → (x9 = 1 ↔ ((0 < u ∧ 0 < v) ∨ (u < 0 ∧ v < 0))) → (x0 = 1 ↔ ((0 < u ∧ v < 0) ∨ (u < 0 ∧ 0 < v))) → wbX12_shapes_157 (wbX12_shapes_32 K post f) post (II k) (II (c + sm (Fp (pP G (m 0)) (pA G (m 0) (-1)) (pA G (m 0) 1) s i) j)) (II i) (II j) (II x9) (II x0) τ := by
        intro x9 x0 b9 b0 h9 h0
        unfold wbX12_shapes_157
        simp (disch := omega) only [I_lit, I_eq, fe, I_add]
        refine ⟨fun a1 => ⟨fun a2 => ih0 (by omega), fun a2 => ih1 (by omega)⟩, fun a1 => ⟨fun a2 => ih0 (by omega), fun a2 => ih1 (by omega)⟩⟩
      have z130 : ∀ x9 : Int, (x9 = 0 ∨ x9 = 1) → (x9 = 1 ↔ ((0 < u ∧ 0 < v) ∨ (u < 0 ∧ v < 0))) → wbX12_shapes_130 (wbX12_shapes_32 K post f) post (II k) (II (c + sm (Fp (pP G (m 0)) (pA G (m 0) (-1)) (pA G (m 0) 1) s i) j)) (II i) (II j) (II u) (II v) (II x9) τ := by
        intro x9 b9 h9
        unfold wbX12_shapes_130 wbX12_shapes_142
        simp (disch := omega) only [I_lit, I_le, I_lt]
        refine ⟨fun a1 => ⟨fun a2 => z157 x9 0 b9 (by omega) h9 (by omega), fun a2 => ⟨fun a3 => z157 x9 0 b9 (by omega) h9 (by omega), fun a3 => z157 x9 1 b9 (by omega) h9 (by omega)⟩⟩, fun a1 => ⟨fun a2 => z157 x9 1 b9 (by omega) h9 (by omega), fun a2 => ⟨fun a3 => z157 x9 0 b9 (by omega) h9 (by omega), fun a3 => ⟨fun a4 => z157 x9 0 b9 (by omega) h9 (by omega), fun a4 => z157 x9 1 b9 (by omega) h9 (by omega)⟩⟩⟩⟩
      unfold wbX12_shapes_115
      simp (disch := omega) only [I_lit, I_le, I_lt]
      refine ⟨fun a1 => ⟨fun a2 => z130 0 (by omega) (by omega), fun a2 => ⟨fun a3 => z130 0 (by omega) (by omega), fun a3 => z130 1 (by omega) (by omega)⟩⟩, fun a1 => ⟨fun a2 => z130 1 (by omega) (by omega), fun a2 => ⟨fun a3 => z130 0 (by omega) (by omega), fun a3 => ⟨fun a4 => z130 0 (by omega) (by omega), fun a4 => z130 1 (by omega) (by omega)⟩⟩⟩⟩
def pT (P A B : Nat → Int) (s : Int) (i : Nat) : Int := sm (fun j => sm (Fp P A B s j) j) i
theorem rshapes_ok {σ : St} {m mi : MT} {U : Nat → Nat} {T : TT} {k s : Int} (h : Inv σ) (hA : IvA σ m mi U T) (hB : IvB σ m mi U T) (hs : k = 0 ∧ s = 1 ∨ k = 1 ∧ s = -1) (G : GV) (eG : G = run (KK m U T) (m 0).toNat) :
    wpX12_shapes (II k) σ (Q2 (II (pT (pP G (m 0)) (pA G (m 0) (-1)) (pA G (m 0) 1) s (m 1).toNat))) := by
  have hW := hA.2.2.1
  have w0 := hW.1
  have w1 := hW.2.1
  have hG : GB (run (KK m U T) (m 0).toNat) := GC_GB (run_GC (K := KK m U T) hW _).1
  rw [← eG] at hG
  unfold wpX12_shapes
  refine in_ok (b := 0) (c := 1) (by omega) (fun _ => s1 ?_) (fun q => absurd (by omega) q)
  refine runsAll_ok hA hB ?_
  intro τ tR tG tn
  have tA := SR_A hA tR
  have tI := SR_I h tR
  have e1 : gI τ 76 1 = II (m 1) := tA.1 1
  rw [← eG] at tG
  refine up (P := fun f i => wbX12_shapes_19 (Q2 (II (pT (pP G (m 0)) (pA G (m 0) (-1)) (pA G (m 0) 1) s (m 1).toNat))) f (II k) (II (pT (pP G (m 0)) (pA G (m 0) (-1)) (pA G (m 0) 1) s i)) (II i) τ) (m 1).toNat ?_ ?_ 0 (by omega)
  · intro f
    simp (disch := omega) only [wbX12_shapes_19, I_lit, I_in, true_and, I_cl, Int.reduceToNat, e1, I_le]
    exact ⟨fun _ => ⟨rfl, tI⟩, fun q => absurd (by omega) q⟩
  · intro f i hi ih
    simp (disch := omega) only [wbX12_shapes_19, I_lit, I_in, true_and, I_cl, Int.reduceToNat, e1, I_le]
    exact ⟨fun q => absurd q (by omega), fun _ => rshapes_in tG hG tA.1 w0 (by omega) hs ih⟩
theorem shapes_ok {σ : St} (h : Inv σ) (a : Int32) : wpX11_shapes a σ (fun r τ => wpX12_shapes a τ (Q2 r)) := by
  obtain ⟨m, mi, U, T, hA, hB⟩ := id h
  obtain ⟨k, k1, k2, rfl⟩ := I_of a
  have hW := hA.2.2.1
  have w0 := hW.1
  have w1 := hW.2.1
  obtain ⟨G, eG⟩ : ∃ G, G = run (KK m U T) (m 0).toNat := ⟨_, rfl⟩
  have hG : GB (run (KK m U T) (m 0).toNat) := GC_GB (run_GC (K := KK m U T) hW _).1
  rw [← eG] at hG
  unfold wpX11_shapes
  refine wi_ok (b := 0) (c := 1) (by omega) (fun z => t1 ?_) (fun z => t0 ?_)
  · have main : ∀ (fl : Int32) (s : Int), (fl = 1 ∧ s = 1 ∨ fl = 0 ∧ s = -1) → (k = 0 ∧ s = 1 ∨ k = 1 ∧ s = -1) → wbX11_shapes_22 (fun r τ => wpX12_shapes (II k) τ (Q2 r)) fl σ := by
      intro fl s hs1 hs2
      unfold wbX11_shapes_22 wpX10_pairs
      have key := up (P := fun f i => ∀ τ, Eqx [53, 54] σ τ → (∀ j, j < i → gI τ 53 j = II (pA G (m 0) (-1) j) ∧ gI τ 54 j = II (pA G (m 0) 1 j)) → wbX10_pairs_4 (fun r τ => wpX12_shapes (II k) τ (Q2 r)) f fl (II (pT (pP G (m 0)) (pA G (m 0) (-1)) (pA G (m 0) 1) s i)) (II i) τ) (m 1).toNat ?_ ?_ 0 (by omega)
      · obtain ⟨f, hf⟩ := key
        exact ⟨f, hf σ (fun _ _ => rfl) (fun j hj => absurd hj (by omega))⟩
      · intro f τ tE _
        have tR : SR σ τ := SR_x tE (by simp)
        have tB := SR_B hA hB tR
        have e1 := tB.1.1
        simp (disch := omega) only [wbX10_pairs_4, e1, I_le]
        exact ⟨fun _ => rshapes_ok (SR_I h tR) (SR_A hA tR) tB hs2 G eG, fun q => absurd (by omega) q⟩
      · intro f i hi ih τ tE tv
        have tR : SR σ τ := SR_x tE (by simp)
        have tB := SR_B hA hB tR
        have e1 := tB.1.1
        have hb := tB.2.2.2.2.1
        rw [← eG] at hb
        have e9 := tB.2.2.1.1
        have pi := pe_in (fy G i) (m 0).toNat
        have ei : pe (fy G i) (m 0).toNat = pP G (m 0) i := rfl
        rw [ei] at pi
        simp (disch := omega) only [wbX10_pairs_4, I_lit, I_neg, e1, I_le]
        refine ⟨fun q => absurd q (by omega), fun _ => cpeak_ok hb hG (by omega) e9 w0 ?_⟩
        rw [ei, I_eq (by omega)]
        have fin : ∀ υ, Eqx [53, 54] σ υ → (∀ j, j ≤ i → gI υ 53 j = II (pA G (m 0) (-1) j) ∧ gI υ 54 j = II (pA G (m 0) 1 j)) → ∃ g, wbX10_pairs_73 (wbX10_pairs_4 (fun r τ => wpX12_shapes (II k) τ (Q2 r)) f) (fun r τ => wpX12_shapes (II k) τ (Q2 r)) g fl (II (pT (pP G (m 0)) (pA G (m 0) (-1)) (pA G (m 0) 1) s i)) (II i) (II (pP G (m 0) i)) 0 υ := by
          intro υ uE uv
          refine cpairs_in (P := pP G (m 0)) (A := pA G (m 0) (-1)) (B := pA G (m 0) 1) hs1 (by omega) (by omega) ?_ ?_
          · intro j hj
            have a1 := pA_in G (m 0) (-1) j
            have a2 := pA_in G (m 0) 1 j
            exact ⟨(uv j hj).1, (uv j hj).2, a1.1, a1.2.1, a2.1, a2.2.1, a1.2.2⟩
          · exact ih υ uE (fun j hj => uv j (by omega))
        refine ⟨fun q => ?_, fun q => ?_⟩
        · have aA : pA G (m 0) (-1) i = sl (fy G i) (m 0) (fy G i (pP G (m 0) i)) (-1) 62 (pP G (m 0) i + -1) 0 := if_neg q
          have bA : pA G (m 0) 1 i = sl (fy G i) (m 0) (fy G i (pP G (m 0) i)) 1 62 (pP G (m 0) i + 1) 0 := if_neg q
          refine cslope_ok hb hG (by omega) e9 w0 (by omega) (Or.inr rfl) ?_
          rw [← aA]
          unfold wbX10_pairs_45
          simp (disch := omega) only [I_lit, I_neg, I_in, true_and, I_cl, Int.toNat_natCast, fe, I_eq]
          refine ⟨fun _ => ?_, fun q2 => absurd q2 q⟩
          have uE : Eqx [53, 54] σ (sI τ 53 i (II (pA G (m 0) (-1) i))) := Eqx_tI tE (by simp)
          have uR : SR σ (sI τ 53 i (II (pA G (m 0) (-1) i))) := SR_x uE (by simp)
          have uB := SR_B hA hB uR
          have ub := uB.2.2.2.2.1
          rw [← eG] at ub
          refine cslope_ok ub hG (by omega) uB.2.2.1.1 w0 (by omega) (Or.inl rfl) ?_
          rw [← bA]
          refine fin _ (Eqx_tI uE (by simp)) ?_
          intro j hj
          by_cases c : j = i
          · rw [c, rI2 (by omega), rI1, rI1]; exact ⟨rfl, rfl⟩
          · rw [rI2 (by omega), rI3 c, rI3 c, rI2 (by omega)]; exact tv j (by omega)
        · have aA : pA G (m 0) (-1) i = -1 := if_pos q
          have bA : pA G (m 0) 1 i = -1 := if_pos q
          unfold wbX10_pairs_45
          simp (disch := omega) only [I_lit, I_neg, I_in, true_and, I_cl, Int.toNat_natCast, fe, I_eq]
          refine ⟨fun q2 => absurd q q2, fun _ => ?_⟩
          refine fin _ (Eqx_tI (Eqx_tI tE (by simp)) (by simp)) ?_
          intro j hj
          by_cases c : j = i
          · rw [c, rI2 (by omega), rI1, rI1, aA, bA]; exact ⟨rfl, rfl⟩
          · rw [rI2 (by omega), rI3 c, rI3 c, rI2 (by omega)]; exact tv j (by omega)
    rw [I_lit, I_eq (by omega)]
    exact ⟨fun q => main 0 (-1) (Or.inr ⟨rfl, rfl⟩) (by omega), fun q => main 1 1 (Or.inl ⟨rfl, rfl⟩) (by omega)⟩
  · show wpX12_shapes (II k) σ (Q2 (-1))
    unfold wpX12_shapes
    exact in_ok (b := 0) (c := 1) (by omega) (fun q => absurd q z) (fun _ => s0 ⟨rfl, h⟩)
