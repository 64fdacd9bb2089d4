/-! age -/
theorem sgb {G : GV} (hG : GB G) (n a b : Nat) (hb : b ≤ 101) : 0 ≤ rg (gy G 6 n) a b ∧ rg (gy G 6 n) a b ≤ 12118788 := by
  have e1 := gy_nn hG 6 n a b
  have e2 := rg_le (f := gy G 6 n) (a := a) (b := b) (B := 119988) (by omega) (fun k _ _ => gt_le hG k 6 n)
  have : (b : Int) * 119988 ≤ 12118788 := by omega
  omega
theorem spanStart_ok {σ : St} {m : MT} {G : GV} {o N l : Nat} {v : Int} {post : Int32 → St → Prop} (B : Bk σ 0 G o) (C : CL σ m) (hW : WFm m) (hG : GB G) (hN : N < 16) (hv : 1 ≤ v ∧ v ≤ 100) (hl : 1 ≤ l ∧ l ≤ 101) (a b : Nat) (tot : Int) (ea : a = (m 0 - m 6 + 40).toNat) (eb : b = (m 0 + 40).toNat) (et : tot = rg (gy G 6 N) a b)
    (h1 : ∀ Z : Nat, a ≤ Z → Z + l ≤ b → v * tot ≤ 100 * rg (gy G 6 N) Z (Z + l) → (∀ Y, a ≤ Y → Y < Z → ¬ v * tot ≤ 100 * rg (gy G 6 N) Y (Y + l)) → post (II ((Z : Int) - 40)) σ)
    (h0 : (∀ Y, a ≤ Y → Y + l ≤ b → ¬ v * tot ≤ 100 * rg (gy G 6 N) Y (Y + l)) → post (II (-1000)) σ) : wpX10_spanStart (II N) (II v) (II l) σ post := by
  have w0 := hW.1
  have w6 := hW.2.2.2.2.2.2.1
  have tb := sgb hG N a b (by omega)
  rw [← et] at tb
  have vt := mulb (M := 100) (N := 12118788) ⟨by omega, hv.2⟩ tb
  unfold wpX10_spanStart
  refine firstLiving_ok C hW ?_
  rw [C.1, show (1 : Int32) = II 1 from rfl, I_sub]
  refine between_ok (g := 6) B (by omega) hN (by omega) (by omega) ?_
  rw [show (max (m 0 - m 6) (-40) + 40).toNat = a by omega, show (m 0 - 1 + 41).toNat = b by omega, ← et, show max (m 0 - m 6) (-40) = (a : Int) - 40 by omega, I_wide (by omega)]
  simp only [fe]
  have key := up (P := fun f Z => a ≤ Z → (∀ Y, a ≤ Y → Y < Z → ¬ v * tot ≤ 100 * rg (gy G 6 N) Y (Y + l)) → wbX10_spanStart_34 post f (II N) (II v) (II l) (LL tot) (II ((Z : Int) - 40)) σ) (max a (b + 1 - l)) ?_ ?_ a (by omega)
  · obtain ⟨f, hf⟩ := key
    exact ⟨f, hf (Nat.le_refl _) (fun Y y1 y2 => absurd y2 (by omega))⟩
  · intro f _ hz
    simp (disch := omega) only [wbX10_spanStart_34, C.1, I_add, I_lt, I_lit, I_neg]
    exact ⟨fun _ => h0 (fun Y y1 y2 => hz Y y1 (by omega)), fun q => absurd (by omega) q⟩
  · intro f Z hZ ih hle hz
    have sb := sgb hG N Z (Z + l) (by omega)
    simp (disch := omega) only [wbX10_spanStart_34, C.1, I_add, I_sub, I_lt, I_lit, I_neg]
    refine ⟨fun q => absurd q (by omega), fun _ => ?_⟩
    refine between_ok (g := 6) B (by omega) hN (by omega) (by omega) ?_
    rw [show ((Z : Int) - 40 + 40).toNat = Z by omega, show ((Z : Int) - 40 + l - 1 + 41).toNat = Z + l by omega]
    simp only [fe]
    rw [I_wide (by omega), I_wide (by omega), L_lit, L_mul, L_mul, L_lt (by omega)]
    refine ⟨fun q => ?_, fun q => ?_⟩
    · have := ih (by omega) (fun Y y1 y2 => by
        by_cases c : Y = Z
        · rw [c]; omega
        · exact hz Y y1 (by omega))
      rw [show ((Z + 1 : Nat) : Int) - 40 = (Z : Int) - 40 + 1 by omega] at this
      exact this
    · exact h1 Z hle (by omega) (by omega) hz
theorem shortestSpan_ok {σ : St} {m : MT} {G : GV} {o N L : Nat} {v : Int} {post : Int32 → St → Prop} (B : Bk σ 0 G o) (C : CL σ m) (hW : WFm m) (hG : GB G) (hN : N < 16) (hv : 1 ≤ v ∧ v ≤ 100) (a b : Nat) (tot : Int) (ea : a = (m 0 - m 6 + 40).toNat) (eb : b = (m 0 + 40).toNat) (et : tot = rg (gy G 6 N) a b)
    (hL : 1 ≤ L ∧ a + L ≤ b) (hz : ∃ Z, a ≤ Z ∧ Z + L ≤ b ∧ v * tot ≤ 100 * rg (gy G 6 N) Z (Z + L)) (hn : ∀ l, 1 ≤ l → l < L → ∀ Z, a ≤ Z → Z + l ≤ b → ¬ v * tot ≤ 100 * rg (gy G 6 N) Z (Z + l))
    (hp : post (II L) σ) : wpX10_shortestSpan (II N) (II v) σ post := by
  have w0 := hW.1
  have w6 := hW.2.2.2.2.2.2.1
  unfold wpX10_shortestSpan
  refine firstLiving_ok C hW ?_
  rw [C.1, I_sub, show m 0 - max (m 0 - m 6) (-40) = (b : Int) - a by omega]
  simp only [fe]
  have key := up (P := fun f l => 1 ≤ l → wbX10_shortestSpan_16 post f (II N) (II v) (II ((b : Int) - a)) (II l) σ) L ?_ ?_ 1 hL.1
  · obtain ⟨f, hf⟩ := key
    exact ⟨f, hf (Nat.le_refl _)⟩
  · intro f _
    simp (disch := omega) only [wbX10_shortestSpan_16, I_le, I_lit, I_neg]
    refine ⟨fun q => ?_, fun _ => ?_⟩
    · rw [show (b : Int) - a = L by omega]; exact hp
    · refine spanStart_ok B C hW hG hN hv (by omega) a b tot ea eb et (fun Z z1 z2 z3 z4 => ?_) (fun z => ?_)
      · rw [I_eq (by omega)]
        exact ⟨fun q => absurd q (by omega), fun _ => hp⟩
      · obtain ⟨Z, z1, z2, z3⟩ := hz
        exact absurd z3 (z Z z1 z2)
  · intro f l hl ih h1
    simp (disch := omega) only [wbX10_shortestSpan_16, I_le, I_lit, I_neg]
    refine ⟨fun q => absurd q (by omega), fun _ => ?_⟩
    refine spanStart_ok B C hW hG hN hv (by omega) a b tot ea eb et (fun Z z1 z2 z3 z4 => absurd z3 (hn l h1 hl Z z1 z2)) (fun z => ?_)
    simp only [fe, I_add]
    exact ⟨fun _ => ih (by omega), fun q => absurd trivial q⟩
theorem rsum_ok {σ : St} {G : GV} {N l Z : Nat} {v v3 v4 v5 tot : Int} {K149 : Int32 → Int32 → Int32 → Int32 → Int32 → Int32 → Int32 → Int32 → St → Prop} {post : Int32 → St → Prop} (hR : RG σ G) (hG : GB G) (hN : N < 16) (hv : 1 ≤ v ∧ v ≤ 100) (hl : 1 ≤ l ∧ Z + l ≤ 101) (ht : 0 ≤ tot ∧ tot ≤ 12118788) (h3 : -2147483648 ≤ v3 ∧ v3 < 2147483648)
    (h1 : ¬ v * tot ≤ 100 * rg (gy G 6 N) Z (Z + l) → K149 (II N) (II v) (II v3) (II v4) (II v5) (II tot) (II l) (II ((Z : Int) - 40 + 1)) σ)
    (h2 : v * tot ≤ 100 * rg (gy G 6 N) Z (Z + l) → (v3 = 0 → post (II ((Z : Int) - 40)) σ) ∧ (v3 ≠ 0 → post (II ((Z : Int) - 40 + l - 1)) σ)) : ∃ f, wbX12_age_168 K149 post f (II N) (II v) (II v3) (II v4) (II v5) (II tot) (II l) (II ((Z : Int) - 40)) 0 (II ((Z : Int) - 40)) σ := by
  have vt := mulb (M := 100) (N := 12118788) ⟨by omega, hv.2⟩ ht
  have key := up (P := fun f i => Z ≤ i → wbX12_age_168 K149 post f (II N) (II v) (II v3) (II v4) (II v5) (II tot) (II l) (II ((Z : Int) - 40)) (II (rg (gy G 6 N) Z i)) (II ((i : Int) - 40)) σ) (Z + l) ?_ ?_ Z (by omega)
  · obtain ⟨f, hf⟩ := key
    have := hf (Nat.le_refl _)
    rw [rg_nil (Nat.le_refl _)] at this
    exact ⟨f, this⟩
  · intro f _
    have sb := sgb hG N Z (Z + l) (by omega)
    simp (disch := omega) only [wbX12_age_168, I_add, I_sub, I_mul, I_lt, I_le, I_eq, I_lit, I_neg, fe]
    refine ⟨fun _ => ⟨fun q => h1 (by omega), fun q => ⟨fun q2 => (h2 (by omega)).2 q2, fun q2 => (h2 (by omega)).1 q2⟩⟩, fun q => absurd (by omega) q⟩
  · intro f i hi ih hle
    have ih := ih (by omega)
    rw [rg_succ hle, show ((i + 1 : Nat) : Int) - 40 = (i : Int) - 40 + 1 by omega] at ih
    simp (disch := omega) only [wbX12_age_168, I_add, I_le, I_lit]
    refine ⟨fun q => absurd q (by omega), fun _ => all_ok hR hN (by omega) ?_⟩
    rw [if_neg (by omega), show ((i : Int) - 40 + 40).toNat = i by omega, I_add]
    simp only [fe]
    exact ih
theorem rspan_ok {σ : St} {G : GV} {N L Zs a b : Nat} {v v3 tot : Int} {post : Int32 → St → Prop} (hR : RG σ G) (hG : GB G) (hN : N < 16) (hv : 1 ≤ v ∧ v ≤ 100) (hb : b ≤ 101) (ht : 0 ≤ tot ∧ tot ≤ 12118788) (h3 : -2147483648 ≤ v3 ∧ v3 < 2147483648)
    (hL : 1 ≤ L ∧ a + L ≤ b) (hz : a ≤ Zs ∧ Zs + L ≤ b) (hz2 : v * tot ≤ 100 * rg (gy G 6 N) Zs (Zs + L)) (hz3 : ∀ Y, a ≤ Y → Y < Zs → ¬ v * tot ≤ 100 * rg (gy G 6 N) Y (Y + L)) (hn : ∀ l, 1 ≤ l → l < L → ∀ Z, a ≤ Z → Z + l ≤ b → ¬ v * tot ≤ 100 * rg (gy G 6 N) Z (Z + l))
    (h2 : (v3 = 0 → post (II ((Zs : Int) - 40)) σ) ∧ (v3 ≠ 0 → post (II ((Zs : Int) - 40 + L - 1)) σ)) : ∃ f, wbX12_age_133 post f (II N) (II v) (II v3) (II ((b : Int) - 41)) (II ((a : Int) - 40)) (II tot) 1 σ := by
  have key := up (P := fun f l => 1 ≤ l → wbX12_age_133 post f (II N) (II v) (II v3) (II ((b : Int) - 41)) (II ((a : Int) - 40)) (II tot) (II l) σ) L ?_ ?_ 1 hL.1
  · obtain ⟨f, hf⟩ := key
    exact ⟨f, hf (Nat.le_refl _)⟩
  · intro f _
    simp (disch := omega) only [wbX12_age_133, I_add, I_sub, I_lt, I_lit]
    refine ⟨fun q => absurd q (by omega), fun _ => ?_⟩
    have k2 := up (P := fun g Z => a ≤ Z → wbX12_age_149 (wbX12_age_133 post f) post g (II N) (II v) (II v3) (II ((b : Int) - 41)) (II ((a : Int) - 40)) (II tot) (II L) (II ((Z : Int) - 40)) σ) Zs ?_ ?_ a hz.1
    · obtain ⟨g, hg⟩ := k2
      exact ⟨g, hg (Nat.le_refl _)⟩
    · intro g _
      simp (disch := omega) only [wbX12_age_149, I_add, I_sub, I_lt, I_lit]
      refine ⟨fun q => absurd q (by omega), fun _ => ?_⟩
      exact rsum_ok hR hG hN hv (by omega) ht h3 (fun q => absurd hz2 q) (fun _ => h2)
    · intro g Z hZ ih hle
      have ih := ih (by omega)
      rw [show ((Z + 1 : Nat) : Int) - 40 = (Z : Int) - 40 + 1 by omega] at ih
      simp (disch := omega) only [wbX12_age_149, I_add, I_sub, I_lt, I_lit]
      refine ⟨fun q => absurd q (by omega), fun _ => ?_⟩
      exact rsum_ok hR hG hN hv (by omega) ht h3 (fun _ => ih) (fun q => absurd q (hz3 Z hle hZ))
  · intro f l hl ih h1
    simp (disch := omega) only [wbX12_age_133, I_add, I_sub, I_lt, I_lit]
    refine ⟨fun q => absurd q (by omega), fun _ => ?_⟩
    have k2 := up (P := fun g Z => a ≤ Z → wbX12_age_149 (wbX12_age_133 post f) post g (II N) (II v) (II v3) (II ((b : Int) - 41)) (II ((a : Int) - 40)) (II tot) (II l) (II ((Z : Int) - 40)) σ) (b + 1 - l) ?_ ?_ a (by omega)
    · obtain ⟨g, hg⟩ := k2
      exact ⟨g, hg (Nat.le_refl _)⟩
    · intro g _
      have ih := ih (by omega)
      simp (disch := omega) only [wbX12_age_149, I_add, I_sub, I_lt, I_lit, fe]
      exact ⟨fun _ => ih, fun q => absurd (by omega) q⟩
    · intro g Z hZ ih2 hle
      have ih2 := ih2 (by omega)
      rw [show ((Z + 1 : Nat) : Int) - 40 = (Z : Int) - 40 + 1 by omega] at ih2
      simp (disch := omega) only [wbX12_age_149, I_add, I_sub, I_lt, I_lit]
      refine ⟨fun q => absurd q (by omega), fun _ => ?_⟩
      exact rsum_ok hR hG hN hv (by omega) ht h3 (fun _ => ih2) (fun q => absurd q (hn l h1 hl Z hle (by omega)))
