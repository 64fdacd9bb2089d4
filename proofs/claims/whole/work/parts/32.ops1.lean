/-! conditions -/
theorem wi_ok {σ : St} {a b c : Int} {post : Int32 → St → Prop} (h : -2147483648 ≤ a ∧ a < 2147483648 ∧ -2147483648 ≤ b ∧ b < 2147483648 ∧ -2147483648 ≤ c ∧ c < 2147483648) (h1 : b ≤ a ∧ a ≤ c → post (II 1) σ) (h0 : ¬ (b ≤ a ∧ a ≤ c) → post (II 0) σ) : wpX11_within (II a) (II b) (II c) σ post := by
  simp (disch := omega) only [wpX11_within, I_lt, I_lit]
  exact ⟨fun z => h0 (by omega), fun z => ⟨fun y => h0 (by omega), fun y => h1 (by omega)⟩⟩
theorem in_ok {σ : St} {a b c : Int} {post : Int32 → St → Prop} (h : -2147483648 ≤ a ∧ a < 2147483648 ∧ -2147483648 ≤ b ∧ b < 2147483648 ∧ -2147483648 ≤ c ∧ c < 2147483648) (h1 : b ≤ a ∧ a ≤ c → post (II 1) σ) (h0 : ¬ (b ≤ a ∧ a ≤ c) → post (II 0) σ) : wpX12_in (II a) (II b) (II c) σ post := by
  simp (disch := omega) only [wpX12_in, I_lt, I_lit]
  exact ⟨fun z => h0 (by omega), fun z => ⟨fun y => h0 (by omega), fun y => h1 (by omega)⟩⟩
theorem i10 : ¬ II 1 = 0 := by decide
theorem i00 : II 0 = 0 := rfl
theorem t1 {A B : Prop} (b : B) : (II 1 = 0 → A) ∧ (¬ II 1 = 0 → B) := ⟨fun z => absurd z i10, fun _ => b⟩
theorem t0 {A B : Prop} (a : A) : (II 0 = 0 → A) ∧ (¬ II 0 = 0 → B) := ⟨fun _ => a, fun z => absurd i00 z⟩
theorem s1 {A B : Prop} (b : B) : (¬ II 1 = 0 → B) ∧ (II 1 = 0 → A) := ⟨fun _ => b, fun z => absurd z i10⟩
theorem s0 {A B : Prop} (a : A) : (¬ II 0 = 0 → B) ∧ (II 0 = 0 → A) := ⟨fun z => absurd i00 z, fun _ => a⟩
theorem has_ok {σ : St} {a N : Int} {post : Int32 → St → Prop} (h : gI σ 1 0 = II N) (hN : 0 ≤ N ∧ N ≤ 16) (ha : -2147483648 ≤ a ∧ a < 2147483648) (h1 : 0 ≤ a ∧ a < N → post (II 1) σ) (h0 : ¬ (0 ≤ a ∧ a < N) → post (II 0) σ) : wpX5_has (II a) σ post := by
  simp (disch := omega) only [wpX5_has, h, I_lt, I_le, I_lit]
  exact ⟨fun z => h0 (by omega), fun z => ⟨fun y => h0 (by omega), fun y => h1 (by omega)⟩⟩
theorem isName_ok {σ : St} {m : MT} {a : Int} {post : Int32 → St → Prop} (hM : RM σ m) (hN : 0 ≤ m 1 ∧ m 1 ≤ 16) (ha : -2147483648 ≤ a ∧ a < 2147483648) (h1 : 0 ≤ a ∧ a < m 1 → post (II 1) σ) (h0 : ¬ (0 ≤ a ∧ a < m 1) → post (II 0) σ) : wpX12_isName (II a) σ post := by
  have e1 : gI σ 76 1 = II (m 1) := hM 1
  simp (disch := omega) only [wpX12_isName, I_lit, I_in, true_and, I_cl, Int.reduceToNat, e1, I_sub]
  exact in_ok (by omega) (fun z => ⟨Or.inr rfl, h1 (by omega)⟩) (fun z => ⟨Or.inl rfl, h0 (by omega)⟩)
theorem isRow_ok {σ : St} {a b c : Int} {post : Int32 → St → Prop} (h : -2147483648 ≤ a ∧ a < 2147483648 ∧ -2147483648 ≤ b ∧ b < 2147483648 ∧ -2147483648 ≤ c ∧ c < 2147483648) (h1 : (0 ≤ a ∧ a ≤ 2) ∧ (0 ≤ b ∧ b ≤ 1) ∧ (0 ≤ c ∧ c ≤ 1) → post (II 1) σ) (h0 : ¬ ((0 ≤ a ∧ a ≤ 2) ∧ (0 ≤ b ∧ b ≤ 1) ∧ (0 ≤ c ∧ c ≤ 1)) → post (II 0) σ) : wpX11_isRow (II a) (II b) (II c) σ post := by
  simp only [wpX11_isRow, I_lit]
  refine wi_ok (by omega) (fun z => t1 (wi_ok (by omega) (fun y => t1 (wi_ok (by omega) (fun x => t1 (h1 ⟨z, y, x⟩)) (fun x => t0 (h0 (fun w => x w.2.2))))) (fun y => t0 (h0 (fun w => y w.2.1))))) (fun z => t0 (h0 (fun w => z w.1)))
theorem isCradle_ok {σ : St} {a b c : Int} {post : Int32 → St → Prop} (h : -2147483648 ≤ a ∧ a < 2147483648 ∧ -2147483648 ≤ b ∧ b < 2147483648 ∧ -2147483648 ≤ c ∧ c < 2147483648) (h1 : (0 ≤ a ∧ a ≤ 2) ∧ (0 ≤ b ∧ b ≤ 1) ∧ (0 ≤ c ∧ c ≤ 1) → post (II 1) σ) (h0 : ¬ ((0 ≤ a ∧ a ≤ 2) ∧ (0 ≤ b ∧ b ≤ 1) ∧ (0 ≤ c ∧ c ≤ 1)) → post (II 0) σ) : wpX12_isCradle (II a) (II b) (II c) σ post := by
  simp only [wpX12_isCradle, I_lit]
  refine in_ok (by omega) (fun z => t1 (in_ok (by omega) (fun y => t1 (in_ok (by omega) (fun x => t1 (h1 ⟨z, y, x⟩)) (fun x => t0 (h0 (fun w => x w.2.2))))) (fun y => t0 (h0 (fun w => y w.2.1))))) (fun z => t0 (h0 (fun w => z w.1)))
/-- the answers are the same, and all holds behind -/
abbrev Q2 (r : Int32) : Int32 → St → Prop := fun r' τ => r = r' ∧ Inv τ
theorem fault_ok {σ : St} (h : Inv σ) (a : Int32) : wpX11_fault a σ (fun r τ => wpX12_fault a τ (Q2 r)) := by
  obtain ⟨m, mi, U, T, hA, hB⟩ := id h
  obtain ⟨l, -, -, -, -, h5, h6⟩ := hB.2.2.2.2.2.2.2.2.2.1
  unfold wpX11_fault wpX12_fault
  refine ⟨fun z => ⟨fun y => ⟨fun _ => ⟨fun _ => ⟨rfl, h⟩, fun x => absurd x y⟩, fun x => absurd x z⟩, fun y => ⟨fun _ => ⟨fun x => absurd y x, fun _ => ⟨h6, h⟩⟩, fun x => absurd x z⟩⟩, fun z => ⟨fun x => absurd z x, fun _ => ⟨h5, h⟩⟩⟩
theorem end_ok {σ : St} (h : Inv σ) (a : Int32) : wpX11_end a σ (fun r τ => wpX12_end a τ (Q2 r)) := by
  obtain ⟨m, mi, U, T, hA, hB⟩ := id h
  obtain ⟨l, l3, h1, h2, h3, h5, h6⟩ := id hB.2.2.2.2.2.2.2.2.2.1
  obtain ⟨z, z1, z2, rfl⟩ := I_of a
  unfold wpX11_end
  rw [h1, I_lit]
  refine wi_ok (by omega) (fun c => s1 ?_) (fun c => s0 ?_)
  · simp only [fe]
    unfold wpX12_end
    rw [rI2 (by omega), h2, I_lit]
    refine in_ok (by omega) (fun _ => s1 ?_) (fun c2 => absurd c c2)
    simp only [fe]
    refine ⟨rfl, m, mi, U, T, ?_, ?_⟩
    · refine ⟨fun k => by rw [rI2 (by omega), rI2 (by omega)]; exact hA.1 k, fun k => by rw [rI2 (by omega), rI2 (by omega)]; exact hA.2.1 k, hA.2.2⟩
    · obtain ⟨b1, b2, b3, b4, b5, b6, b7, b8, b9, b10, b11⟩ := hB
      have e : ∀ q, q ≠ 42 → q ≠ 75 → sI (sI σ 42 1 (II z)) 75 4 (II z) q = σ q := fun q p1 p2 => by rw [ce_sI _ _ _ _ _ p2, ce_sI _ _ _ _ _ p1]
      refine ⟨NMs_c b1 (fun q p1 p2 => e q (by omega) (by omega)) (e 78 (by omega) (by omega)) rfl (fun _ _ => ⟨rfl, rfl⟩), ⟨NP_c b2.1 (e 83 (by omega) (by omega)) (e 84 (by omega) (by omega)), RW_eq b2.2 (fun q p1 p2 => e q (by omega) (by omega))⟩, CL_eq b3 (fun q hq => e q ?_ ?_), ⟨CW_eq hA.2.2.1.2.2.2.2.1.2 b4.1 (fun q p1 p2 => e q (by omega) (by omega)), by rw [gI_of (e 0 (by omega) (by omega))]; exact b4.2⟩, Bk_eq b5 (fun q p1 p2 => e q (by omega) (by omega)), fun y hy => by rw [gI_of (e 15 (by omega) (by omega))]; exact b6 y hy, PRs_c b7 (fun q p1 p2 => e q (by omega) (by omega)) (by rw [gI_of (e 64 (by omega) (by omega))]) rfl (fun _ _ _ _ => rfl), RUs_c b8 (by rw [gI_of (e 64 (by omega) (by omega))]) (e 69 (by omega) (by omega)), by rw [gI_of (e 47 (by omega) (by omega)), gI_of (e 47 (by omega) (by omega))]; exact b9, ?_, IMs_c b11 (fun q p1 p2 => e q (by omega) (by omega))⟩
      · simp only [CE, List.mem_cons, List.not_mem_nil, or_false] at hq; omega
      · simp only [CE, List.mem_cons, List.not_mem_nil, or_false] at hq; omega
      · refine ⟨z.toNat, by omega, ?_, ?_, fun j hj => ?_, ?_, ?_⟩
        · rw [rI2 (by omega), rI1]; congr 1; omega
        · rw [rI1]; congr 1; omega
        · obtain ⟨b, q1, q2, q3⟩ := h3 j (by omega)
          exact ⟨b, q1, by rw [rI2 (by omega), rI2 (by omega)]; exact q2, by rw [rI2 (by omega), rI2 (by omega)]; exact q3⟩
        · rw [rI2 (by omega), rI3 (by omega), rI3 (by omega), rI2 (by omega)]; exact h5
        · rw [rI2 (by omega), rI3 (by omega), rI3 (by omega), rI2 (by omega)]; exact h6
  · show wpX12_end (II z) σ (Q2 (-1))
    unfold wpX12_end
    rw [h2, I_lit]
    exact in_ok (by omega) (fun c2 => absurd c2 c) (fun _ => s0 ⟨rfl, h⟩)
theorem about_ok {σ : St} (h : Inv σ) (a : Int32) : wpX11_about a σ (fun r τ => wpX12_about a τ (Q2 r)) := by
  obtain ⟨m, mi, U, T, hA, hB⟩ := id h
  obtain ⟨l, l3, t1', t2', -⟩ := id hB.2.2.2.2.2.2.2.2.2.1
  obtain ⟨z, z1, z2, rfl⟩ := I_of a
  have hM := hA.1
  obtain ⟨c1, c2, c3, c4, c5, c6, c7, c8, -⟩ := hB.2.2.1
  have n1 := hB.1.1
  have n4 := hB.2.2.2.1.2
  have n5 := hB.2.2.2.2.2.2.1.1
  have w := hA.2.2.1
  have ref : ∀ r : Int32, (z = 0 → r = II (m 0)) → (z = 1 → r = II (m 1)) → (z = 2 → r = II (m 2)) → (z = 3 → r = II (m 3)) → (z = 4 → r = II (m 4)) → (z = 5 → r = II (m 5)) → (z = 6 → r = II l) → (z = 7 → r = II (m 6)) → (z = 10 ∨ z = 11 → r = II (m (7 + (z - 10).toNat))) → (20 ≤ z ∧ z ≤ 31 → r = II (m (10 + (z - 20).toNat))) → (¬ (0 ≤ z ∧ z ≤ 7 ∨ z = 10 ∨ z = 11 ∨ 20 ≤ z ∧ z ≤ 31) → r = II (-1)) → wpX12_about (II z) σ (Q2 r) := by
    intro r r0 r1 r2 r3 r4 r5 r6 r7 r10 r20 rn
    simp (disch := omega) only [wpX12_about, I_lit, I_eq, I_in, true_and, I_cl, Int.reduceToNat, hM 0, hM 1, hM 2, hM 3, hM 4, hM 5, hM 6, t2', I_neg, I_add, I_sub]
    refine ⟨fun y => ⟨r0 y, h⟩, fun y0 => ⟨fun y => ⟨r1 y, h⟩, fun y1 => ⟨fun y => ⟨r2 y, h⟩, fun y2 => ⟨fun y => ⟨r3 y, h⟩, fun y3 => ⟨fun y => ⟨r4 y, h⟩, fun y4 => ⟨fun y => ⟨r5 y, h⟩, fun y5 => ⟨fun y => ⟨r6 y, h⟩, fun y6 => ⟨fun y => ⟨r7 y, h⟩, fun y7 => ?_⟩⟩⟩⟩⟩⟩⟩⟩
    refine in_ok (by omega) (fun y => t1 ?_) (fun y => t0 (in_ok (by omega) (fun x => t1 ?_) (fun x => t0 ⟨rn (by omega), h⟩)))
    · simp (disch := omega) only [I_in, true_and, I_cl]
      rw [show (7 + z - 10).toNat = 7 + (z - 10).toNat by omega, hM]
      exact ⟨r10 (by omega), h⟩
    · simp (disch := omega) only [I_in, true_and, I_cl]
      rw [show (10 + z - 20).toNat = 10 + (z - 20).toNat by omega, hM]
      exact ⟨r20 (by omega), h⟩
  simp (disch := omega) only [wpX11_about, I_lit, I_eq, I_in, true_and, I_cl, Int.reduceToNat, c1, c2, c3, c4, n1, n4, n5, t1', I_neg, I_sub, c8 0 (by omega), c8 1 (by omega)]
  have cr : ∀ r : Int32, (20 ≤ z ∧ z ≤ 31 → r = II (m (10 + (z - 20).toNat))) → (¬ (20 ≤ z ∧ z ≤ 31) → r = II (-1)) → ¬ (0 ≤ z ∧ z ≤ 7 ∨ z = 10 ∨ z = 11) → wpX12_about (II z) σ (Q2 r) := fun r r20 rn hz => ref r (by omega) (by omega) (by omega) (by omega) (by omega) (by omega) (by omega) (by omega) (by omega) r20 (fun y => rn (by omega))
  have last : ¬ (0 ≤ z ∧ z ≤ 7 ∨ z = 10 ∨ z = 11) → wpX11_within (II z) (II 20) (II 31) σ (fun r_5 σ_6 => ((r_5 = II 0 → wpX12_about (II z) σ_6 (Q2 (II (-1)))) ∧ (¬ r_5 = II 0 → vp_in (II (z - 20)) 12 ∧ (wpX12_about (II z) σ_6 (Q2 (gI σ_6 11 (II (z - 20)).toNatClampNeg)))))) := by
    intro hz
    refine wi_ok (by omega) (fun x => ⟨fun y => absurd y i10, fun _ => ?_⟩) (fun x => ⟨fun _ => cr _ (by omega) (fun _ => rfl) hz, fun y => absurd rfl y⟩)
    simp (disch := omega) only [I_in, true_and, I_cl]
    rw [c6 _ (by omega)]
    exact cr _ (fun _ => rfl) (by omega) hz
  refine ⟨fun y => ref _ (fun _ => rfl) (by omega) (by omega) (by omega) (by omega) (by omega) (by omega) (by omega) (by omega) (by omega) (by omega), fun y0 => ⟨fun y => ref _ (by omega) (fun _ => rfl) (by omega) (by omega) (by omega) (by omega) (by omega) (by omega) (by omega) (by omega) (by omega), fun y1 => ⟨fun y => ref _ (by omega) (by omega) (fun _ => rfl) (by omega) (by omega) (by omega) (by omega) (by omega) (by omega) (by omega) (by omega), fun y2 => ⟨fun y => ref _ (by omega) (by omega) (by omega) (fun _ => rfl) (by omega) (by omega) (by omega) (by omega) (by omega) (by omega) (by omega), fun y3 => ⟨fun y => ref _ (by omega) (by omega) (by omega) (by omega) (fun _ => rfl) (by omega) (by omega) (by omega) (by omega) (by omega) (by omega), fun y4 => ⟨fun y => ref _ (by omega) (by omega) (by omega) (by omega) (by omega) (fun _ => rfl) (by omega) (by omega) (by omega) (by omega) (by omega), fun y5 => ⟨fun y => ref _ (by omega) (by omega) (by omega) (by omega) (by omega) (by omega) (fun _ => rfl) (by omega) (by omega) (by omega) (by omega), fun y6 => ⟨fun y => ref _ (by omega) (by omega) (by omega) (by omega) (by omega) (by omega) (by omega) (fun _ => rfl) (by omega) (by omega) (by omega), fun y7 => ⟨fun y => last (by omega), fun y8 => ⟨fun y => last (by omega), fun y9 => ⟨fun y => ?_, fun y10 => ⟨fun y => ?_, fun y11 => last (by omega)⟩⟩⟩⟩⟩⟩⟩⟩⟩⟩⟩⟩
  · refine ref _ (by omega) (by omega) (by omega) (by omega) (by omega) (by omega) (by omega) (by omega) (fun _ => ?_) (by omega) (by omega)
    rw [show (z - 10).toNat = 0 by omega]
  · refine ref _ (by omega) (by omega) (by omega) (by omega) (by omega) (by omega) (by omega) (by omega) (fun _ => ?_) (by omega) (by omega)
    rw [show (z - 10).toNat = 1 by omega]
