def mu (m : MT) (k : Nat) (v : Int) : MT := fun j => if j = k then v else m j
theorem mu_eq (m : MT) (k : Nat) (v : Int) : mu m k v k = v := if_pos rfl
theorem mu_ne {m : MT} {k j : Nat} {v : Int} (h : j ≠ k) : mu m k v j = m j := if_neg h
theorem RM_mu {σ : St} {m : MT} (h : RM σ m) (k : Nat) (v : Int) : RM (sI σ 76 k (II v)) (mu m k v) := by
  intro j
  by_cases e : j = k
  · subst e; rw [rI1, mu_eq]
  · rw [rI3 e, mu_ne e]; exact h j
/-! parts of what holds, when cells or numbers beside them change -/
theorem NMs_c {σ τ : St} {m m' : MT} {U : Nat → Nat} (h : NMs σ m U) (e : ∀ q, 1 ≤ q → q ≤ 8 → τ q = σ q) (e78 : τ 78 = σ 78) (h1 : m' 1 = m 1) (hn : ∀ n : Nat, (n : Int) < m 1 → m' (30 + n) = m (30 + n) ∧ m' (1900 + n) = m (1900 + n)) : NMs τ m' U := by
  refine ⟨by rw [gI_of (e 1 (by omega) (by omega)), h1]; exact h.1, fun n hn' => ?_⟩
  rw [h1] at hn'
  obtain ⟨a1, a2, a3, a4, a5, a6, a7, a8, a9⟩ := h.2 n hn'
  rw [gL_of e78, gL_of (e 2 (by omega) (by omega)), gI_of (e 3 (by omega) (by omega)), gI_of (e 4 (by omega) (by omega)), gI_of (e 5 (by omega) (by omega)), gL_of (e 6 (by omega) (by omega)), gI_of (e 8 (by omega) (by omega)), (hn n hn').1, (hn n hn').2]
  exact ⟨a1, a2, a3, a4, a5, a6, a7, a8, fun j hj => by rw [gI_of (e 7 (by omega) (by omega))]; exact a9 j hj⟩
theorem CL_c {σ τ : St} {m m' : MT} (h : CL σ m) (e : Eqc σ τ) (h0 : m' 0 = m 0) (h6 : m' 6 = m 6) (h2 : m' 2 = m 2) (h3 : m' 3 = m 3)
    (hB : ∀ Y, Y < 40 → ∀ c, c < 12 → ∀ n, n < 16 → m' (2000 + (39 - Y) * 192 + c * 16 + n) = m (2000 + (39 - Y) * 192 + c * 16 + n)) (hC : ∀ c, c < 12 → m' (10 + c) = m (10 + c)) (hL : ∀ y : Nat, (y : Int) < m 0 → ∀ c, c < 14 → m' (1000 + 14 * y + c) = m (1000 + 14 * y + c)) (hb : ∀ s, s < 2 → m' (7 + s) = m (7 + s))
    (hl : ∀ k : Nat, (k : Int) < m 2 → m' (50 + 2 * k) = m (50 + 2 * k) ∧ m' (50 + 2 * k + 1) = m (50 + 2 * k + 1)) (hf : ∀ k : Nat, (k : Int) < m 3 → m' (70 + 3 * k) = m (70 + 3 * k) ∧ m' (70 + 3 * k + 1) = m (70 + 3 * k + 1) ∧ m' (70 + 3 * k + 2) = m (70 + 3 * k + 2)) : CL τ m' := by
  have h := CL_eq h e
  obtain ⟨a1, a2, a3, a4, a5, a6, a7, a8, a9, a10, a11⟩ := h
  refine ⟨by rw [h0]; exact a1, by rw [h6]; exact a2, by rw [h2]; exact a3, by rw [h3]; exact a4, fun Y p c q n r => by rw [hB Y p c q n r]; exact a5 Y p c q n r, fun c q => by rw [hC c q]; exact a6 c q, fun y p c q => ?_, fun s q => by rw [hb s q]; exact a8 s q, fun y p s q => ?_, fun k p => ?_, fun k p => ?_⟩
  · rw [h0] at p; rw [hL y p c (by omega)]; exact a7 y p c q
  · rw [h0] at p
    have e := hL y p (12 + s) (by omega)
    rw [show 1000 + 14 * y + (12 + s) = 1000 + 14 * y + 12 + s by omega] at e
    rw [e]; exact a9 y p s q
  · rw [h2] at p; rw [(hl k p).1, (hl k p).2]; exact a10 k p
  · rw [h3] at p; rw [(hf k p).1, (hf k p).2.1, (hf k p).2.2]; exact a11 k p
theorem PRs_c {σ τ : St} {m m' : MT} (h : PRs σ m) (e : ∀ q, 65 ≤ q → q ≤ 68 → τ q = σ q) (e64 : gI τ 64 0 = gI σ 64 0) (h5 : m' 5 = m 5) (hk : ∀ k : Nat, (k : Int) < m 5 → ∀ j, j < 6 → m' (100 + 6 * k + j) = m (100 + 6 * k + j)) : PRs τ m' := by
  refine ⟨by rw [e64, h5]; exact h.1, fun k p => ?_⟩
  rw [h5] at p
  have q0 := hk k p 0 (by omega)
  rw [Nat.add_zero] at q0
  rw [gI_of (e 65 (by omega) (by omega)), gI_of (e 66 (by omega) (by omega)), gI_of (e 67 (by omega) (by omega)), gI_of (e 68 (by omega) (by omega)), q0, hk k p 1 (by omega), hk k p 2 (by omega), hk k p 3 (by omega), hk k p 4 (by omega), hk k p 5 (by omega)]
  exact h.2 k p
theorem TPs_c {σ τ : St} (h : TPs σ) (e42 : ∀ k, k = 1 ∨ k = 2 ∨ k = 3 → gI τ 42 k = gI σ 42 k) (e43 : τ 43 = σ 43) (e79 : τ 79 = σ 79) (e75 : ∀ k, 4 ≤ k → k ≤ 6 → gI τ 75 k = gI σ 75 k) : TPs τ := by
  obtain ⟨l, h1, h2, h3, h4, h5, h6⟩ := h
  refine ⟨l, h1, by rw [e42 1 (by omega)]; exact h2, by rw [e75 4 (by omega) (by omega)]; exact h3, fun j hj => ?_, by rw [e42 2 (by omega), e75 5 (by omega) (by omega)]; exact h5, by rw [e42 3 (by omega), e75 6 (by omega) (by omega)]; exact h6⟩
  obtain ⟨b, b1, b2, b3⟩ := h4 j hj
  exact ⟨b, b1, by rw [gI_of e43]; exact b2, by rw [gI_of e79]; exact b3⟩
theorem IMs_c {σ τ : St} {mi : MT} (h : IMs σ mi) (e : ∀ q, 70 ≤ q → q ≤ 74 → τ q = σ q) : IMs τ mi := by
  obtain ⟨a1, a2, a3, a4, a5, a6, a7, a8, a9, a10, a11⟩ := h
  have e70 := e 70 (by omega) (by omega)
  refine ⟨by rw [gI_of e70]; exact a1, by rw [gI_of e70]; exact a2, by rw [gI_of e70]; exact a3, by rw [gI_of e70]; exact a4, by rw [gI_of e70]; exact a5, by rw [gI_of e70]; exact a6, by rw [gI_of e70]; exact a7, fun c p => by rw [gI_of (e 71 (by omega) (by omega))]; exact a8 c p, fun c p => by rw [gI_of (e 72 (by omega) (by omega))]; exact a9 c p, fun Y p c q n r => by rw [gI_of (e 73 (by omega) (by omega))]; exact a10 Y p c q n r, fun Y p c q n r => by rw [gI_of (e 74 (by omega) (by omega))]; exact a11 Y p c q n r⟩
theorem RUs_0 {τ : St} {m : MT} {U : Nat → Nat} {T : TT} (h : gI τ 64 6 = II 0) : RUs τ m U T := by
  refine ⟨0, h, by omega, fun t ht hb => ?_⟩
  have : ∀ t : Fin 6, bit 0 t.val = false := by decide
  have h2 := this ⟨t, ht⟩
  simp only [Int.cast_ofNat_Int] at hb
  rw [h2] at hb
  cases hb
theorem RUs_c {σ τ : St} {m : MT} {U : Nat → Nat} {T : TT} (h : RUs σ m U T) (e : gI τ 64 6 = gI σ 64 6) (e69 : τ 69 = σ 69) : RUs τ m U T := by
  obtain ⟨r, h1, h2, h3⟩ := h
  refine ⟨r, by rw [e]; exact h1, h2, fun t ht hb => ⟨(h3 t ht hb).1, fun y hy i hi => by rw [gL_of e69]; exact (h3 t ht hb).2 y hy i hi⟩⟩
theorem NP_c {σ τ : St} {T : TT} {N : Int} (h : NP σ T N) (e83 : τ 83 = σ 83) (e84 : τ 84 = σ 84) : NP τ T N := fun t ht => by rw [gI_of e83, gI_of e84]; exact h t ht
/-- a state that only grew, at the same clock -/
theorem Inv_step {σ τ : St} {m mi m' : MT} {U U' : Nat → Nat} {T T' : TT} (hA : IvA σ m mi U T) (hB : IvB σ m mi U T) (h0 : m' 0 = m 0) (hE : ExB m m') (hS : ExS m m') (hW : WFm m') (hZ : BZ m') (hP : PW m') (hT : TE T T' (m 4)) (hU : UE U U' (m 1))
    (r1 : RM τ m') (r2 : τ 77 = σ 77) (r3 : NMs τ m' U') (r4 : NP τ T' (m' 4)) (r5 : RW τ T' (m' 4)) (r6 : CL τ m') (r7 : CW τ T' (m' 4)) (r8 : gI τ 0 5 = II (m' 4)) (r9 : ∀ q, 21 ≤ q → q ≤ 24 → τ q = σ q) (r10 : τ 15 = σ 15) (r11 : PRs τ m') (r12 : RUs τ m' U' T') (r13 : gI τ 47 6 = gI σ 47 6 ∧ gI τ 47 7 = gI σ 47 7) (r14 : TPs τ) (r15 : ∀ q, 70 ≤ q → q ≤ 74 → τ q = σ q) : Inv τ := by
  obtain ⟨a1, a2, a3, a4, a5, a6, a7, a8, a9⟩ := hA
  obtain ⟨b1, b2, b3, b4, b5, b6, b7, b8, b9, b10, b11⟩ := hB
  have hg := run_grow a3 hW hE hS a5 hT hU
  refine ⟨m', mi, U', T', ⟨r1, fun k => by rw [gI_of r2]; exact a2 k, hW, a4, hZ, a6, hP, a8, Ex1.trans a9 ⟨hE, fun _ => hS⟩ (Or.inl hS)⟩, r3, ⟨r4, r5⟩, r6, ⟨r7, r8⟩, ?_, ?_, r11, r12, ?_, r14, IMs_c b11 r15⟩
  · rw [h0, (hg _ (Nat.le_refl _)).1]
    exact Bk_eq b5 (fun q p1 p2 => r9 q (by omega) (by omega))
  · intro y hy
    rw [h0] at hy
    have := a3.1
    rw [gI_of r10, (hg y (by omega)).2 (by omega)]
    exact b6 y hy
  · rw [r13.1, r13.2]; exact b9
/-- queries -/
def SQ (σ τ : St) : Prop := (∀ q, (q ≤ 24 ∨ 29 ≤ q ∧ q ≤ 43 ∨ 65 ≤ q ∧ q ≤ 68 ∨ 70 ≤ q ∧ q ≤ 74 ∨ 76 ≤ q ∧ q ≤ 86) → τ q = σ q) ∧ gI τ 64 0 = gI σ 64 0 ∧ gI τ 47 6 = gI σ 47 6 ∧ gI τ 47 7 = gI σ 47 7 ∧ (∀ k, k < 14 → gI τ 75 k = gI σ 75 k)
theorem SQ.refl (σ : St) : SQ σ σ := ⟨fun _ _ => rfl, rfl, rfl, rfl, fun _ _ => rfl⟩
theorem SQ.trans {σ τ υ : St} (h : SQ σ τ) (h2 : SQ τ υ) : SQ σ υ := ⟨fun q hq => (h2.1 q hq).trans (h.1 q hq), h2.2.1.trans h.2.1, h2.2.2.1.trans h.2.2.1, h2.2.2.2.1.trans h.2.2.2.1, fun k hk => (h2.2.2.2.2 k hk).trans (h.2.2.2.2 k hk)⟩
theorem SQ_A {σ τ : St} {m mi : MT} {U : Nat → Nat} {T : TT} (h : IvA σ m mi U T) (s : SQ σ τ) : IvA τ m mi U T :=
  ⟨fun k => by rw [gI_of (s.1 76 (by omega))]; exact h.1 k, fun k => by rw [gI_of (s.1 77 (by omega))]; exact h.2.1 k, h.2.2⟩
theorem SQ_B {σ τ : St} {m mi : MT} {U : Nat → Nat} {T : TT} (hA : IvA σ m mi U T) (h : IvB σ m mi U T) (s : SQ σ τ) (hr : RUs τ m U T) : IvB τ m mi U T := by
  obtain ⟨b1, b2, b3, b4, b5, b6, b7, b8, b9, b10, b11⟩ := h
  have w4 := hA.2.2.1.2.2.2.2.1
  refine ⟨NMs_c b1 (fun q p1 p2 => s.1 q (by omega)) (s.1 78 (by omega)) rfl (fun _ _ => ⟨rfl, rfl⟩), ⟨NP_c b2.1 (s.1 83 (by omega)) (s.1 84 (by omega)), RW_eq b2.2 (fun q p1 p2 => s.1 q (by omega))⟩, CL_eq b3 (fun q hq => s.1 q ?_), ⟨CW_eq w4.2 b4.1 (fun q p1 p2 => s.1 q (by omega)), by rw [gI_of (s.1 0 (by omega))]; exact b4.2⟩, Bk_eq b5 (fun q p1 p2 => s.1 q (by omega)), fun y hy => by rw [gI_of (s.1 15 (by omega))]; exact b6 y hy, PRs_c b7 (fun q p1 p2 => s.1 q (by omega)) s.2.1 rfl (fun _ _ _ _ => rfl), hr, ?_, TPs_c b10 (fun k _ => by rw [gI_of (s.1 42 (by omega))]) (s.1 43 (by omega)) (s.1 79 (by omega)) (fun k p1 p2 => s.2.2.2.2 k (by omega)), IMs_c b11 (fun q p1 p2 => s.1 q (by omega))⟩
  · simp only [CE, List.mem_cons, List.not_mem_nil, or_false] at hq; omega
  · rw [s.2.2.1, s.2.2.2.1]; exact b9
