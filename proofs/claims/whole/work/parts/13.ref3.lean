/-! what the reference needs of the state for a run -/
def WFm (m : MT) : Prop :=
  (0 ≤ m 0 ∧ m 0 ≤ 61) ∧ (0 ≤ m 1 ∧ m 1 ≤ 16) ∧ (0 ≤ m 2 ∧ m 2 ≤ 8) ∧ (0 ≤ m 3 ∧ m 3 ≤ 8) ∧ (0 ≤ m 4 ∧ m 4 ≤ 6) ∧ (0 ≤ m 5 ∧ m 5 ≤ 150) ∧ (20 ≤ m 6 ∧ m 6 ≤ 90) ∧
  (∀ s, s < 2 → -1 ≤ m (7 + s) ∧ m (7 + s) < m 4) ∧
  (∀ c, c < 12 → 0 ≤ m (10 + c) ∧ m (10 + c) ≤ 6) ∧
  (∀ n : Nat, (n : Int) < m 1 → 1 ≤ m (30 + n) ∧ m (30 + n) ≤ 3 ∧ 0 ≤ m (1900 + n) ∧ m (1900 + n) ≤ m 0) ∧
  (∀ k : Nat, (k : Int) < m 2 → 0 ≤ m (50 + 2 * k) ∧ m (50 + 2 * k) ≤ 60 ∧ 0 ≤ m (50 + 2 * k + 1) ∧ m (50 + 2 * k + 1) < 65536) ∧
  (∀ k : Nat, (k : Int) < m 3 → 0 ≤ m (70 + 3 * k) ∧ m (70 + 3 * k) < 16 ∧ 0 ≤ m (70 + 3 * k + 1) ∧ m (70 + 3 * k + 1) ≤ 60 ∧ 1 ≤ m (70 + 3 * k + 2) ∧ m (70 + 3 * k + 2) ≤ 999) ∧
  (∀ y : Nat, (y : Int) < m 0 → (∀ c, c < 12 → 0 ≤ m (1000 + 14 * y + c) ∧ m (1000 + 14 * y + c) ≤ 6) ∧ (∀ s, s < 2 → -1 ≤ m (1000 + 14 * y + 12 + s) ∧ m (1000 + 14 * y + 12 + s) < m 4)) ∧
  (∀ Y, Y < 40 → ∀ c, c < 12 → ∀ n, n < 16 → 0 ≤ m (2000 + (39 - Y) * 192 + c * 16 + n) ∧ m (2000 + (39 - Y) * 192 + c * 16 + n) ≤ 9999)
def NP (σ : St) (T : TT) (N : Int) : Prop := ∀ t : Nat, (t : Int) < N → gI σ 83 t = II (nrT T t) ∧ gI σ 84 t = II (psT T t) ∧ 1 ≤ nrT T t ∧ nrT T t ≤ 20 ∧ 1 ≤ psT T t ∧ psT T t ≤ 60
def RN (σ : St) (K : KT) : Prop := ∃ en : Int64 → Int64, (∀ n, n < kn K → ∀ (τ : St) (post : Int64 → St → Prop), post (en (gL σ 78 n)) τ → wpX12_ending (gL σ 78 n) τ post) ∧
  (∀ i, i < kn K → ∀ j, j < kn K → (en (gL σ 78 i) = en (gL σ 78 j) ↔ kE K i j = true)) ∧
  (∀ n, n < kn K → 0 ≤ kl K n ∧ kl K n ≤ 12 ∧ ∀ (τ : St) (post : Int32 → St → Prop), post (II (kl K n)) τ → wpX12_size (gL σ 78 n) τ post)
def Cx0 (σ : St) (K : KT) : Prop := RM σ K.1 ∧ WFm K.1 ∧ NP σ (kT K) (K.1 4) ∧ RN σ K
def Cx1 (σ : St) (G : GV) (K : KT) (y : Nat) (ta : Nat → Int) : Prop :=
  Cx0 σ K ∧ RG σ G ∧ GB G ∧ (∀ s, s < 2 → gI σ 104 s = II (ta s)) ∧ (∀ s, s < 2 → -1 ≤ ta s ∧ ta s < K.1 4) ∧ y ≤ 60
theorem Cx0_eq {σ τ : St} {K : KT} (h : Cx0 σ K) (e76 : τ 76 = σ 76) (e78 : τ 78 = σ 78) (e83 : τ 83 = σ 83) (e84 : τ 84 = σ 84) : Cx0 τ K := by
  obtain ⟨h1, h2, h3, en, h4, h5, h6⟩ := h
  have g78 : ∀ n, gL τ 78 n = gL σ 78 n := fun n => gL_of e78 n
  refine ⟨fun k => by rw [gI_of e76]; exact h1 k, h2, fun t ht => by rw [gI_of e83, gI_of e84]; exact h3 t ht, en, ?_, ?_, ?_⟩
  · intro n hn υ post hp; rw [g78] at *; exact h4 n hn υ post hp
  · intro i hi j hj; rw [g78, g78]; exact h5 i hi j hj
  · intro n hn; rw [g78]; exact h6 n hn
theorem Cx1_eq {σ τ : St} {G : GV} {K : KT} {y : Nat} {ta : Nat → Int} (h : Cx1 σ G K y ta) (e : Eqx [75, 105, 106, 107, 108, 109, 110, 111, 112] σ τ) : Cx1 τ G K y ta := by
  obtain ⟨h1, h2, h3, h4, h5, h6⟩ := h
  refine ⟨Cx0_eq h1 (e 76 (by simp)).symm (e 78 (by simp)).symm (e 83 (by simp)).symm (e 84 (by simp)).symm, RG_eq h2 (fun q a b => (e q (by simp; omega)).symm), h3, fun s hs => by rw [Eqx_gI e (by simp)]; exact h4 s hs, h5, h6⟩
def LSx (σ τ : St) (n : Nat) : Prop :=
  (∀ s', s' < 2 → ∀ p, p < 3 → ∀ n', n' < 16 → n' ≠ n → gI τ 105 (48 * s' + 16 * p + n') = gI σ 105 (48 * s' + 16 * p + n')) ∧
  (∀ s', s' < 2 → ∀ q, q < 2 → ∀ n', n' < 16 → n' ≠ n → gI τ 106 (32 * s' + 16 * q + n') = gI σ 106 (32 * s' + 16 * q + n')) ∧
  (∀ s', s' < 2 → ∀ n', n' < 16 → n' ≠ n → gI τ 107 (16 * s' + n') = gI σ 107 (16 * s' + n'))
theorem LSx.trans {σ τ υ : St} {n : Nat} (h : LSx σ τ n) (h2 : LSx τ υ n) : LSx σ υ n :=
  ⟨fun s' a p b n' c d => (h2.1 s' a p b n' c d).trans (h.1 s' a p b n' c d), fun s' a p b n' c d => (h2.2.1 s' a p b n' c d).trans (h.2.1 s' a p b n' c d), fun s' a n' c d => (h2.2.2 s' a n' c d).trans (h.2.2 s' a n' c d)⟩
theorem LSx.refl (σ : St) (n : Nat) : LSx σ σ n := ⟨fun _ _ _ _ _ _ _ => rfl, fun _ _ _ _ _ _ _ => rfl, fun _ _ _ _ _ => rfl⟩
theorem LSo.x {σ τ : St} {s n : Nat} (h : LSo σ τ s n) : LSx σ τ n := ⟨fun s' a p b n' c d => h.1 s' a p b n' c (Or.inr d), fun s' a p b n' c d => h.2.1 s' a p b n' c (Or.inr d), fun s' a n' c d => h.2.2 s' a n' c (Or.inr d)⟩
theorem LQ_o {σ τ : St} {G : GV} {m : MT} {T : TT} {Y s s2 n t : Nat} (h : LQ σ G m T Y s n t) (o : LSo σ τ s2 n) (hs : s < 2) (hn : n < 16) (hne : s ≠ s2) : LQ τ G m T Y s n t :=
  ⟨fun p hp => (o.1 s hs p hp n hn (Or.inl hne)).trans (h.1 p hp), fun q hq => (o.2.1 s hs q hq n hn (Or.inl hne)).trans (h.2.1 q hq), (o.2.2 s hs n hn (Or.inl hne)).trans h.2.2⟩
theorem LQ_x {σ τ : St} {G : GV} {m : MT} {T : TT} {Y s n n2 t : Nat} (h : LQ σ G m T Y s n t) (o : LSx σ τ n2) (hs : s < 2) (hn : n < 16) (hne : n ≠ n2) : LQ τ G m T Y s n t :=
  ⟨fun p hp => (o.1 s hs p hp n hn hne).trans (h.1 p hp), fun q hq => (o.2.1 s hs q hq n hn hne).trans (h.2.1 q hq), (o.2.2 s hs n hn hne).trans h.2.2⟩
theorem lays_s {σ : St} {G : GV} {K : KT} {y n : Nat} {ta : Nat → Int} {w q : Int32} {K3 : Int32 → Int32 → Int32 → Int32 → St → Prop} {post : St → Prop} (C : Cx1 σ G K y ta) (hn : n < 16)
    (hk : ∀ υ, Eqx [105, 106, 107] σ υ → LSx σ υ n → (∀ s, s < 2 → ta s ≠ -1 → LQ υ G K.1 (kT K) (40 + y) s n (ta s).toNat) → K3 (II y) w q (II ((n : Int) + 1)) υ) : ∃ f, wbX12_lays_303 K3 post f (II y) w q (II n) (II 0) σ := by
  have key := up (P := fun f i => ∀ υ : St, Eqx [105, 106, 107] σ υ → LSx σ υ n → (∀ s, s < i → ta s ≠ -1 → LQ υ G K.1 (kT K) (40 + y) s n (ta s).toNat) → wbX12_lays_303 K3 post f (II y) w q (II n) (II i) υ) 2 ?_ ?_ 0 (by omega)
  · obtain ⟨f, hf⟩ := key
    exact ⟨f, hf σ (Eqx.refl _ _) (LSx.refl _ _) (fun s hs => absurd hs (by omega))⟩
  · intro f υ uE uX uL
    simp (disch := omega) only [wbX12_lays_303, I_lit, I_le, fe, I_add]
    exact ⟨fun _ => hk υ uE uX uL, fun z => absurd (by omega) z⟩
  · intro f i hi ih υ uE uX uL
    have C2 : Cx1 υ G K y ta := Cx1_eq C (Eqx.mono uE (by simp))
    obtain ⟨⟨cM, cW, cN, cR⟩, cG, cB, c104, cta, cy⟩ := C2
    have t1 := cta i hi
    have w4 := cW.2.2.2.2.1
    have w6 := cW.2.2.2.2.2.2.1
    simp (disch := omega) only [wbX12_lays_303, I_lit, I_le, fe, I_add, I_in, true_and, I_cl, Int.toNat_natCast, c104 i hi, I_neg, I_eq]
    refine ⟨fun z => absurd z (by omega), fun _ => ⟨fun c => ?_, fun c => ?_⟩⟩
    · refine ih υ uE uX (fun s hs hne => ?_)
      by_cases e : s = i
      · subst e; exact absurd c hne
      · exact uL s (by omega) hne
    · have n1 := cN (ta i).toNat (by omega)
      refine laysOf_ok (t := (ta i).toNat) cG cM w6 (by rw [c104 i hi]; congr 1; omega) (by omega) n1.1 n1.2.1 ⟨n1.2.2.1, n1.2.2.2.1⟩ n1.2.2.2.2 hi hn cy ?_
      intro τ tE tL tO
      refine ih τ (Eqx.trans uE tE) (uX.trans tO.x) (fun s hs hne => ?_)
      by_cases e : s = i
      · subst e; exact tL
      · exact LQ_o (uL s (by omega) hne) tO (by omega) hn e
theorem lays_m {σ : St} {G : GV} {K : KT} {y n : Nat} {ta : Nat → Int} {K3 : Int32 → Int32 → Int32 → Int32 → St → Prop} {post : St → Prop} (C : Cx1 σ G K y ta) (hn : n < kn K) (hw : -1 ≤ kw K ∧ kw K < 8) (h0 : gI σ 111 n = II 0)
    (hk : ∀ υ, Eqx [105, 106, 107, 111, 112] σ υ → LSx σ υ n → (∀ q, q = 111 ∨ q = 112 → ∀ n', n' ≠ n → gI υ q n' = gI σ q n') → gI υ 111 n = II (snd K G (40 + y) n) → gI υ 112 n = II (flm K.1 (kw K) y n) → (∀ s, s < 2 → ta s ≠ -1 → LQ υ G K.1 (kT K) (40 + y) s n (ta s).toNat) → K3 (II y) (II (kw K)) (II (if kq K then 1 else 0)) (II ((n : Int) + 1)) υ) :
    ∃ f, wbX12_lays_210 K3 post f (II y) (II (kw K)) (II (if kq K then 1 else 0)) (II n) (II 0) σ := by
  have w1 := C.1.2.1.2.1
  have kn16 : kn K ≤ 16 := by unfold kn; omega
  have kne : K.1 1 = (kn K : Int) := by unfold kn; omega
  have tail : ∀ υ : St, Eqx [111] σ υ → (∀ n', n' ≠ n → gI υ 111 n' = gI σ 111 n') → gI υ 111 n = II (snd K G (40 + y) n) → wbX12_lays_285 K3 post (II y) (II (kw K)) (II (if kq K then 1 else 0)) (II n) υ := by
    intro υ uE u0 u1
    have C2 : Cx1 υ G K y ta := Cx1_eq C (Eqx.mono uE (by simp))
    unfold wbX12_lays_285
    refine filmOf_ok C2.1.1 C2.1.2.1.2.2.2.1 C2.1.2.1.2.2.2.2.2.2.2.2.2.2.2.1 (by omega) (by have := C2.2.2.2.2.2; omega) hw ?_
    simp (disch := omega) only [I_in, true_and, fe, I_cl, Int.toNat_natCast]
    refine lays_s (Cx1_eq C (Eqx_tI (Eqx.mono uE (by simp)) (by simp))) (by omega) ?_
    intro τ tE tX tL
    refine hk τ ?_ ?_ ?_ ?_ ?_ tL
    · exact Eqx.trans (Eqx_tI (Eqx.mono uE (by simp)) (by simp)) (Eqx.mono tE (by simp))
    · refine LSx.trans ⟨fun s' a p b n' c d => ?_, fun s' a q b n' c d => ?_, fun s' a n' c d => ?_⟩ tX
      · rw [rI2 (by omega), Eqx_gI uE (by simp)]
      · rw [rI2 (by omega), Eqx_gI uE (by simp)]
      · rw [rI2 (by omega), Eqx_gI uE (by simp)]
    · intro q hq n' hne
      rw [Eqx_gI tE (by simp; omega)]
      rcases hq with rfl | rfl
      · rw [rI2 (by omega), u0 n' hne]
      · rw [rI3 hne, Eqx_gI uE (by simp)]
    · rw [Eqx_gI tE (by simp), rI2 (by omega), u1]
    · rw [Eqx_gI tE (by simp), rI1]
  by_cases hq : kq K = true
  · refine ⟨1, ?_⟩
    have e1 : gI σ 76 1 = II (K.1 1) := C.1.1 1
    have hs : snd K G (40 + y) n = 0 := by unfold snd; rw [if_pos hq]
    rw [if_pos hq] at *
    simp (disch := omega) only [wbX12_lays_210, I_lit, I_in, true_and, I_cl, Int.reduceToNat, e1, I_le, I_eq]
    have tt := tail σ (Eqx.refl _ _) (fun _ _ => rfl) (by rw [h0, hs])
    exact ⟨fun _ => tt, fun _ => ⟨fun _ => tt, fun z => absurd z (by omega)⟩⟩
  · rw [if_neg hq] at *
    have hs : snd K G (40 + y) n = sm (fun i => if i ≠ n ∧ kE K i n = true then gt G (40 + y - 1) 6 i else 0) (kn K) := by unfold snd; rw [if_neg hq]
    have key := up (P := fun f i => ∀ υ : St, Eqx [111] σ υ → (∀ n', n' ≠ n → gI υ 111 n' = gI σ 111 n') → gI υ 111 n = II (sm (fun i => if i ≠ n ∧ kE K i n = true then gt G (40 + y - 1) 6 i else 0) i) → wbX12_lays_210 K3 post f (II y) (II (kw K)) (II 0) (II n) (II i) υ) (kn K) ?_ ?_ 0 (by omega)
    · obtain ⟨f, hf⟩ := key
      exact ⟨f, hf σ (Eqx.refl _ _) (fun _ _ => rfl) h0⟩
    · intro f υ uE u0 u1
      have e1 : gI υ 76 1 = II (K.1 1) := by rw [Eqx_gI uE (by simp)]; exact C.1.1 1
      simp (disch := omega) only [wbX12_lays_210, I_lit, I_in, true_and, I_cl, Int.reduceToNat, e1, I_le, I_eq]
      exact ⟨fun _ => tail υ uE u0 (by rw [u1, hs]), fun z => absurd (by omega) z⟩
    · intro f i hi ih υ uE u0 u1
      have C2 : Cx1 υ G K y ta := Cx1_eq C (Eqx.mono uE (by simp))
      have e1 : gI υ 76 1 = II (K.1 1) := C2.1.1 1
      obtain ⟨en, en1, en2, -⟩ := C2.1.2.2.2
      have step : ∀ v : Int, v = (if i ≠ n ∧ kE K i n = true then gt G (40 + y - 1) 6 i else 0) → ∀ υ', υ' = sI υ 111 n (II (sm (fun i => if i ≠ n ∧ kE K i n = true then gt G (40 + y - 1) 6 i else 0) i + v)) → wbX12_lays_210 K3 post f (II y) (II (kw K)) (II 0) (II n) (II ((i : Int) + 1)) υ' := by
        intro v hv υ' e
        subst e; subst hv
        refine ih _ (Eqx_tI uE (by simp)) (fun n' hne => ?_) rI1
        rw [rI3 hne, u0 n' hne]
      simp (disch := omega) only [wbX12_lays_210, I_lit, I_in, true_and, I_cl, Int.reduceToNat, e1, I_le, I_eq, fe, I_add, I_sub, Int.toNat_natCast, u1]
      refine ⟨fun z => absurd z (by omega), fun _ => ⟨fun z => absurd trivial z, fun _ => ⟨fun c => ?_, fun c => ?_⟩⟩⟩
      · exact step 0 (by rw [if_neg (by omega)]) _ rfl
      · refine en1 i hi υ _ ?_
        refine en1 n hn υ _ ?_
        refine ⟨fun d => ?_, fun d => ?_⟩
        · refine step 0 (by rw [if_neg]; intro z; exact d ((en2 i hi n hn).mpr z.2)) _ rfl
        · refine all_ok C2.2.1 (by omega) (by have := C2.2.2.2.2.2; omega) ?_
          rw [if_neg (by omega), I_add]
          refine step _ ?_ _ rfl
          rw [if_pos ⟨by omega, (en2 i hi n hn).mp d⟩]
          congr 1; omega
