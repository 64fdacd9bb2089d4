/-! taste: signs and words -/
theorem sO_b : ∀ k, k ≤ 38 → sO k ≤ 4 := by decide
theorem tO_b : ∀ k, k < 36 → tO k < 302 := by decide
theorem sg_inj0 : ∀ k, k ≤ 38 → ∀ k0, k0 < 36 → 22 ≤ k0 → (sO k = 3 ∧ tO k = tO k0) → k = k0 := by decide
theorem sg_inj (k : Nat) (h : k ≤ 38) (k0 : Nat) (h1 : 22 ≤ k0) (h2 : k0 < 36) (h3 : sO k = 3 ∧ tO k = tO k0) : k = k0 := sg_inj0 k h k0 h2 h1 h3
theorem sg_one0 : ∀ k0, k0 < 36 → 22 ≤ k0 → sO k0 = 3 := by decide
theorem sg_one (k0 : Nat) (h1 : 22 ≤ k0) (h2 : k0 < 36) : sO k0 = 3 := sg_one0 k0 h2 h1
theorem wd_inj : ∀ k, k ≤ 38 → ∀ k0, k0 < 22 → (sO k = 1 ∧ tO k = tO k0) → k = k0 := by decide
theorem wd_one : ∀ k0, k0 < 22 → sO k0 = 1 := by decide
theorem sO_36 : ∀ k, k ≤ 38 → (sO k = 3 ∨ sO k = 1) → k < 36 := by decide
theorem isSign_ok {υ : St} {K V S E : Nat → Nat} {p : Nat} {post : Int32 → St → Prop} (k0 : Nat) (h : TA υ K V S E p) (hk : K p ≤ 38) (h1 : 22 ≤ k0) (h2 : k0 < 36) (hy : K p = k0 → post (II 1) υ) (hn : K p ≠ k0 → post (II 0) υ) : wpX12_isSign (II (tO k0 : Nat)) υ post := by
  have a := sO_b (K p) hk
  have b := tO_b k0 h2
  have e1 := h.1
  unfold wpX12_isSign
  rw [e1, show (3 : Int32) = II 3 from rfl, I_eq (by omega)]
  refine ⟨fun z => hn (fun e => z (by rw [e, sg_one k0 h1 h2]; rfl)), fun z => ?_⟩
  have l := sO_36 (K p) hk (Or.inl (by omega))
  have c := tO_b (K p) l
  rw [h.2.1 l, I_eq (by omega)]
  exact ⟨fun y => hn (fun e => y (by rw [e])), fun y => hy (sg_inj (K p) hk k0 h1 h2 ⟨by omega, by omega⟩)⟩
theorem isWord_ok {υ : St} {K V S E : Nat → Nat} {p : Nat} {post : Int32 → St → Prop} (k0 : Nat) (h : TA υ K V S E p) (hk : K p ≤ 38) (h2 : k0 < 22) (hy : K p = k0 → post (II 1) υ) (hn : K p ≠ k0 → post (II 0) υ) : wpX12_isWord (II (tO k0 : Nat)) υ post := by
  have a := sO_b (K p) hk
  have b := tO_b k0 (by omega)
  have e1 := h.1
  unfold wpX12_isWord
  rw [e1, show (1 : Int32) = II 1 from rfl, I_eq (by omega)]
  refine ⟨fun z => hn (fun e => z (by rw [e, wd_one k0 h2]; rfl)), fun z => ?_⟩
  have l := sO_36 (K p) hk (Or.inr (by omega))
  have c := tO_b (K p) l
  rw [h.2.1 l, I_eq (by omega)]
  exact ⟨fun y => hn (fun e => y (by rw [e])), fun y => hy (wd_inj (K p) hk k0 h2 ⟨by omega, by omega⟩)⟩
theorem RA_TA {σ υ : St} {K V S E : Nat → Nat} {st p o : Nat} {fr : List (Nat × Int)} {ws L : List (Nat × Nat)} (h : RA σ υ K V S E st p fr ws o L) : TA υ K V S E p := h.2.2.2.2.2.2.2.2.2.2.2.2
def onK (k : Nat) : Nat := if k = 18 then 406 else if k = 17 then 407 else tO k
theorem mul_r : ∀ k, isMul k = true → onK k < 500 ∧ 4 ≤ rk (onK k) ∧ ro k = (onK k, 0) := by
  intro k hk
  have : k = 30 ∨ k = 31 := by unfold isMul at hk; simpa using hk
  rcases this with rfl | rfl <;> decide
theorem add_r : ∀ k, isAdd k = true → onK k < 500 ∧ 3 ≤ rk (onK k) ∧ rk (onK k) < 4 ∧ ro k = (onK k, 0) := by
  intro k hk
  have : k = 28 ∨ k = 29 := by unfold isAdd at hk; simpa using hk
  rcases this with rfl | rfl <;> decide
theorem and_r : ∀ k, isAnd k = true → onK k < 500 ∧ 2 ≤ rk (onK k) ∧ ro k = (onK k, 0) := by
  intro k hk
  have : k = 18 := by unfold isAnd at hk; simpa using hk
  rw [this]; decide
theorem or_r : ∀ k, isOr k = true → onK k < 500 ∧ 1 ≤ rk (onK k) ∧ rk (onK k) < 2 ∧ ro k = (onK k, 0) := by
  intro k hk
  have : k = 17 := by unfold isOr at hk; simpa using hk
  rw [this]; decide
/-- an arithmetic sign in state 2 -/
theorem arith_ok {σ : St} {K V S E : Nat → Nat} {N : Nat} {post : Int32 → St → Prop} {r o : Nat} {fr : List (Nat × Int)} {x : Nat × Int} {op : Nat → Bool} (hX : NX σ K V S E N) (hop : ∀ k, op k = true → (k = 28 ∨ k = 29 ∨ k = 30 ∨ k = 31) ∧ rk (tO k) = r) (hfl : fr.length ≤ 30) : OtS σ K V S E N post op onK r 1 2 (fr ++ [x]) o := by
  intro p wb pd L hp ho hs hk hl1 hl2 hL hG
  obtain ⟨hk4, hrk⟩ := hop _ ho
  obtain ⟨f, hf⟩ := hG
  have eon : onK (K p) = tO (K p) := by unfold onK; rw [if_neg (by omega), if_neg (by omega)]
  rw [eon] at hf
  rw [List.length_append, List.length_singleton] at hl1
  refine go_ok (by omega) f (fun z => by omega) (fun z => by omega) (fun _ υ h => ?_) (fun z => by omega)
  have t := RA_TA h
  have s3 : sO (K p) = 3 := sg_one (K p) (by omega) (by omega)
  have tb := tO_b (K p) (by omega)
  have e17 : gI υ 75 17 = II 3 := by rw [t.1, s3]; rfl
  have e18 := t.2.1 (by omega)
  have c49 : wbX12_goesOn_49 (fun τ => wbX12_taste_86 post f τ) υ := by
    unfold wbX12_goesOn_49
    rw [e18]
    refine waits_ok hX hp (by omega) (by rw [List.length_append, List.length_singleton]; omega) (by rw [hrk]; exact hs) (by rw [hrk]; exact hk) (by rw [List.length_append]; omega) (by omega) h ?_
    intro τ hτ
    simp only [fe]
    exact hf _ (RA_st 1 hτ)
  unfold wpX12_goesOn
  refine rtop_ok h (by omega) ?_
  simp (disch := omega) only [e17, e18, I_lit, I_eq]
  have hv : tO (K p) = 43 ∨ tO (K p) = 45 ∨ tO (K p) = 42 ∨ tO (K p) = 47 := by
    rcases hk4 with e | e | e | e <;> rw [e] <;> decide
  refine ⟨fun z => absurd trivial z, fun _ => ⟨fun _ => c49, fun z1 => ⟨fun _ => c49, fun z2 => ⟨fun _ => c49, fun z3 => ⟨fun z4 => by omega, fun _ => c49⟩⟩⟩⟩⟩
/-- no arithmetic sign in state 2 -/
theorem goes65 {σ : St} {K V S E : Nat → Nat} {N : Nat} {post : Int32 → St → Prop} {p o : Nat} {fr : List (Nat × Int)} {x : Nat × Int} {ws L : List (Nat × Nat)} (n : Nat) (hT : Tk K N) (hp : p ≤ N) (hfl : fr.length ≤ 30) (h1 : isMul (K p) = false) (h2 : isAdd (K p) = false)
    (h : ∀ υ, RA σ υ K V S E 2 p (fr ++ [x]) ws o L → wbX12_goesOn_65 (fun τ => wbX12_taste_86 post n τ) (II (x.1 : Nat)) υ) : Gos σ K V S E post 2 p (fr ++ [x]) ws o L := by
  refine go_ok (by omega) n (fun z => by omega) (fun z => by omega) (fun _ υ hυ => ?_) (fun z => by omega)
  have k38 := Tk_le hT hp
  have a1 : K p ≠ 30 ∧ K p ≠ 31 := by unfold isMul at h1; simpa using h1
  have a2 : K p ≠ 28 ∧ K p ≠ 29 := by unfold isAdd at h2; simpa using h2
  have t := RA_TA hυ
  have sb := sO_b (K p) k38
  unfold wpX12_goesOn
  refine rtop_ok hυ (by omega) ?_
  have c65 := h υ hυ
  rw [t.1, show (3 : Int32) = II 3 from rfl, I_eq (by omega)]
  refine ⟨fun _ => c65, fun z => ?_⟩
  have l := sO_36 (K p) k38 (Or.inl (by omega))
  have tb := tO_b (K p) l
  have n43 : ∀ k0, 22 ≤ k0 → k0 < 36 → tO (K p) = tO k0 → K p = k0 := fun k0 b1 b2 e => sg_inj (K p) k38 k0 b1 b2 ⟨by omega, e⟩
  rw [t.2.1 l]
  simp (disch := omega) only [I_lit, I_eq]
  refine ⟨fun y => absurd (n43 28 (by omega) (by omega) (by show tO (K p) = 43; omega)) a2.1, fun _ => ⟨fun y => absurd (n43 29 (by omega) (by omega) (by show tO (K p) = 45; omega)) a2.2, fun _ => ⟨fun y => absurd (n43 30 (by omega) (by omega) (by show tO (K p) = 42; omega)) a1.1, fun _ => ⟨fun _ => c65, fun y => absurd (n43 31 (by omega) (by omega) (by show tO (K p) = 47; omega)) a1.2⟩⟩⟩⟩
