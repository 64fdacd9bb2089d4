/-! taste: the reference's machine -/
theorem gdA {α : Type} (l : List α) (a d : α) (j : Nat) (h : j < l.length) : (l ++ [a]).getD j d = l.getD j d := by
  rw [List.getD_eq_getElem?_getD, List.getD_eq_getElem?_getD, List.getElem?_append_left h]
theorem gdB {α : Type} (l : List α) (a d : α) : (l ++ [a]).getD l.length d = a := by
  rw [List.getD_eq_getElem?_getD, List.getElem?_append_right (Nat.le_refl _)]; simp
def tOl : List Nat := [2, 9, 10, 11, 12, 13, 14, 15, 16, 17, 18, 19, 20, 21, 0, 1, 3, 4, 5, 6, 7, 8, 60, 300, 62, 301, 61, 35, 43, 45, 42, 47, 40, 41, 44, 59]
def tO (k : Nat) : Nat := tOl.getD k 0
def sO (k : Nat) : Nat := if k < 22 then 1 else if k < 36 then 3 else if k = 36 then 2 else if k = 37 then 0 else 4
/-- the token at which the reference stands -/
def TA (υ : St) (K V S E : Nat → Nat) (p : Nat) : Prop := gI υ 75 17 = II (sO (K p) : Nat) ∧ (K p < 36 → gI υ 75 18 = II (tO (K p) : Nat)) ∧ (K p = 36 → ∃ r : Nat, r < 1000000 ∧ gI υ 75 18 = II r ∧ V p = min r 10000) ∧ gI υ 75 16 = II (S p) ∧ gI υ 75 15 = II (E p)
def FrA (υ : St) (fr : List (Nat × Int)) : Prop := ∀ i, i < fr.length → gI υ 87 i = II ((fr.getD i (0, 0)).1 : Nat) ∧ ((fr.getD i (0, 0)).1 = 8 ∨ (fr.getD i (0, 0)).1 = 9 → gI υ 88 (i + 1) = II (fr.getD i (0, 0)).2) ∧ ((fr.getD i (0, 0)).1 = 5 → gI υ 89 (i + 1) = II (fr.getD i (0, 0)).2)
def PrA (υ : St) (q1 q2 : Nat) (l : List (Nat × Nat)) : Prop := ∀ i, i < l.length → gI υ q1 i = II ((l.getD i (0, 0)).1 : Nat) ∧ gI υ q2 i = II ((l.getD i (0, 0)).2 : Nat)
def ML : List Nat := [75, 87, 88, 89, 90, 91, 94, 95]
def RA (σ υ : St) (K V S E : Nat → Nat) (st p : Nat) (fr : List (Nat × Int)) (ws : List (Nat × Nat)) (o : Nat) (L : List (Nat × Nat)) : Prop :=
  Eqx ML σ υ ∧ (∀ f, f < 15 ∨ 30 ≤ f ∧ f ≤ 32 → gI υ 75 f = gI σ 75 f) ∧ gI υ 75 19 = II 0 ∧ gI υ 75 20 = II (-1) ∧ gI υ 75 21 = II o ∧ gI υ 75 22 = II (fr.length : Nat) ∧ gI υ 75 26 = II (ws.length : Nat) ∧ gI υ 75 29 = II st ∧ gI υ 75 35 = II (L.length : Nat) ∧ FrA υ fr ∧ PrA υ 90 91 ws ∧ PrA υ 94 95 L ∧ TA υ K V S E p
/-- a fault -/
def RF (σ υ : St) (S : Nat → Nat) (e : Nat × Nat) : Prop := Eqx ML σ υ ∧ (∀ f, f < 15 ∨ 30 ≤ f ∧ f ≤ 32 → gI υ 75 f = gI σ 75 f) ∧ gI υ 75 19 = II e.1 ∧ gI υ 75 20 = II (S e.2) ∧ 1 ≤ e.1 ∧ e.1 ≤ 5
theorem PrA_eq {υ τ : St} {q1 q2 : Nat} {l : List (Nat × Nat)} (h : PrA υ q1 q2 l) (e1 : τ q1 = υ q1) (e2 : τ q2 = υ q2) : PrA τ q1 q2 l := fun i hi => by rw [gI_of e1, gI_of e2]; exact h i hi
theorem FrA_eq {υ τ : St} {l : List (Nat × Int)} (h : FrA υ l) (e : ∀ q, 87 ≤ q → q ≤ 89 → τ q = υ q) : FrA τ l := fun i hi => by rw [gI_of (e 87 (by omega) (by omega)), gI_of (e 88 (by omega) (by omega)), gI_of (e 89 (by omega) (by omega))]; exact h i hi
theorem errs_ok {σ υ : St} {K V S E : Nat → Nat} {st p o f : Nat} {fr : List (Nat × Int)} {ws L : List (Nat × Nat)} {post : St → Prop} (h : RA σ υ K V S E st p fr ws o L) (hf : 1 ≤ f ∧ f ≤ 5) (hq : ∀ τ, RF σ τ S (f, p) → post τ) : wpX12_errs (II f) υ post := by
  obtain ⟨h1, h2, h3, h4, h5, h6, h7, h8, h9, h10, h11, h12, h13⟩ := h
  have e16 : gI (sI υ 75 19 (II f)) 75 16 = II (S p) := by rw [rI3 (by omega)]; exact h13.2.2.2.1
  simp (disch := omega) only [wpX12_errs, h3, I_lit, fe, e16]
  refine ⟨fun z => absurd trivial z, fun _ => hq _ ⟨Eqx_tI (Eqx_tI h1 (by simp [ML])) (by simp [ML]), fun g hg => ?_, ?_, ?_, hf⟩⟩
  · rw [rI3 (by omega), rI3 (by omega)]; exact h2 g hg
  · rw [rI3 (by omega), rI1]
  · rw [rI1]
theorem emits_ok {σ υ : St} {K V S E : Nat → Nat} {st p o a b : Nat} {fr : List (Nat × Int)} {ws L : List (Nat × Nat)} {post : St → Prop} (h : RA σ υ K V S E st p fr ws o L) (hL : L.length < 400) (hq : ∀ τ, RA σ τ K V S E st p fr ws o (L ++ [(a, b)]) → post τ) : wpX12_emits (II a) (II b) υ post := by
  obtain ⟨h1, h2, h3, h4, h5, h6, h7, h8, h9, h10, h11, h12, h13⟩ := h
  have e1 : gI (sI υ 94 L.length (II a)) 75 35 = II (L.length : Nat) := by rw [rI2 (by omega)]; exact h9
  have e2 : gI (sI (sI υ 94 L.length (II a)) 95 L.length (II b)) 75 35 = II (L.length : Nat) := by rw [rI2 (by omega)]; exact e1
  simp (disch := omega) only [wpX12_emits, h9, I_lit, fe, I_in, true_and, I_cl, Int.toNat_natCast, e1, e2, I_add]
  have g : ∀ f, f ≠ 35 → gI (sI (sI (sI υ 94 L.length (II a)) 95 L.length (II b)) 75 35 (II ((L.length : Int) + 1))) 75 f = gI υ 75 f := fun f hf => by rw [rI3 hf, rI2 (by omega), rI2 (by omega)]
  have ge : ∀ q, q ≠ 94 → q ≠ 95 → q ≠ 75 → (sI (sI (sI υ 94 L.length (II a)) 95 L.length (II b)) 75 35 (II ((L.length : Int) + 1))) q = υ q := fun q a1 a2 a3 => (Eqx_tI (Eqx_tI (Eqx_tI (Eqx.refl [94, 95, 75] υ) (by simp)) (by simp)) (by simp) q (by simp; omega)).symm
  refine hq _ ⟨Eqx_tI (Eqx_tI (Eqx_tI h1 (by simp [ML])) (by simp [ML])) (by simp [ML]), fun f hf => ?_, ?_, ?_, ?_, ?_, ?_, ?_, ?_, FrA_eq h10 (fun q a1 a2 => ge q (by omega) (by omega) (by omega)), PrA_eq h11 (ge 90 (by omega) (by omega) (by omega)) (ge 91 (by omega) (by omega) (by omega)), fun i hi => ?_, ?_⟩
  · rw [g f (by omega)]; exact h2 f hf
  · rw [g 19 (by omega)]; exact h3
  · rw [g 20 (by omega)]; exact h4
  · rw [g 21 (by omega)]; exact h5
  · rw [g 22 (by omega)]; exact h6
  · rw [g 26 (by omega)]; exact h7
  · rw [g 29 (by omega)]; exact h8
  · rw [rI1, List.length_append, List.length_singleton]; rfl
  · rw [List.length_append, List.length_singleton] at hi
    by_cases e : i = L.length
    · rw [e, gdB]
      exact ⟨by rw [rI2 (by omega), rI2 (by omega), rI1], by rw [rI2 (by omega), rI1]⟩
    · rw [gdA _ _ _ _ (by omega)]
      have := h12 i (by omega)
      exact ⟨by rw [rI2 (by omega), rI2 (by omega), rI3 e]; exact this.1, by rw [rI2 (by omega), rI3 e, rI2 (by omega)]; exact this.2⟩
  · obtain ⟨t1, t2, t3, t4, t5⟩ := h13
    refine ⟨by rw [g 17 (by omega)]; exact t1, fun z => by rw [g 18 (by omega)]; exact t2 z, fun z => by rw [g 18 (by omega)]; exact t3 z, by rw [g 16 (by omega)]; exact t4, by rw [g 15 (by omega)]; exact t5⟩
/-- fields of the machine put anew -/
theorem RA_st {σ υ : St} {K V S E : Nat → Nat} {st p o : Nat} {fr : List (Nat × Int)} {ws L : List (Nat × Nat)} (st' : Nat) (h : RA σ υ K V S E st p fr ws o L) : RA σ (sI υ 75 29 (II st')) K V S E st' p fr ws o L := by
  obtain ⟨h1, h2, h3, h4, h5, h6, h7, h8, h9, h10, h11, h12, t1, t2, t3, t4, t5⟩ := h
  have ge : ∀ q, q ≠ 75 → (sI υ 75 29 (II st')) q = υ q := fun q a => (Eqx_tI (Eqx.refl [75] υ) (by simp) q (by simp; omega)).symm
  refine ⟨Eqx_tI h1 (by simp [ML]), fun f hf => by rw [rI3 (by omega)]; exact h2 f hf, by rw [rI3 (by omega)]; exact h3, by rw [rI3 (by omega)]; exact h4, by rw [rI3 (by omega)]; exact h5, by rw [rI3 (by omega)]; exact h6, by rw [rI3 (by omega)]; exact h7, rI1, by rw [rI3 (by omega)]; exact h9, FrA_eq h10 (fun q a b => ge q (by omega)), PrA_eq h11 (ge 90 (by omega)) (ge 91 (by omega)), PrA_eq h12 (ge 94 (by omega)) (ge 95 (by omega)), by rw [rI3 (by omega)]; exact t1, fun z => by rw [rI3 (by omega)]; exact t2 z, fun z => by rw [rI3 (by omega)]; exact t3 z, by rw [rI3 (by omega)]; exact t4, by rw [rI3 (by omega)]; exact t5⟩
theorem RA_open {σ υ : St} {K V S E : Nat → Nat} {st p o : Nat} {fr : List (Nat × Int)} {ws L : List (Nat × Nat)} (o' : Nat) (h : RA σ υ K V S E st p fr ws o L) : RA σ (sI υ 75 21 (II o')) K V S E st p fr ws o' L := by
  obtain ⟨h1, h2, h3, h4, h5, h6, h7, h8, h9, h10, h11, h12, t1, t2, t3, t4, t5⟩ := h
  have ge : ∀ q, q ≠ 75 → (sI υ 75 21 (II o')) q = υ q := fun q a => (Eqx_tI (Eqx.refl [75] υ) (by simp) q (by simp; omega)).symm
  refine ⟨Eqx_tI h1 (by simp [ML]), fun f hf => by rw [rI3 (by omega)]; exact h2 f hf, by rw [rI3 (by omega)]; exact h3, by rw [rI3 (by omega)]; exact h4, rI1, by rw [rI3 (by omega)]; exact h6, by rw [rI3 (by omega)]; exact h7, by rw [rI3 (by omega)]; exact h8, by rw [rI3 (by omega)]; exact h9, FrA_eq h10 (fun q a b => ge q (by omega)), PrA_eq h11 (ge 90 (by omega)) (ge 91 (by omega)), PrA_eq h12 (ge 94 (by omega)) (ge 95 (by omega)), by rw [rI3 (by omega)]; exact t1, fun z => by rw [rI3 (by omega)]; exact t2 z, fun z => by rw [rI3 (by omega)]; exact t3 z, by rw [rI3 (by omega)]; exact t4, by rw [rI3 (by omega)]; exact t5⟩
/-- fewer frames -/
theorem RA_pop {σ υ : St} {K V S E : Nat → Nat} {st p o : Nat} {fr : List (Nat × Int)} {ws L : List (Nat × Nat)} {x : Nat × Int} (h : RA σ υ K V S E st p (fr ++ [x]) ws o L) : RA σ (sI υ 75 22 (II (fr.length : Nat))) K V S E st p fr ws o L := by
  obtain ⟨h1, h2, h3, h4, h5, h6, h7, h8, h9, h10, h11, h12, t1, t2, t3, t4, t5⟩ := h
  have ge : ∀ q, q ≠ 75 → (sI υ 75 22 (II (fr.length : Nat))) q = υ q := fun q a => (Eqx_tI (Eqx.refl [75] υ) (by simp) q (by simp; omega)).symm
  refine ⟨Eqx_tI h1 (by simp [ML]), fun f hf => by rw [rI3 (by omega)]; exact h2 f hf, by rw [rI3 (by omega)]; exact h3, by rw [rI3 (by omega)]; exact h4, by rw [rI3 (by omega)]; exact h5, rI1, by rw [rI3 (by omega)]; exact h7, by rw [rI3 (by omega)]; exact h8, by rw [rI3 (by omega)]; exact h9, FrA_eq (fun i hi => ?_) (fun q a b => ge q (by omega)), PrA_eq h11 (ge 90 (by omega)) (ge 91 (by omega)), PrA_eq h12 (ge 94 (by omega)) (ge 95 (by omega)), by rw [rI3 (by omega)]; exact t1, fun z => by rw [rI3 (by omega)]; exact t2 z, fun z => by rw [rI3 (by omega)]; exact t3 z, by rw [rI3 (by omega)]; exact t4, by rw [rI3 (by omega)]; exact t5⟩
  have := h10 i (by rw [List.length_append, List.length_singleton]; omega)
  rw [gdA _ _ _ _ hi] at this
  exact this
theorem rtop_ok {σ υ : St} {K V S E : Nat → Nat} {st p o : Nat} {fr : List (Nat × Int)} {ws L : List (Nat × Nat)} {x : Nat × Int} {post : Int32 → St → Prop} (h : RA σ υ K V S E st p (fr ++ [x]) ws o L) (hn : fr.length < 40) (hq : post (II (x.1 : Nat)) υ) : wpX12_top υ post := by
  have h6 := h.2.2.2.2.2.1
  have h10 := h.2.2.2.2.2.2.2.2.2.1 fr.length (by rw [List.length_append, List.length_singleton]; omega)
  rw [List.length_append, List.length_singleton] at h6
  rw [gdB] at h10
  have j : (((fr.length + 1 : Nat) : Int) - 1).toNat = fr.length := by omega
  simp (disch := omega) only [wpX12_top, h6, I_lit, I_sub, I_in, true_and, I_cl, j, h10.1]
  exact hq
theorem push_ok {σ υ : St} {K V S E : Nat → Nat} {st p o a : Nat} {fr : List (Nat × Int)} {ws L : List (Nat × Nat)} {post : St → Prop} (h : RA σ υ K V S E st p fr ws o L) (hn : fr.length < 40) (ha : a ≠ 5 ∧ a ≠ 8 ∧ a ≠ 9) (hq : ∀ τ, (∀ d, RA σ τ K V S E st p (fr ++ [(a, d)]) ws o L) → post τ) : wpX12_opensFrame (II a) υ post := by
  obtain ⟨h1, h2, h3, h4, h5, h6, h7, h8, h9, h10, h11, h12, t1, t2, t3, t4, t5⟩ := h
  have e1 : gI (sI υ 87 fr.length (II a)) 75 22 = II (fr.length : Nat) := by rw [rI2 (by omega)]; exact h6
  simp (disch := omega) only [wpX12_opensFrame, h6, I_lit, fe, I_in, true_and, I_cl, Int.toNat_natCast, e1, I_add]
  have g : ∀ f, f ≠ 22 → gI (sI (sI υ 87 fr.length (II a)) 75 22 (II ((fr.length : Int) + 1))) 75 f = gI υ 75 f := fun f hf => by rw [rI3 hf, rI2 (by omega)]
  have ge : ∀ q, q ≠ 87 → q ≠ 75 → (sI (sI υ 87 fr.length (II a)) 75 22 (II ((fr.length : Int) + 1))) q = υ q := fun q a1 a2 => (Eqx_tI (Eqx_tI (Eqx.refl [87, 75] υ) (by simp)) (by simp) q (by simp; omega)).symm
  refine hq _ (fun d => ⟨Eqx_tI (Eqx_tI h1 (by simp [ML])) (by simp [ML]), fun f hf => by rw [g f (by omega)]; exact h2 f hf, by rw [g 19 (by omega)]; exact h3, by rw [g 20 (by omega)]; exact h4, by rw [g 21 (by omega)]; exact h5, by rw [rI1, List.length_append, List.length_singleton]; rfl, by rw [g 26 (by omega)]; exact h7, by rw [g 29 (by omega)]; exact h8, by rw [g 35 (by omega)]; exact h9, fun i hi => ?_, PrA_eq h11 (ge 90 (by omega) (by omega)) (ge 91 (by omega) (by omega)), PrA_eq h12 (ge 94 (by omega) (by omega)) (ge 95 (by omega) (by omega)), by rw [g 17 (by omega)]; exact t1, fun z => by rw [g 18 (by omega)]; exact t2 z, fun z => by rw [g 18 (by omega)]; exact t3 z, by rw [g 16 (by omega)]; exact t4, by rw [g 15 (by omega)]; exact t5⟩)
  rw [List.length_append, List.length_singleton] at hi
  rw [rI2 (by omega), gI_of (ge 88 (by omega) (by omega)), gI_of (ge 89 (by omega) (by omega))]
  by_cases e : i = fr.length
  · rw [e, rI1, gdB]
    exact ⟨rfl, fun z => z.elim (fun y => absurd y ha.2.1) (fun y => absurd y ha.2.2), fun z => absurd z ha.1⟩
  · rw [rI3 e, gdA _ _ _ _ (by omega)]; exact h10 i (by omega)
theorem push8_ok {σ υ : St} {K V S E : Nat → Nat} {st p o : Nat} {fr : List (Nat × Int)} {ws L : List (Nat × Nat)} {post : St → Prop} (h : RA σ υ K V S E st p fr ws o L) (hn : fr.length < 40) (hq : ∀ τ d, RA σ τ K V S E st p (fr ++ [(8, d)]) ws o L → post τ) : wpX12_opensFrame (II 8) υ post := by
  obtain ⟨h1, h2, h3, h4, h5, h6, h7, h8, h9, h10, h11, h12, t1, t2, t3, t4, t5⟩ := h
  have e1 : gI (sI υ 87 fr.length (II 8)) 75 22 = II (fr.length : Nat) := by rw [rI2 (by omega)]; exact h6
  simp (disch := omega) only [wpX12_opensFrame, h6, I_lit, fe, I_in, true_and, I_cl, Int.toNat_natCast, e1, I_add]
  have g : ∀ f, f ≠ 22 → gI (sI (sI υ 87 fr.length (II 8)) 75 22 (II ((fr.length : Int) + 1))) 75 f = gI υ 75 f := fun f hf => by rw [rI3 hf, rI2 (by omega)]
  have ge : ∀ q, q ≠ 87 → q ≠ 75 → (sI (sI υ 87 fr.length (II 8)) 75 22 (II ((fr.length : Int) + 1))) q = υ q := fun q a1 a2 => (Eqx_tI (Eqx_tI (Eqx.refl [87, 75] υ) (by simp)) (by simp) q (by simp; omega)).symm
  obtain ⟨d, -, -, ed⟩ := I_of (gI υ 88 (fr.length + 1))
  refine hq _ d (⟨Eqx_tI (Eqx_tI h1 (by simp [ML])) (by simp [ML]), fun f hf => by rw [g f (by omega)]; exact h2 f hf, by rw [g 19 (by omega)]; exact h3, by rw [g 20 (by omega)]; exact h4, by rw [g 21 (by omega)]; exact h5, by rw [rI1, List.length_append, List.length_singleton]; rfl, by rw [g 26 (by omega)]; exact h7, by rw [g 29 (by omega)]; exact h8, by rw [g 35 (by omega)]; exact h9, fun i hi => ?_, PrA_eq h11 (ge 90 (by omega) (by omega)) (ge 91 (by omega) (by omega)), PrA_eq h12 (ge 94 (by omega) (by omega)) (ge 95 (by omega) (by omega)), by rw [g 17 (by omega)]; exact t1, fun z => by rw [g 18 (by omega)]; exact t2 z, fun z => by rw [g 18 (by omega)]; exact t3 z, by rw [g 16 (by omega)]; exact t4, by rw [g 15 (by omega)]; exact t5⟩)
  rw [List.length_append, List.length_singleton] at hi
  rw [rI2 (by omega), gI_of (ge 88 (by omega) (by omega)), gI_of (ge 89 (by omega) (by omega))]
  by_cases e : i = fr.length
  · rw [e, rI1, gdB]
    exact ⟨rfl, fun _ => ed, fun z => absurd (show (8 : Nat) = 5 from z) (by decide)⟩
  · rw [rI3 e, gdA _ _ _ _ (by omega)]; exact h10 i (by omega)
