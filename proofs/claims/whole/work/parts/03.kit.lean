/-! reading behind writing -/
theorem gI_sI (σ : St) (q k q' k' : Nat) (v : Int32) : gI (sI σ q k v) q' k' = if q' = q ∧ k' = k then v else gI σ q' k' := by
  unfold gI sI va_up upd
  by_cases h : q' = q
  · subst h
    by_cases h2 : k' = k <;> simp [h2]
  · simp [h]
theorem gL_sI (σ : St) (q k q' k' : Nat) (v : Int32) : gL (sI σ q k v) q' k' = gL σ q' k' := by
  unfold gL sI va_up
  by_cases h : q' = q
  · subst h; simp
  · simp [h]
theorem gR_sI (σ : St) (q k q' k' : Nat) (v : Int32) : gR (sI σ q k v) q' k' = gR σ q' k' := by
  unfold gR sI va_up
  by_cases h : q' = q
  · subst h; simp
  · simp [h]
theorem gI_sL (σ : St) (q k q' k' : Nat) (v : Int64) : gI (sL σ q k v) q' k' = gI σ q' k' := by
  unfold gI sL va_up
  by_cases h : q' = q
  · subst h; simp
  · simp [h]
theorem gL_sL (σ : St) (q k q' k' : Nat) (v : Int64) : gL (sL σ q k v) q' k' = if q' = q ∧ k' = k then v else gL σ q' k' := by
  unfold gL sL va_up vp_updL
  by_cases h : q' = q
  · subst h
    by_cases h2 : k' = k <;> simp [h2]
  · simp [h]
theorem gR_sL (σ : St) (q k q' k' : Nat) (v : Int64) : gR (sL σ q k v) q' k' = gR σ q' k' := by
  unfold gR sL va_up
  by_cases h : q' = q
  · subst h; simp
  · simp [h]
theorem gI_sR (σ : St) (q k q' k' : Nat) (v : Option Nat) : gI (sR σ q k v) q' k' = gI σ q' k' := by
  unfold gI sR va_up
  by_cases h : q' = q
  · subst h; simp
  · simp [h]
theorem gL_sR (σ : St) (q k q' k' : Nat) (v : Option Nat) : gL (sR σ q k v) q' k' = gL σ q' k' := by
  unfold gL sR va_up
  by_cases h : q' = q
  · subst h; simp
  · simp [h]
theorem gR_sR (σ : St) (q k q' k' : Nat) (v : Option Nat) : gR (sR σ q k v) q' k' = if q' = q ∧ k' = k then v else gR σ q' k' := by
  unfold gR sR va_up
  by_cases h : q' = q
  · subst h
    by_cases h2 : k' = k <;> simp [h2]
  · simp [h]
theorem gI_sA (σ : St) (q q' k' : Nat) (f : Nat → Int32) : gI (sA σ q f) q' k' = if q' = q then f k' else gI σ q' k' := by
  unfold gI sA va_up
  by_cases h : q' = q
  · subst h; simp
  · simp [h]
theorem gL_sA (σ : St) (q q' k' : Nat) (f : Nat → Int32) : gL (sA σ q f) q' k' = gL σ q' k' := by
  unfold gL sA va_up
  by_cases h : q' = q
  · subst h; simp
  · simp [h]
theorem gR_sA (σ : St) (q q' k' : Nat) (f : Nat → Int32) : gR (sA σ q f) q' k' = gR σ q' k' := by
  unfold gR sA va_up
  by_cases h : q' = q
  · subst h; simp
  · simp [h]
theorem st1_gI (σ : St) (q k : Nat) : (σ q).1 k = gI σ q k := rfl
/-! cells that a write leaves -/
theorem ce_sI (σ : St) (q k q' : Nat) (v : Int32) (h : q' ≠ q) : sI σ q k v q' = σ q' := by unfold sI va_up; simp [h]
theorem ce_sL (σ : St) (q k q' : Nat) (v : Int64) (h : q' ≠ q) : sL σ q k v q' = σ q' := by unfold sL va_up; simp [h]
theorem ce_sR (σ : St) (q k q' : Nat) (v : Option Nat) (h : q' ≠ q) : sR σ q k v q' = σ q' := by unfold sR va_up; simp [h]
theorem ce_sA (σ : St) (q q' : Nat) (f : Nat → Int32) (h : q' ≠ q) : sA σ q f q' = σ q' := by unfold sA va_up; simp [h]
theorem gI_of {σ τ : St} {q : Nat} (h : σ q = τ q) (k : Nat) : gI σ q k = gI τ q k := by unfold gI; rw [h]
theorem gL_of {σ τ : St} {q : Nat} (h : σ q = τ q) (k : Nat) : gL σ q k = gL τ q k := by unfold gL; rw [h]
theorem gR_of {σ τ : St} {q : Nat} (h : σ q = τ q) (k : Nat) : gR σ q k = gR τ q k := by unfold gR; rw [h]
/-- the same cells but those of a list -/
def Eqx (L : List Nat) (σ τ : St) : Prop := ∀ q, q ∉ L → σ q = τ q
theorem Eqx.refl (L : List Nat) (σ : St) : Eqx L σ σ := fun _ _ => rfl
theorem Eqx.trans {L : List Nat} {σ τ υ : St} (h : Eqx L σ τ) (h2 : Eqx L τ υ) : Eqx L σ υ := fun q hq => (h q hq).trans (h2 q hq)
theorem Eqx.mono {L M : List Nat} {σ τ : St} (h : Eqx L σ τ) (hs : ∀ q ∈ L, q ∈ M) : Eqx M σ τ := fun q hq => h q (fun z => hq (hs q z))
theorem Eqx.sI {L : List Nat} {σ τ : St} {q k : Nat} {v : Int32} (h : Eqx L σ τ) (hq : q ∈ L) : Eqx L (sI σ q k v) τ := fun p hp => (ce_sI σ q k p v (fun e => hp (e ▸ hq))).trans (h p hp)
theorem Eqx.sL {L : List Nat} {σ τ : St} {q k : Nat} {v : Int64} (h : Eqx L σ τ) (hq : q ∈ L) : Eqx L (sL σ q k v) τ := fun p hp => (ce_sL σ q k p v (fun e => hp (e ▸ hq))).trans (h p hp)
theorem Eqx.sR {L : List Nat} {σ τ : St} {q k : Nat} {v : Option Nat} (h : Eqx L σ τ) (hq : q ∈ L) : Eqx L (sR σ q k v) τ := fun p hp => (ce_sR σ q k p v (fun e => hp (e ▸ hq))).trans (h p hp)
theorem Eqx.sA {L : List Nat} {σ τ : St} {q : Nat} {f : Nat → Int32} (h : Eqx L σ τ) (hq : q ∈ L) : Eqx L (sA σ q f) τ := fun p hp => (ce_sA σ q p f (fun e => hp (e ▸ hq))).trans (h p hp)
/-! ints -/
theorem i_lit (n : Nat) : (OfNat.ofNat n : Int32) = nI n := rfl
theorem i_in {n N : Nat} (h : n < N) (hN : N < 2 ^ 31) : vp_in (nI n) N := vp_in_nI h hN
theorem i_cl {n : Nat} (h : n < 2 ^ 31) : (nI n).toNatClampNeg = n := nI_clamp h
theorem i_lt {a b : Nat} (ha : a < 2 ^ 31) (hb : b < 2 ^ 31) : nI a < nI b ↔ a < b := nI_ltI ha hb
theorem i_le {a b : Nat} (ha : a < 2 ^ 31) (hb : b < 2 ^ 31) : nI a ≤ nI b ↔ a ≤ b := nI_leI ha hb
theorem i_eq {a b : Nat} (ha : a < 2 ^ 31) (hb : b < 2 ^ 31) : nI a = nI b ↔ a = b := nI_eq ha hb
theorem i_neg1 {a : Nat} (ha : a < 2 ^ 31) : ¬ nI a = -1 := by
  intro h
  have h1 := congrArg Int32.toInt h
  rw [nI_toInt ha] at h1
  have h2 : (-1 : Int32).toInt = -1 := by decide
  omega
theorem i_m1 {a : Nat} (ha : a < 2 ^ 31) : -1 < nI a := by
  rw [Int32.lt_iff_toInt_lt, nI_toInt ha]
  have h2 : (-1 : Int32).toInt = -1 := by decide
  omega
