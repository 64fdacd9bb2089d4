theorem latin_ok {σ : St} {j : Nat} {post : Int32 → St → Prop} (hp : post 1 σ) : wpJ0_isLatin1_aae02 j σ post :=
  ⟨fun h => absurd h (by decide), fun _ => ⟨fun h => absurd rfl h, fun _ => hp⟩⟩
theorem slen_ok {σ : St} {j N : Nat} {post : Int32 → St → Prop} (hN : sLen.getD j 0 = N) (hp : post (II N) σ) : wpJ0_length_8abf5 j σ post := by
  have eN : Int32.ofNat N = II (N : Int) := I_nI N
  have n0 : narrow .byte (.int (0 : Int32)) = .int 0 := by decide
  unfold wpJ0_length_8abf5 wpJ0_coder_7d493
  refine ⟨fun h => absurd h (by decide), fun _ => ⟨n0, ?_⟩⟩
  show post ((Int32.ofNat (sLen.getD j 0)) >>> ((0 : Int32) &&& 31)) σ
  rw [hN, eN, sb_shr0]
  exact hp
theorem idx_ok {σ : St} {j N c : Nat} {post : Int32 → St → Prop} (hN : sLen.getD j 0 = N) (hN2 : 0 < N ∧ N ≤ 200) (hc : c < 256)
    (h1 : ∀ i, i < N → (sByt.getD j []).getD i 0 = (II (c : Int)).toInt8.toInt32 → post (II i) σ) (h2 : (∀ i, i < N → (sByt.getD j []).getD i 0 ≠ (II (c : Int)).toInt8.toInt32) → post (II (-1)) σ) : wpJ0_indexOf_0f7a4 j (II c) σ post := by
  have eN : Int32.ofNat N = II (N : Int) := I_nI N
  have key : ∃ f, wbJ1_indexOfChar_4cfef_7 j post f (II N) (II (c : Int)).toInt8.toInt32 (II 0) σ := by
    have key := up (P := fun f i => (∀ k, k < i → (sByt.getD j []).getD k 0 ≠ (II (c : Int)).toInt8.toInt32) → wbJ1_indexOfChar_4cfef_7 j post f (II N) (II (c : Int)).toInt8.toInt32 (II i) σ) N ?_ ?_ 0 (by omega)
    · obtain ⟨f, hf⟩ := key
      exact ⟨f, hf (fun k hk => absurd hk (by omega))⟩
    · intro f hk
      simp (disch := omega) only [wbJ1_indexOfChar_4cfef_7, I_le]
      exact ⟨fun _ => h2 hk, fun z => absurd (by omega) z⟩
    · intro f i hi ih hk
      simp (disch := omega) only [wbJ1_indexOfChar_4cfef_7, I_le, hN, I_in, true_and, I_cl, Int.toNat_natCast, fe, I_lit, I_add]
      refine ⟨fun z => absurd z (by omega), fun _ => ⟨fun z => ih (fun k hk' => ?_), fun z => h1 i hi z⟩⟩
      by_cases e : k = i
      · subst e; exact z
      · exact hk k (by omega)
  unfold wpJ0_indexOf_0f7a4 wpJ0_indexOf_7cf53
  refine latin_ok ⟨fun h => absurd h (by decide), fun _ => slen_ok hN ?_⟩
  unfold wpJ1_indexOf_4cfef wpJ1_canEncode_9a6ad wpJ1_indexOfChar_4cfef
  rw [hN, eN]
  simp (disch := omega) only [I_lit, I_lt, fe]
  refine ⟨fun z => absurd z (by omega), fun _ => ⟨fun z => absurd z (by omega), fun _ => ⟨fun _ => ?_, fun z => absurd z (by decide)⟩⟩⟩
  rw [if_neg (by omega), if_neg (by omega), I_lt (by omega)]
  exact ⟨fun _ => key, fun z => absurd (by omega) z⟩
def vow (e : Nat) : Bool := e == 1 || e == 5 || e == 9 || e == 15 || e == 21 || e == 25
theorem vowel_ok {σ : St} {e : Nat} {post : Int32 → St → Prop} (he : e < 32) (hp : ∀ r : Int, -1 ≤ r ∧ r < 6 → (r < 0 ↔ vow e = false) → post (II r) σ) : wpJ0_indexOf_0f7a4 0 (II (96 + (e : Nat))) σ post := by
  have hd : ∀ e : Fin 32, (∃ i : Fin 6, (sByt.getD 0 []).getD i.val 0 = (Int32.ofInt ((96 + e.val : Nat) : Int)).toInt8.toInt32) ↔ vow e.val = true := by decide +kernel
  have h := hd ⟨e, he⟩
  rw [show (96 + ((e : Nat) : Int)) = ((96 + e : Nat) : Int) by omega]
  refine idx_ok (N := 6) rfl (by omega) (by omega) (fun i hi z => ?_) (fun z => ?_)
  · refine hp _ (by omega) ⟨fun w => absurd w (by omega), fun w => ?_⟩
    have := h.mp ⟨⟨i, hi⟩, z⟩
    rw [show vow e = true from this] at w
    cases w
  · refine hp _ (by omega) ⟨fun _ => ?_, fun _ => by omega⟩
    cases hv : vow e with
    | false => rfl
    | true =>
      obtain ⟨i, hi⟩ := h.mpr hv
      exact absurd hi (z i.val i.isLt)
/-! endings -/
def lv (u : Nat) : Nat → Nat
  | 0 => 0
  | k + 1 => if vow (le u k) then k else lv u k
theorem lv_le (u k : Nat) : lv u k ≤ k := by
  induction k with
  | zero => exact Nat.le_refl _
  | succ k ih => simp only [lv]; split <;> omega
def enN (u : Nat) : Nat := u / 2 ^ (5 * lv u (nl u))
theorem isVowel_ok {σ : St} {e : Nat} {post : Int32 → St → Prop} (he : e < 32) (hp : post (II (if vow e then 1 else 0)) σ) : wpX12_isVowel (II e) σ post := by
  simp (disch := omega) only [wpX12_isVowel, I_lit, I_eq]
  have hv : vow e = true ↔ (e = 1 ∨ e = 5 ∨ e = 9 ∨ e = 15 ∨ e = 21 ∨ e = 25) := by unfold vow; simp only [Bool.or_eq_true, beq_iff_eq]; omega
  have yes : (e = 1 ∨ e = 5 ∨ e = 9 ∨ e = 15 ∨ e = 21 ∨ e = 25) → post (II 1) σ := fun z => by rw [if_pos (hv.mpr z)] at hp; exact hp
  refine ⟨fun z => yes (by omega), fun z1 => ⟨fun z => yes (by omega), fun z2 => ⟨fun z => yes (by omega), fun z3 => ⟨fun z => yes (by omega), fun z4 => ⟨fun z => yes (by omega), fun z5 => ⟨fun z => ?_, fun z => yes (by omega)⟩⟩⟩⟩⟩⟩
  rw [if_neg (fun w => by have := hv.mp w; omega)] at hp; exact hp
theorem rending_ok {σ : St} {u : Nat} {post : Int64 → St → Prop} (hu : u < 2 ^ 63) (hp : post (lN (enN u)) σ) : wpX12_ending (lN u) σ post := by
  obtain ⟨a, b, c⟩ := nl_spec u
  unfold wpX12_ending
  refine up (P := fun f i => wbX12_ending_4 post f (lN u) (II (lv u i)) (II i) σ) (nl u) ?_ ?_ 0 (by omega)
  · intro f
    simp only [wbX12_ending_4]
    refine size_ok hu ?_
    have hl := lv_le u (nl u)
    simp (disch := omega) only [I_le]
    refine ⟨fun _ => ?_, fun z => absurd (by omega) z⟩
    have e : (5 : Int32) * II (lv u (nl u) : Int) = II ((5 * lv u (nl u) : Nat) : Int) := by rw [I_lit, I_mul]; rfl
    rw [e, L_shr (by omega) hu]
    exact hp
  · intro f i hi ih
    simp only [wbX12_ending_4]
    refine size_ok hu ?_
    simp (disch := omega) only [I_le]
    refine ⟨fun z => absurd z (by omega), fun _ => ?_⟩
    refine rletterAt_ok hu (by omega) ?_
    refine isVowel_ok (le_lt u i) ?_
    simp only [lv] at ih
    simp (disch := omega) only [I_lit, fe, I_add]
    cases hv : vow (le u i) with
    | false =>
      rw [hv, if_neg (by simp)] at ih
      exact ⟨fun _ => ih, fun z => absurd rfl z⟩
    | true =>
      rw [hv, if_pos rfl] at ih
      refine ⟨fun z => ?_, fun _ => ih⟩
      simp (disch := omega) only [if_true, I_eq] at z; omega
theorem cending_ok {σ : St} {u : Nat} {post : Int64 → St → Prop} (hu : u < 2 ^ 63) (hp : post (lN (enN u)) σ) : wpX5_endingOf (lN u) (II (nl u)) σ post := by
  obtain ⟨a, b, c⟩ := nl_spec u
  simp only [wpX5_endingOf, fe]
  have key := dn (P := fun f k => k ≤ nl u → lv u (nl u) = lv u k → wbX5_endingOf_4 post f (lN u) (II ((k : Int) - 1)) σ) ?_ ?_ (nl u)
  · obtain ⟨f, hf⟩ := key
    have := hf (Nat.le_refl _) rfl
    rw [I_lit, I_sub]
    exact ⟨f, this⟩
  · intro f _ hl
    simp (disch := omega) only [wbX5_endingOf_4, I_lit, I_lt]
    refine ⟨fun _ => ?_, fun z => absurd (by omega) z⟩
    unfold enN at hp
    rw [hl] at hp
    simp only [lv, Nat.mul_zero, Nat.pow_zero, Nat.div_one] at hp
    exact hp
  · intro f k ih hk hl
    rw [show ((k + 1 : Nat) : Int) - 1 = (k : Int) by omega]
    simp only [lv] at hl
    simp (disch := omega) only [wbX5_endingOf_4, I_lt, fe, I_lit, I_neg]
    refine ⟨fun z => absurd z (by omega), fun _ => ?_⟩
    refine cletterAt_ok (by omega) (by omega) ?_
    refine vowel_ok (le_lt u k) ?_
    intro r hr hv
    simp (disch := omega) only [I_lt, I_add]
    refine ⟨fun z => ?_, fun z => ?_⟩
    · rw [hv.mp z, if_neg (by simp)] at hl
      rw [show (k : Int) + -1 = (k : Int) - 1 by omega]
      exact ih (by omega) hl
    · have hv' : vow (le u k) = true := by
        cases h : vow (le u k) with
        | true => rfl
        | false => exact absurd (hv.mpr h) z
      rw [hv', if_pos rfl] at hl
      have e : II 5 * II (k : Int) = II ((5 * k : Nat) : Int) := by rw [I_mul]; rfl
      have e63 : (LL 63).toUInt64 = Int64.toUInt64 63 := rfl
      rw [e, L_ushr (by omega) (by omega)]
      unfold enN at hp
      rw [hl] at hp
      exact hp
/-! sounds -/
def soT : List Nat := [0, 1, 2, 7, 4, 9, 2, 7, 8, 9, 10, 7, 12, 13, 13, 15, 2, 7, 18, 19, 4, 15, 2, 15, 19, 9, 19, 27, 28, 29, 30, 31]
def so (e : Nat) : Nat := soT.getD e 0
theorem so_in : ∀ e, e < 27 → 1 ≤ e → 1 ≤ so e ∧ so e ≤ 19 := by decide
theorem sounds_ok {σ : St} {e : Nat} {post : Int32 → St → Prop} (he : e < 27) (h1 : 1 ≤ e) (hp : post (II (so e)) σ) : wpX12_sounds (II e) σ post := by
  have hd : ∀ e : Fin 27, (∀ k : Fin 24, e.val = 3 + k.val → True) := by decide
  have key : ∀ e : Fin 27, 1 ≤ e.val → (so e.val = if e.val = 3 then 7 else if e.val = 5 then 9 else if e.val = 6 then 2 else if e.val = 11 then 7 else if e.val = 14 then 13 else if e.val = 16 then 2 else if e.val = 17 then 7 else if e.val = 20 then 4 else if e.val = 21 then 15 else if e.val = 22 then 2 else if e.val = 23 then 15 else if e.val = 24 then 19 else if e.val = 25 then 9 else if e.val = 26 then 19 else e.val) := by decide
  have hk := key ⟨e, he⟩ h1
  simp only at hk
  have fin : ∀ v : Nat, v = so e → post (II v) σ := fun v hv => by rw [hv]; exact hp
  simp (disch := omega) only [wpX12_sounds, I_lit, I_eq]
  refine ⟨fun z => fin 7 ?_, fun z3 => ⟨fun z => fin e ?_, fun z4 => ⟨fun z => fin 9 ?_, fun z5 => ⟨fun z => fin 2 ?_, fun z6 => ⟨fun z => fin e ?_, fun z7 => ⟨fun z => fin e ?_, fun z8 => ⟨fun z => fin e ?_, fun z9 => ⟨fun z => fin e ?_, fun z10 => ⟨fun z => fin 7 ?_, fun z11 => ⟨fun z => fin e ?_, fun z12 => ⟨fun z => fin e ?_, fun z13 => ⟨fun z => fin 13 ?_, fun z14 => ⟨fun z => fin e ?_, fun z15 => ⟨fun z => fin 2 ?_, fun z16 => ⟨fun z => fin 7 ?_, fun z17 => ⟨fun z => fin e ?_, fun z18 => ⟨fun z => fin e ?_, fun z19 => ⟨fun z => fin 4 ?_, fun z20 => ⟨fun z => fin 15 ?_, fun z21 => ⟨fun z => fin 2 ?_, fun z22 => ⟨fun z => fin 15 ?_, fun z23 => ⟨fun z => fin 19 ?_, fun z24 => ⟨fun z => fin 9 ?_, fun z25 => ⟨fun z => fin 19 ?_, fun z26 => fin e ?_⟩⟩⟩⟩⟩⟩⟩⟩⟩⟩⟩⟩⟩⟩⟩⟩⟩⟩⟩⟩⟩⟩⟩⟩
  all_goals (rw [hk]; simp (disch := omega) only [if_pos, if_neg]; try omega)
