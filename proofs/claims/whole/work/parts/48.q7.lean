/-! queries: shapes -/
def sg (a b : Int) : Int := if a < b then -1 else if a = b then 0 else 1
theorem sg_c (a b : Int) : (a < b ∧ sg a b = -1) ∨ (a = b ∧ sg a b = 0) ∨ (b < a ∧ sg a b = 1) := by
  unfold sg
  by_cases c : a < b
  · rw [if_pos c]; omega
  · rw [if_neg c]
    by_cases c2 : a = b
    · rw [if_pos c2]; omega
    · rw [if_neg c2]; omega
theorem sg_in (a b c d : Int) : -1 ≤ sg a b * sg c d ∧ sg a b * sg c d ≤ 1 := by
  rcases sg_c a b with ⟨h, e⟩ | ⟨h, e⟩ | ⟨h, e⟩ <;> rcases sg_c c d with ⟨h2, e2⟩ | ⟨h2, e2⟩ | ⟨h2, e2⟩ <;> rw [e, e2] <;> omega
theorem sg_same (a b c d : Int) : sg a b * sg c d = 1 ↔ (0 < a - b ∧ 0 < c - d) ∨ (a - b < 0 ∧ c - d < 0) := by
  rcases sg_c a b with ⟨h, e⟩ | ⟨h, e⟩ | ⟨h, e⟩ <;> rcases sg_c c d with ⟨h2, e2⟩ | ⟨h2, e2⟩ | ⟨h2, e2⟩ <;> rw [e, e2] <;> omega
theorem sg_opp (a b c d : Int) : sg a b * sg c d = -1 ↔ (0 < a - b ∧ c - d < 0) ∨ (a - b < 0 ∧ 0 < c - d) := by
  rcases sg_c a b with ⟨h, e⟩ | ⟨h, e⟩ | ⟨h, e⟩ <;> rcases sg_c c d with ⟨h2, e2⟩ | ⟨h2, e2⟩ | ⟨h2, e2⟩ <;> rw [e, e2] <;> omega
theorem compare_ok {σ : St} {a b : Int} {post : Int32 → St → Prop} (h : -2147483648 ≤ a ∧ a < 2147483648 ∧ -2147483648 ≤ b ∧ b < 2147483648) (hp : post (II (sg a b)) σ) : wpJ6_compare_7cf53 (II a) (II b) σ post := by
  simp (disch := omega) only [wpJ6_compare_7cf53, I_lit, I_neg, I_le, I_eq]
  rcases sg_c a b with ⟨h, e⟩ | ⟨h, e⟩ | ⟨h, e⟩ <;> rw [e] at hp
  · exact ⟨fun q => by omega, fun _ => hp⟩
  · exact ⟨fun _ => ⟨fun q => absurd h q, fun _ => hp⟩, fun q => by omega⟩
  · exact ⟨fun _ => ⟨fun _ => hp, fun q => by omega⟩, fun q => by omega⟩
theorem sl_in (f : Int → Int) (M t d : Int) (k : Nat) : ∀ x c, c ≤ sl f M t d k x c ∧ sl f M t d k x c ≤ c + k := by
  induction k with
  | zero => intro x c; simp only [sl]; omega
  | succ k ih =>
    intro x c
    simp only [sl]
    split
    · omega
    · have := ih (x + d) (c + 1); omega
def pP (G : GV) (M : Int) (n : Nat) : Int := pe (fy G n) M.toNat
def pA (G : GV) (M d : Int) (n : Nat) : Int := if pP G M n = -1 then -1 else sl (fy G n) M (fy G n (pP G M n)) d 62 (pP G M n + d) 0
theorem pA_in (G : GV) (M d : Int) (n : Nat) : -1 ≤ pA G M d n ∧ pA G M d n ≤ 62 ∧ (pA G M d n = -1 ↔ pP G M n = -1) := by
  have := sl_in (fy G n) M (fy G n (pP G M n)) d 62 (pP G M n + d) 0
  unfold pA
  by_cases c : pP G M n = -1
  · rw [if_pos c]; omega
  · rw [if_neg c]; omega
def Fp (P A B : Nat → Int) (s : Int) (i j : Nat) : Int := if P i ≠ -1 ∧ P j ≠ -1 ∧ sg (A i) (A j) * sg (B i) (B j) = s then 1 else 0
theorem cpairs_in {τ : St} {P A B : Nat → Int} {s c : Int} {fl : Int32} {i : Nat} {K : Int32 → Int32 → Int32 → St → Prop} {post : Int32 → St → Prop} (hs : fl = 1 ∧ s = 1 ∨ fl = 0 ∧ s = -1) (hi : i < 16) (hP : -1 ≤ P i ∧ P i ≤ 61)
    (hv : ∀ j, j ≤ i → gI τ 53 j = II (A j) ∧ gI τ 54 j = II (B j) ∧ -1 ≤ A j ∧ A j ≤ 62 ∧ -1 ≤ B j ∧ B j ≤ 62 ∧ (A j = -1 ↔ P j = -1))
    (hk : K fl (II (c + sm (Fp P A B s i) i)) (II ((i : Int) + 1)) τ) : ∃ f, wbX10_pairs_73 K post f fl (II c) (II i) (II (P i)) 0 τ := by
  by_cases hp : P i = -1
  · refine ⟨1, ?_⟩
    have z : sm (Fp P A B s i) i = 0 := sm_zero (fun j _ => if_neg (fun q => q.1 hp))
    rw [z, Int.add_zero] at hk
    unfold wbX10_pairs_73
    simp (disch := omega) only [I_lit, I_neg, I_eq, I_le, fe, I_add]
    exact ⟨fun _ => hk, fun _ => ⟨fun _ => hk, fun q => absurd hp q⟩⟩
  · have key := up (P := fun f j => wbX10_pairs_73 K post f fl (II (c + sm (Fp P A B s i) j)) (II i) (II (P i)) (II j) τ) i ?_ ?_ 0 (by omega)
    · obtain ⟨f, hf⟩ := key
      rw [show sm (Fp P A B s i) 0 = 0 from rfl, Int.add_zero] at hf
      exact ⟨f, hf⟩
    · intro f
      unfold wbX10_pairs_73
      simp (disch := omega) only [I_lit, I_neg, I_eq, I_le, fe, I_add]
      exact ⟨fun _ => hk, fun q => absurd (by omega) q⟩
    · intro f j hj ih
      obtain ⟨x1, x2, x3, x4, x5, x6, x7⟩ := hv i (Nat.le_refl _)
      obtain ⟨y1, y2, y3, y4, y5, y6, y7⟩ := hv j (by omega)
      unfold wbX10_pairs_73
      simp (disch := omega) only [I_le]
      refine ⟨fun q => absurd q (by omega), fun _ => ?_⟩
      simp (disch := omega) only [I_lit, I_neg, I_eq, I_in, true_and, I_cl, Int.toNat_natCast, x1, x2, y1, y2]
      refine ⟨fun q => absurd q hp, fun _ => compare_ok (by omega) ?_⟩
      simp (disch := omega) only [x1, x2, y1, y2]
      refine compare_ok (by omega) ?_
      simp (disch := omega) only [y1, I_eq, fe, I_add, I_mul]
      have es : sm (Fp P A B s i) (j + 1) = sm (Fp P A B s i) j + Fp P A B s i j := rfl
      rw [es, ← Int.add_assoc] at ih
      have b := sg_in (A i) (A j) (B i) (B j)
      refine ⟨fun q => ?_, fun q => ?_⟩
      · rw [show Fp P A B s i j = 0 from if_neg (fun z => z.2.1 (y7.mp q)), Int.add_zero] at ih
        exact ih
      · have q' : P j ≠ -1 := fun z => q (y7.mpr z)
        have g : ∀ s' : Int, s' = s → (-1 ≤ s' ∧ s' ≤ 1) → wbX10_pairs_146 (wbX10_pairs_73 K post f) post fl (II (c + sm (Fp P A B s i) j)) (II i) (II (P i)) (II j) (II s') (II (sg (A i) (A j) * sg (B i) (B j))) τ := by
          intro s' e hb
          unfold wbX10_pairs_146
          simp (disch := omega) only [I_lit, I_eq, fe, I_add]
          refine ⟨fun q2 => ?_, fun q2 => ?_⟩
          · rw [show Fp P A B s i j = 0 from if_neg (fun z => q2 (by rw [e]; exact z.2.2)), Int.add_zero] at ih
            exact ih
          · rw [show Fp P A B s i j = 1 from if_pos ⟨hp, q', by rw [← e]; exact q2⟩] at ih
            exact ih
        rcases hs with ⟨h1, h2⟩ | ⟨h1, h2⟩
        · refine ⟨fun z => ?_, fun _ => g 1 h2.symm (by omega)⟩
          rw [h1] at z; exact absurd z (by decide)
        · refine ⟨fun _ => g (-1) h2.symm (by omega), fun z => absurd h1 z⟩
