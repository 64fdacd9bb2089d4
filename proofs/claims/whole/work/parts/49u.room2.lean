/-! room: bits, the class -/
theorem I_tbx {a k : Nat} (h : a < 2147483648 ∧ k < 31) : (II (a : Int) >>> (II (k : Int) &&& II 31)) &&& II 1 = II (((a / 2 ^ k % 2 : Nat)) : Int) := by
  have hd : ((II (k : Int) &&& II 31).toBitVec.smod 32).toNat = k := by
    have : ∀ d : Fin 32, ((Int32.ofInt (d.val : Int) &&& Int32.ofInt 31).toBitVec.smod 32).toNat = d.val := by decide +kernel
    exact this ⟨k, by omega⟩
  have hs := pk_shrN (n := a) (by omega) _ _ hd
  have ha := pk_andN (n := a / 2 ^ k) (Nat.lt_of_le_of_lt (Nat.div_le_self _ _) (by omega)) (m := II 1) 1 (by decide)
  rw [I_nI] at hs
  rw [hs, ha, I_nI]
theorem I_tb1 {a k : Nat} (h : a < 2147483648 ∧ k < 31) : ((II (a : Int) >>> (II (k : Int) &&& II 31)) &&& II 1 = II 1) = (a.testBit k = true) := by
  rw [I_tbx h, Nat.testBit_eq_decide_div_mod_eq]
  have h2 := Nat.mod_lt (a / 2 ^ k) (show 0 < 2 by decide)
  generalize a / 2 ^ k % 2 = r at *
  rw [I_eq (by omega), decide_eq_true_eq]
  exact propext ⟨fun z => by omega, fun z => by omega⟩
theorem I_tb0 {a k : Nat} (h : a < 2147483648 ∧ k < 31) : ((II (a : Int) >>> (II (k : Int) &&& II 31)) &&& II 1 = II 0) = (a.testBit k = false) := by
  rw [I_tbx h, Nat.testBit_eq_decide_div_mod_eq]
  have h2 := Nat.mod_lt (a / 2 ^ k) (show 0 < 2 by decide)
  generalize a / 2 ^ k % 2 = r at *
  rw [I_eq (by omega), decide_eq_false_iff_not]
  exact propext ⟨fun z => by omega, fun z => by omega⟩
theorem I_or {a b : Nat} : II (a : Int) ||| II (b : Int) = II ((a ||| b : Nat) : Int) := by
  rw [← I_nI, ← I_nI, ← I_nI]
  apply Int32.toBitVec_inj.mp
  show BitVec.ofNat 32 a ||| BitVec.ofNat 32 b = BitVec.ofNat 32 (a ||| b)
  apply BitVec.eq_of_toNat_eq
  rw [BitVec.toNat_or, BitVec.toNat_ofNat, BitVec.toNat_ofNat, BitVec.toNat_ofNat]
  apply Nat.eq_of_testBit_eq
  intro i
  simp only [Nat.testBit_or, Nat.testBit_mod_two_pow]
  cases decide (i < 32) <;> simp
theorem I_shl1 : ∀ k : Nat, k < 31 → II 1 <<< (II (k : Int) &&& II 31) = II ((2 ^ k : Nat) : Int) := by
  have : ∀ d : Fin 31, Int32.ofInt 1 <<< (Int32.ofInt (d.val : Int) &&& Int32.ofInt 31) = Int32.ofInt ((2 ^ d.val : Nat) : Int) := by decide +kernel
  intro k hk
  exact this ⟨k, hk⟩
def km (A : Nat → Nat → Bool) (l : List Nat) (n : Nat) : Nat → Nat
  | 0 => 0
  | i + 1 => if A n (l.getD i 0) = true then km A l n i ||| 2 ^ i else km A l n i
theorem km_lt (A : Nat → Nat → Bool) (l : List Nat) (n i : Nat) : km A l n i < 2 ^ i := by
  induction i with
  | zero => show 0 < 2 ^ 0; decide
  | succ i ih =>
    have h2 : 2 ^ i < 2 ^ (i + 1) := Nat.pow_lt_pow_right (by decide) (by omega)
    simp only [km]
    split
    · exact Nat.or_lt_two_pow (by omega) h2
    · omega
theorem km_tb (A : Nat → Nat → Bool) (l : List Nat) (n i j : Nat) (h : j < i) : (km A l n i).testBit j = A n (l.getD j 0) := by
  induction i with
  | zero => omega
  | succ i ih =>
    have hk := km_lt A l n i
    simp only [km]
    by_cases e : j = i
    · subst e
      by_cases c : A n (l.getD j 0) = true
      · rw [if_pos c, Nat.testBit_or, Nat.testBit_two_pow_self, Bool.or_true, c]
      · rw [if_neg c, Nat.testBit_lt_two_pow hk]
        cases d : A n (l.getD j 0) with
        | true => exact absurd d c
        | false => rfl
    · split
      · rw [Nat.testBit_or, ih (by omega), Nat.testBit_two_pow_of_ne (by omega), Bool.or_false]
      · exact ih (by omega)
theorem gd_1 (l : List Nat) (a j : Nat) (h : j < l.length) : (l ++ [a]).getD j 0 = l.getD j 0 := by
  rw [List.getD_eq_getElem?_getD, List.getD_eq_getElem?_getD, List.getElem?_append_left h]
theorem gd_2 (l : List Nat) (a : Nat) : (l ++ [a]).getD l.length 0 = a := by
  rw [List.getD_eq_getElem?_getD, List.getElem?_append_right (Nat.le_refl _)]; simp
theorem gd_drop (l : List Nat) (j : Nat) (h : j < l.length) : l.drop j = l.getD j 0 :: l.drop (j + 1) := by
  rw [List.drop_eq_getElem_cons h, List.getD_eq_getElem?_getD, List.getElem?_eq_getElem h]; rfl
theorem unlike_ok {σ : St} {w : Nat → Int} {A : Nat → Nat → Bool} {l : List Nat} (hl16 : l.length ≤ 16) (hc : gI σ 52 10 = II (l.length : Nat)) (h58 : ∀ j, j < l.length → gI σ 58 j = II (w (l.getD j 0))) (h59 : ∀ j, j < l.length → gI σ 59 j = II (km A l (l.getD j 0) l.length : Nat)) (hw : ∀ i, 0 ≤ w i ∧ w i ≤ 24) :
    ∀ (n k i S : Nat) (T : Nat → Bool) (post : Int64 → St → Prop), k < n → k ≤ 8 → i ≤ l.length → S < 2 ^ 16 → (∀ j, i ≤ j → j < l.length → T (l.getD j 0) = S.testBit j) → post (LL (hl w A (l.drop i) k T)) σ → wrX10_unlike n (II i) (II k) (II S) σ post := by
  intro n
  induction n with
  | zero => intro k i S T post h; omega
  | succ n ihn =>
    intro k i S T post hk hk8 hi hS hT hp
    show wpX10_unlike (wrX10_unlike n) (II i) (II k) (II S) σ post
    simp (disch := omega) only [wpX10_unlike, I_lit, I_lt, L_lit]
    refine ⟨fun q => ?_, fun q => ?_⟩
    · have key := up (P := fun f j => i ≤ j → wbX10_unlike_12 (wrX10_unlike n) post f (II k) (II S) (LL (hl w A (l.drop i) k T - hl w A (l.drop j) k T)) (II j) σ) (max i (l.length + 1 - k)) ?_ ?_ i (by omega)
      · obtain ⟨f, hf⟩ := key
        have := hf (Nat.le_refl _)
        rw [Int.sub_self] at this
        exact ⟨f, this⟩
      · intro f _
        have e0 : hl w A (l.drop (max i (l.length + 1 - k))) k T = 0 := hl_short (by rw [List.length_drop]; omega)
        rw [e0, Int.sub_zero]
        simp (disch := omega) only [wbX10_unlike_12, hc, I_sub, I_lt]
        exact ⟨fun _ => hp, fun z => absurd (by omega) z⟩
      · intro f j hj ih hle
        have hjl : j < l.length := by omega
        have ih := ih (by omega)
        have ed : hl w A (l.drop j) k T = hl w A (l.drop (j + 1)) k T + (if k = 0 ∨ T (l.getD j 0) = true then 0 else w (l.getD j 0) * hl w A (l.drop (j + 1)) (k - 1) (fun i => T i || A (l.getD j 0) i)) := by
          rw [gd_drop l j hjl, hl_cons]
        have hT2 := hT j hle hjl
        simp (disch := omega) only [wbX10_unlike_12, hc, I_sub, I_lt, I_lit, I_tb0, I_in, true_and, I_cl, Int.toNat_natCast, h58 j hjl, h59 j hjl, fe, I_add]
        refine ⟨fun z => absurd z (by omega), fun _ => ⟨fun z => ?_, fun z => ?_⟩⟩
        · rw [if_pos (Or.inr (by rw [hT2]; simpa using z)), Int.add_zero] at ed
          rw [ed]; exact ih
        · rw [if_neg (by rw [hT2, z]; simp; omega)] at ed
          rw [I_or]
          have hS2 := Nat.or_lt_two_pow hS (show km A l (l.getD j 0) l.length < 2 ^ 16 from Nat.lt_of_lt_of_le (km_lt _ _ _ _) (Nat.pow_le_pow_right (by decide) hl16))
          have := ihn (k - 1) (j + 1) (S ||| km A l (l.getD j 0) l.length) (fun i => T i || A (l.getD j 0) i) (fun r_2 σ_3 => wbX10_unlike_12 (wrX10_unlike n) post f (II k) (II S) (LL (hl w A (l.drop i) k T - hl w A (l.drop j) k T) + (II (w (l.getD j 0))).toInt64 * r_2) (II ((j : Int) + 1)) σ_3) (by omega) (by omega) (by omega) hS2 (fun j2 h1 h2 => by
            rw [Nat.testBit_or, km_tb _ _ _ _ _ h2, hT j2 (by omega) h2]) (by
            have wb := hw (l.getD j 0)
            show wbX10_unlike_12 (wrX10_unlike n) post f (II k) (II S) (LL (hl w A (l.drop i) k T - hl w A (l.drop j) k T) + (II (w (l.getD j 0))).toInt64 * LL (hl w A (l.drop (j + 1)) (k - 1) (fun i => T i || A (l.getD j 0) i))) (II ((j : Int) + 1)) σ
            rw [I_wide (by omega), L_mul, L_add, ed, show hl w A (l.drop i) k T - (hl w A (l.drop (j + 1)) k T + w (l.getD j 0) * hl w A (l.drop (j + 1)) (k - 1) (fun i => T i || A (l.getD j 0) i)) + w (l.getD j 0) * hl w A (l.drop (j + 1)) (k - 1) (fun i => T i || A (l.getD j 0) i) = hl w A (l.drop i) k T - hl w A (l.drop (j + 1)) k T by omega]
            exact ih)
          rw [show ((k - 1 : Nat) : Int) = (k : Int) - 1 by omega, show ((j + 1 : Nat) : Int) = (j : Int) + 1 by omega] at this
          exact this
    · have e : k = 0 := by omega
      subst e
      have e2 : ∀ (l : List Nat) (T : Nat → Bool), hl w A l 0 T = 1 := fun l => by
        induction l with
        | nil => intro T; rfl
        | cons n l ih => intro T; rw [hl_cons, ih, if_pos (Or.inl rfl)]; rfl
      rw [e2] at hp
      exact hp
