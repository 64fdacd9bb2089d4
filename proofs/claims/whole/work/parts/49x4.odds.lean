/-! chance: the class's odds -/
def LI (σ : St) (q x : Nat) : Prop := ∀ i, i < 24 → gI σ q i = II (Dg 16777216 x i : Nat)
theorem d24 : (16777216 : Nat) = 2 ^ 24 := by decide
theorem mask24 {n : Nat} (h : n < 2 ^ 63) : (LL (n : Int) &&& 16777215).toInt32 = II ((n % 16777216 : Nat) : Int) := by
  rw [← L_lN, show (16777215 : Int64) = lN (2 ^ 24 - 1) from rfl, wb_mask (by omega) (by decide), lN_II]
theorem shr24 {n : Nat} (h : n < 2 ^ 63) : LL (n : Int) >>> ((24 : Int32).toInt64 &&& 63) = LL ((n / 16777216 : Nat) : Int) := by
  rw [← L_lN, show (24 : Int32) = II ((24 : Nat) : Int) from rfl, L_shr (by decide) h, L_lN]
theorem zfill_ok {σ : St} {q n : Nat} {v : Int32} {post : St → Prop} (hn : n < 1000) (hp : ∀ τ, Eqx [q] σ τ → (∀ i, i < n → gI τ q i = v) → post τ) : wpJ7_fill_53178 q n v σ post := by
  unfold wpJ7_fill_53178
  simp only [fe]
  have e : Int32.ofNat n = II (n : Int) := by rw [← I_nI]; rfl
  rw [e]
  have key := up (P := fun f i => ∀ υ, Eqx [q] σ υ → (∀ j, j < i → gI υ q j = v) → wbJ7_fill_53178_5 q n post f v (II i) (II n) υ) n ?_ ?_ 0 (by omega)
  · obtain ⟨f, hf⟩ := key
    exact ⟨f, hf σ (Eqx.refl _ _) (fun j hj => absurd hj (by omega))⟩
  · intro f υ uE uv
    simp (disch := omega) only [wbJ7_fill_53178_5, I_le]
    exact ⟨fun _ => hp υ uE uv, fun z => absurd (Int.le_refl _) z⟩
  · intro f i hi ih υ uE uv
    simp (disch := omega) only [wbJ7_fill_53178_5, I_le, I_in, true_and, I_cl, Int.toNat_natCast, fe, I_lit, I_add]
    refine ⟨fun z => absurd z (by omega), fun _ => ih _ (Eqx_tI uE (by simp)) (fun j hj => ?_)⟩
    by_cases c : j = i
    · rw [c, rI1]
    · rw [rI3 c]; exact uv j (by omega)
theorem times_ok {σ : St} {q x a : Nat} {post : St → Prop} (ha : a ≤ 1000000) (hL : LI σ q x) (hp : ∀ τ, Eqx [q] σ τ → LI τ q (a * x) → post τ) : wpX6_times q 24 (II a) σ post := by
  have hB : 0 < 16777216 := by decide
  have D1 : ∀ i, Dg 16777216 (a * x) i = (Cr 16777216 a x 0 0 i + a * Dg 16777216 x i) % 16777216 := fun i => by
    have := Dg_lin hB a x 0 0 i
    rw [Nat.zero_mul, Nat.add_zero, Nat.zero_mul, Nat.add_zero] at this; exact this
  have C1 : ∀ i, Cr 16777216 a x 0 0 (i + 1) = (Cr 16777216 a x 0 0 i + a * Dg 16777216 x i) / 16777216 := fun i => by
    have := Cr_succ hB a x 0 0 i
    rw [Nat.zero_mul, Nat.add_zero] at this; exact this
  unfold wpX6_times
  have key := up (P := fun f i => ∀ υ, Eqx [q] σ υ → (∀ j, j < i → gI υ q j = II (Dg 16777216 (a * x) j : Nat)) → (∀ j, i ≤ j → gI υ q j = gI σ q j) → wbX6_times_5 q 24 post f (II a) (LL (Cr 16777216 a x 0 0 i : Nat)) (II i) υ) 24 ?_ ?_ 0 (by omega)
  · obtain ⟨f, hf⟩ := key
    have := hf σ (Eqx.refl _ _) (fun j hj => absurd hj (by omega)) (fun j _ => rfl)
    rw [Cr_zero] at this
    exact ⟨f, this⟩
  · intro f υ uE u1 u2
    simp (disch := omega) only [wbX6_times_5, I_lit, I_le]
    exact ⟨fun _ => hp υ uE u1, fun z => absurd (by decide) z⟩
  · intro f i hi ih υ uE u1 u2
    have hd := Dg_lt hB x i
    have hc := Cr_le hB a x 0 0 i
    have hm := Nat.mul_le_mul ha (Nat.le_of_lt hd)
    have ei : gI υ q i = II (Dg 16777216 x i : Nat) := by rw [u2 i (Nat.le_refl _)]; exact hL i hi
    rw [C1] at ih
    have D := D1 i
    generalize Dg 16777216 x i = d at *
    generalize Cr 16777216 a x 0 0 i = c at *
    have eX : (c : Int) + (d : Int) * (a : Int) = ((c + a * d : Nat) : Int) := by rw [Int.natCast_add, Int.natCast_mul, Int.mul_comm]
    generalize a * d = ad at *
    simp (disch := omega) only [wbX6_times_5, I_le, I_in, true_and, I_cl, Int.toNat_natCast, fe, ei, I_wide, L_mul, L_add, eX, mask24, shr24]
    rw [I_lit, I_le (by omega), I_lit, I_add]
    refine ⟨fun z => absurd z (by omega), fun _ => ih _ (Eqx_tI uE (by simp)) (fun j hj => ?_) (fun j hj => ?_)⟩
    · by_cases e : j = i
      · rw [e, rI1, D]
      · rw [rI3 e]; exact u1 j (by omega)
    · rw [rI3 (by omega)]; exact u2 j (by omega)
theorem over_ok {σ : St} {q x a : Nat} {post : St → Prop} (ha : 0 < a ∧ a ≤ 1000000) (hx : x < 16777216 ^ 24) (hL : LI σ q x) (hp : ∀ τ, Eqx [q] σ τ → LI τ q (x / a) → post τ) : wpX6_over q 24 (II a) σ post := by
  have hB : 0 < 16777216 := by decide
  unfold wpX6_over
  rw [I_lit, I_eq (by omega)]
  refine ⟨fun _ => ?_, fun z => absurd z (by omega)⟩
  have key := dn (P := fun f i => i ≤ 24 → ∀ υ, Eqx [q] σ υ → (∀ j, i ≤ j → j < 24 → gI υ q j = II (Dg 16777216 (x / a) j : Nat)) → (∀ j, j < i → gI υ q j = gI σ q j) → wbX6_over_11 q 24 post f (II a) (LL (x / 16777216 ^ i % a : Nat)) (II ((i : Int) - 1)) υ) ?_ ?_ 24
  · obtain ⟨f, hf⟩ := key
    have := hf (Nat.le_refl _) σ (Eqx.refl _ _) (fun j h1 h2 => absurd h1 (by omega)) (fun j _ => rfl)
    rw [Nat.div_eq_of_lt hx, Nat.zero_mod] at this
    exact ⟨f, this⟩
  · intro f _ υ uE u1 u2
    simp (disch := omega) only [wbX6_over_11, I_lit, I_lt]
    exact ⟨fun _ => hp υ uE (fun j hj => u1 j (by omega) hj), fun z => absurd (by decide) z⟩
  · intro f i ih hi υ uE u1 u2
    obtain ⟨D1, D2⟩ := Dg_div (B := 16777216) (a := a) (x := x) (i := i) ha.1 hB
    have hd := Dg_lt hB x i
    have hr := Nat.mod_lt (x / 16777216 ^ (i + 1)) ha.1
    have ei : gI υ q i = II (Dg 16777216 x i : Nat) := by rw [u2 i (by omega)]; exact hL i (by omega)
    have ih := ih (by omega)
    rw [D2] at ih
    generalize Dg 16777216 x i = d at *
    generalize x / 16777216 ^ (i + 1) % a = r at *
    have sh : LL (r : Int) <<< ((24 : Int32).toInt64 &&& 63) = LL ((r * 16777216 : Nat) : Int) := by
      rw [← L_lN, show (24 : Int32) = II ((24 : Nat) : Int) from rfl, L_shl _ (by decide), L_lN]
    rw [show ((i + 1 : Nat) : Int) - 1 = (i : Int) by omega]
    have eX : ((r * 16777216 : Nat) : Int) + (d : Int) = ((r * 16777216 + d : Nat) : Int) := by omega
    have vb : r * 16777216 + d < 20000000000000 := by omega
    generalize r * 16777216 + d = v at *
    have ne : ¬ LL (a : Int) = (0 : Int64) := by rw [L_lit, L_eq (by omega)]; omega
    have dv : LL (v : Int) / LL (a : Int) = LL ((v / a : Nat) : Int) := by rw [L_div (by omega)]; rfl
    have dl := Nat.div_le_self v a
    have rm : LL (v : Int) - LL ((v / a : Nat) : Int) * LL (a : Int) = LL ((v % a : Nat) : Int) := by
      rw [L_mul, L_sub]
      congr 1
      have := Nat.div_add_mod v a
      rw [Nat.mul_comm] at this
      have e2 : ((v / a : Nat) : Int) * (a : Int) = ((v / a * a : Nat) : Int) := by rw [Int.natCast_mul]
      rw [e2]; omega
    simp (disch := omega) only [wbX6_over_11, I_lt, I_in, true_and, I_cl, Int.toNat_natCast, fe, ei, I_wide, sh, L_add, eX, dv, rm, L_thin, ne, not_false_eq_true]
    rw [I_lit, I_lt (by omega), I_lit, I_neg, I_add]
    refine ⟨fun z => absurd z (by omega), fun _ => ?_⟩
    rw [show (i : Int) + -1 = (i : Int) - 1 by omega]
    refine ih _ (Eqx_tI uE (by simp)) (fun j h1 h2 => ?_) (fun j hj => ?_)
    · by_cases e : j = i
      · rw [e, rI1, D1]
      · rw [rI3 e]; exact u1 j (by omega) h2
    · rw [rI3 (by omega)]; exact u2 j (by omega)
theorem addTerm_ok {σ : St} {x y : Nat} {post : St → Prop} (hx : LI σ 62 x) (hy : LI σ 61 y) (hp : ∀ τ, Eqx [62] σ τ → LI τ 62 (x + y) → post τ) : wpX6_addTerm σ post := by
  have hB : 0 < 16777216 := by decide
  have D1 : ∀ i, Dg 16777216 (x + y) i = (Cr 16777216 1 x 1 y i + (Dg 16777216 x i + Dg 16777216 y i)) % 16777216 := fun i => by
    have := Dg_lin hB 1 x 1 y i
    rw [Nat.one_mul, Nat.one_mul, Nat.one_mul, Nat.one_mul] at this; exact this
  have C1 : ∀ i, Cr 16777216 1 x 1 y (i + 1) = (Cr 16777216 1 x 1 y i + (Dg 16777216 x i + Dg 16777216 y i)) / 16777216 := fun i => by
    have := Cr_succ hB 1 x 1 y i
    rw [Nat.one_mul, Nat.one_mul] at this; exact this
  unfold wpX6_addTerm
  have key := up (P := fun f i => ∀ υ, Eqx [62] σ υ → (∀ j, j < i → gI υ 62 j = II (Dg 16777216 (x + y) j : Nat)) → (∀ j, i ≤ j → gI υ 62 j = gI σ 62 j) → wbX6_addTerm_4 post f (II (Cr 16777216 1 x 1 y i : Nat)) (II i) υ) 24 ?_ ?_ 0 (by omega)
  · obtain ⟨f, hf⟩ := key
    have := hf σ (Eqx.refl _ _) (fun j hj => absurd hj (by omega)) (fun j _ => rfl)
    rw [Cr_zero] at this
    exact ⟨f, this⟩
  · intro f υ uE u1 u2
    simp (disch := omega) only [wbX6_addTerm_4, I_lit, I_le]
    exact ⟨fun _ => hp υ uE u1, fun z => absurd (by decide) z⟩
  · intro f i hi ih υ uE u1 u2
    have hd := Dg_lt hB x i
    have hd2 := Dg_lt hB y i
    have hc := Cr_le hB 1 x 1 y i
    have ei : gI υ 62 i = II (Dg 16777216 x i : Nat) := by rw [u2 i (Nat.le_refl _)]; exact hx i hi
    have ej : gI υ 61 i = II (Dg 16777216 y i : Nat) := by rw [Eqx_gI uE (by simp)]; exact hy i hi
    rw [C1] at ih
    have D := D1 i
    generalize Dg 16777216 x i = d at *
    generalize Dg 16777216 y i = d2 at *
    generalize Cr 16777216 1 x 1 y i = c at *
    have eX : (c : Int) + ((d : Int) + (d2 : Int)) = ((c + (d + d2) : Nat) : Int) := by omega
    have vb : c + (d + d2) < 40000000 := by omega
    generalize c + (d + d2) = v at *
    have an : II (v : Int) &&& 16777215 = II ((v % 16777216 : Nat) : Int) := by
      rw [show (16777215 : Int32) = II ((16777215 : Nat) : Int) from rfl, I_and, show (16777215 : Nat) = 2 ^ 24 - 1 from rfl, Nat.and_two_pow_sub_one_eq_mod]
    have sr : II (v : Int) >>> ((24 : Int32) &&& 31) = II ((v / 16777216 : Nat) : Int) := by
      have hs := pk_shrN (n := v) (by omega) ((24 : Int32) &&& 31) 24 (by decide)
      rw [I_nI, I_nI] at hs
      exact hs
    simp (disch := omega) only [wbX6_addTerm_4, I_in, true_and, I_cl, Int.toNat_natCast, fe, ei, ej, I_add, eX, an, sr]
    rw [I_lit, I_le (by omega), I_lit, I_add]
    refine ⟨fun z => absurd z (by omega), fun _ => ih _ (Eqx_tI uE (by simp)) (fun j hj => ?_) (fun j hj => ?_)⟩
    · by_cases e : j = i
      · rw [e, rI1, D]
      · rw [rI3 e]; exact u1 j (by omega)
    · rw [rI3 (by omega)]; exact u2 j (by omega)
theorem atMost_ok {σ : St} {x y : Nat} {post : Int32 → St → Prop} (hx : LI σ 62 x) (hy : LI σ 63 y) (hx2 : x < 16777216 ^ 24) (hy2 : y < 16777216 ^ 24) (hp : post (II (if x ≤ y then 1 else 0)) σ) : wpX6_sumIsAtMostWhole σ post := by
  have hB : 0 < 16777216 := by decide
  unfold wpX6_sumIsAtMostWhole
  have key := dn (P := fun f i => i ≤ 24 → x / 16777216 ^ i = y / 16777216 ^ i → wbX6_sumIsAtMostWhole_3 post f (II ((i : Int) - 1)) σ) ?_ ?_ 24
  · obtain ⟨f, hf⟩ := key
    exact ⟨f, hf (Nat.le_refl _) (by rw [Nat.div_eq_of_lt hx2, Nat.div_eq_of_lt hy2])⟩
  · intro f _ he
    rw [Nat.pow_zero, Nat.div_one, Nat.div_one] at he
    simp (disch := omega) only [wbX6_sumIsAtMostWhole_3, I_lit, I_lt]
    rw [if_pos (by omega)] at hp
    exact ⟨fun _ => hp, fun z => absurd (by decide) z⟩
  · intro f i ih hi he
    have d1 := Dg_lt hB x i
    have d2 := Dg_lt hB y i
    rw [show ((i + 1 : Nat) : Int) - 1 = (i : Int) by omega]
    simp (disch := omega) only [wbX6_sumIsAtMostWhole_3, I_lit, I_neg, I_lt, I_in, true_and, I_cl, Int.toNat_natCast, hx i (by omega), hy i (by omega), I_eq, I_le, fe, I_add]
    refine ⟨fun z => absurd z (by omega), fun _ => ⟨fun q => ?_, fun q => ⟨fun q2 => ?_, fun q2 => ?_⟩⟩⟩
    · rw [show (i : Int) + -1 = (i : Int) - 1 by omega]
      exact ih (by omega) (top_eq he (by omega))
    · have := top_lt hB he.symm (show Dg 16777216 y i < Dg 16777216 x i by omega)
      rw [if_neg (by omega)] at hp; exact hp
    · have := top_lt hB he (show Dg 16777216 x i < Dg 16777216 y i by omega)
      rw [if_pos (by omega)] at hp; exact hp
theorem power_ok {σ : St} {q a n : Nat} {post : St → Prop} (hq : q ≠ 60) (ha : a ≤ 1000000) (hn : gI σ 60 3 = II n) (hn2 : n ≤ 1000) (hp : ∀ τ, Eqx [q] σ τ → LI τ q (a ^ n) → post τ) : wpX6_power q 24 (II a) σ post := by
  unfold wpX6_power
  refine zfill_ok (by omega) ?_
  intro τ tE tv
  simp only [fe]
  refine ⟨of_eq_true (I_in (a := 0) (N := 24) (by omega)), ?_⟩
  have key := up (P := fun f i => ∀ υ, Eqx [q] σ υ → LI υ q (a ^ i) → wbX6_power_11 q 24 post f (II a) (II i) υ) n ?_ ?_ 0 (by omega)
  · obtain ⟨f, hf⟩ := key
    refine ⟨f, hf _ (Eqx_tI tE (by simp)) (fun i hi => ?_)⟩
    rw [Nat.pow_zero, Dg_one (by decide)]
    by_cases c : i = 0
    · rw [c, if_pos rfl]; exact rI1
    · rw [if_neg c]
      show gI (sI τ q 0 1) q i = _
      rw [rI3 c, tv i hi]; rfl
  · intro f υ uE uL
    have u3 : gI υ 60 3 = II n := by rw [Eqx_gI uE (by simpa using hq.symm)]; exact hn
    simp (disch := omega) only [wbX6_power_11, u3, I_le]
    exact ⟨fun _ => hp υ uE uL, fun z => absurd (Int.le_refl _) z⟩
  · intro f i hi ih υ uE uL
    have u3 : gI υ 60 3 = II n := by rw [Eqx_gI uE (by simpa using hq.symm)]; exact hn
    simp (disch := omega) only [wbX6_power_11, u3, I_le, fe, I_lit, I_add]
    refine ⟨fun z => absurd z (by omega), fun _ => times_ok ha uL ?_⟩
    intro ω wE wL
    refine ih ω (Eqx.trans uE wE) ?_
    rw [Nat.pow_succ, Nat.mul_comm]; exact wL
