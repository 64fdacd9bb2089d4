/-! chance: the reference's rows -/
def LR (σ : St) (q f x : Nat) : Prop := ∀ i, i < 30 → gL σ q (f + i) = LL (Dg 1000000000 x i : Nat)
theorem dv9 {v : Nat} (h : v < 2 ^ 62) : LL (v : Int) / 1000000000 = LL ((v / 1000000000 : Nat) : Int) := by
  rw [show (1000000000 : Int64) = LL 1000000000 from rfl, L_div (by omega)]; rfl
theorem rm9 {v : Nat} (h : v < 2 ^ 62) : LL (v : Int) - LL ((v / 1000000000 : Nat) : Int) * 1000000000 = LL ((v % 1000000000 : Nat) : Int) := by
  rw [show (1000000000 : Int64) = LL 1000000000 from rfl, L_mul, L_sub]
  congr 1; omega
theorem h9 : 0 < 1000000000 := by decide
theorem k30 : 72 ^ 72 * 1000000 < 1000000000 ^ 30 := by decide +kernel
theorem small9 {o e n x : Nat} (hs : o + e ≤ 72) (hn : n ≤ 72) (hx : x ≤ (o + e) ^ n) : x * 1000000 < 1000000000 ^ 30 := by
  have h1 := pow72 hs hn
  have h2 := Nat.mul_le_mul_right 1000000 (Nat.le_trans hx h1)
  exact Nat.lt_of_le_of_lt h2 k30
theorem arow_ok {σ : St} {o e j x z : Nat} {K3 : Int32 → Int32 → Int32 → St → Prop} {post : St → Prop} (ho : o ≤ 72) (he : e ≤ 72) (hj : j < 80) (hx : LR σ 114 (30 * j) x) (hz : 0 < j → LR σ 114 (30 * (j - 1)) z) (hz0 : j = 0 → z = 0)
    (hk : ∀ τ, Eqx [114] σ τ → (∀ k, k < 30 * j ∨ 30 * j + 30 ≤ k → gL τ 114 k = gL σ 114 k) → LR τ 114 (30 * j) (o * x + e * z) → K3 (II e) (II o) (II ((j : Int) - 1)) τ) : ∃ f, wbX12_adds_14 K3 post f (II e) (II o) (II j) 0 0 σ := by
  have key := up (P := fun f i => ∀ υ, Eqx [114] σ υ → (∀ k, k < 30 * j ∨ 30 * j + i ≤ k → gL υ 114 k = gL σ 114 k) → (∀ k, k < i → gL υ 114 (30 * j + k) = LL (Dg 1000000000 (o * x + e * z) k : Nat)) → wbX12_adds_14 K3 post f (II e) (II o) (II j) (LL (Cr 1000000000 o x e z i : Nat)) (II i) υ) 30 ?_ ?_ 0 (by omega)
  · obtain ⟨f, hf⟩ := key
    have := hf σ (Eqx.refl _ _) (fun _ _ => rfl) (fun k hk => absurd hk (by omega))
    rw [Cr_zero] at this
    exact ⟨f, this⟩
  · intro f υ uE u1 u2
    simp (disch := omega) only [wbX12_adds_14, I_lit, I_neg, I_le, fe, I_add]
    refine ⟨fun _ => ?_, fun z => absurd (by decide) z⟩
    rw [show (j : Int) + -1 = (j : Int) - 1 by omega]
    exact hk υ uE u1 u2
  · intro f i hi ih υ uE u1 u2
    have hd := Dg_lt h9 x i
    have hd2 := Dg_lt h9 z i
    have hc := Cr_le h9 o x e z i
    have ex : gL υ 114 (30 * j + i) = LL (Dg 1000000000 x i : Nat) := by rw [u1 _ (by omega)]; exact hx i hi
    have D := Dg_lin h9 o x e z i
    rw [Cr_succ h9] at ih
    have ez : 0 < j → gL υ 114 (30 * (j - 1) + i) = LL (Dg 1000000000 z i : Nat) := fun q => by rw [u1 _ (by omega)]; exact hz q i hi
    have ez0 : j = 0 → Dg 1000000000 z i = 0 := fun q => by rw [hz0 q, Dg_zero]
    have m1 := Nat.mul_le_mul ho (Nat.le_of_lt hd)
    have m2 := Nat.mul_le_mul he (Nat.le_of_lt hd2)
    generalize Dg 1000000000 x i = d at *
    generalize Dg 1000000000 z i = d2 at *
    generalize Cr 1000000000 o x e z i = c at *
    have j1 : (30 * (j : Int) + (i : Int)).toNat = 30 * j + i := by omega
    have e1 : (d : Int) * (o : Int) + (c : Int) = ((c + o * d : Nat) : Int) := by rw [Int.natCast_add, Int.natCast_mul, Int.mul_comm, Int.add_comm]
    have nx : ∀ w : Nat, w = e * d2 → wbX12_adds_68 (wbX12_adds_14 K3 post f) post (II e) (II o) (II j) (II i) (LL (w : Int)) (LL ((c + o * d : Nat) : Int)) υ := by
      intro w hw
      rw [← hw] at ih D m2
      generalize o * d = od at *
      have e2 : ((c + od : Nat) : Int) + (w : Int) = ((c + (od + w) : Nat) : Int) := by omega
      simp (disch := omega) only [wbX12_adds_68, L_add, e2, fe, I_lit, I_mul, I_add, I_in, true_and, I_cl, j1, dv9, rm9]
      refine ih _ (Eqx_tL uE (by simp)) (fun k hk => ?_) (fun k hk => ?_)
      · rw [rL3 (by omega)]; exact u1 k (by omega)
      · by_cases ek : k = i
        · rw [ek, rL1, D]
        · rw [rL3 (by omega)]; exact u2 k (by omega)
    simp (disch := omega) only [wbX12_adds_14, I_lit, I_le, I_mul, I_add, I_sub, I_in, true_and, I_cl, j1, ex, I_wide, L_mul, L_add, e1]
    refine ⟨fun q => absurd q (by omega), fun _ => ⟨fun q => ?_, fun q => ?_⟩⟩
    · exact nx 0 (by rw [ez0 (by omega), Nat.mul_zero])
    · have j2 : (30 * (j : Int) - 30 + (i : Int)).toNat = 30 * (j - 1) + i := by omega
      simp (disch := omega) only [I_in, true_and, I_cl, j2, ez (by omega), L_mul]
      have := nx (e * d2) rfl
      rw [Int.natCast_mul, Int.mul_comm] at this
      exact this
def RwS (σ : St) (c : Nat → Nat) : Prop := ∀ j, j < 80 → LR σ 114 (30 * j) (c j)
theorem adds_ok {σ : St} {o e t : Nat} {post : St → Prop} (ho : o ≤ 72) (he : e ≤ 72) (ht : t < 79) (hS : RwS σ (cf o e t)) (hp : ∀ τ, Eqx [114] σ τ → RwS τ (cf o e (t + 1)) → post τ) : wpX12_adds (II ((t : Int) + 1)) (II e) (II o) σ post := by
  unfold wpX12_adds
  have key := dn (P := fun f j => j ≤ t + 2 → ∀ υ, Eqx [114] σ υ → RwS υ (fun r => if j ≤ r then cf o e (t + 1) r else cf o e t r) → wbX12_adds_3 post f (II e) (II o) (II ((j : Int) - 1)) υ) ?_ ?_ (t + 2)
  · obtain ⟨f, hf⟩ := key
    have := hf (Nat.le_refl _) σ (Eqx.refl _ _) (fun r hr => by
      have := hS r hr
      by_cases c : t + 2 ≤ r
      · rw [cf_zero o e t r (by omega)] at this
        simp only [c, if_true]
        rw [cf_zero o e (t + 1) r (by omega)]; exact this
      · simp only [c, if_false]; exact this)
    rw [show ((t + 2 : Nat) : Int) - 1 = (t : Int) + 1 by omega] at this
    exact ⟨f, this⟩
  · intro f _ υ uE uS
    simp (disch := omega) only [wbX12_adds_3, I_lit, I_lt]
    exact ⟨fun _ => hp υ uE (fun r hr => by have := uS r hr; simpa using this), fun z => absurd (by decide) z⟩
  · intro f j ih hj υ uE uS
    rw [show ((j + 1 : Nat) : Int) - 1 = (j : Int) by omega]
    simp (disch := omega) only [wbX12_adds_3, I_lit, I_lt]
    refine ⟨fun z => absurd z (by omega), fun _ => ?_⟩
    have s1 : cf o e (t + 1) j = o * cf o e t j + e * (if j = 0 then 0 else cf o e t (j - 1)) := by
      simp only [cf]
      by_cases c : j = 0
      · rw [if_pos c, if_pos c, Nat.mul_comm, Nat.mul_zero]
      · rw [if_neg c, if_neg c, Nat.mul_comm, Nat.mul_comm e]
    refine arow_ok (x := cf o e t j) (z := if j = 0 then 0 else cf o e t (j - 1)) ho he (by omega) ?_ (fun q => ?_) (fun q => if_pos q) ?_
    · have : LR υ 114 (30 * j) (if j + 1 ≤ j then cf o e (t + 1) j else cf o e t j) := uS j (by omega)
      rw [if_neg (by omega)] at this; exact this
    · have : LR υ 114 (30 * (j - 1)) (if j + 1 ≤ j - 1 then cf o e (t + 1) (j - 1) else cf o e t (j - 1)) := uS (j - 1) (by omega)
      rw [if_neg (by omega)] at this
      rw [if_neg (by omega)]; exact this
    · intro τ tE t1 t2
      refine ih (by omega) τ (Eqx.trans uE tE) (fun r hr => ?_)
      show LR τ 114 (30 * r) (if j ≤ r then cf o e (t + 1) r else cf o e t r)
      by_cases c : r = j
      · rw [if_pos (by omega), c, s1]; exact t2
      · intro i hi
        have : gL υ 114 (30 * r + i) = LL (Dg 1000000000 (if j + 1 ≤ r then cf o e (t + 1) r else cf o e t r) i : Nat) := uS r hr i hi
        rw [t1 _ (by omega), this]
        by_cases c2 : j ≤ r
        · rw [if_pos c2, if_pos (by omega)]
        · rw [if_neg c2, if_neg (by omega)]
theorem sums_ok {σ : St} {o e n a b : Nat} {post : St → Prop} (hS : RwS σ (cf o e n)) (hab : a ≤ b + 1) (hb : b < 80) (hp : ∀ τ, Eqx [115] σ τ → LR τ 115 0 (cs o e n (b + 1) - cs o e n a) → post τ) : wpX12_sums (II a) (II b) σ post := by
  unfold wpX12_sums
  have key := up (P := fun f i => ∀ υ, Eqx [115] σ υ → (∀ k, k < i → gL υ 115 k = LL 0) → wbX12_sums_2 post f (II a) (II b) (II i) υ) 30 ?_ ?_ 0 (by omega)
  · obtain ⟨f, hf⟩ := key
    exact ⟨f, hf σ (Eqx.refl _ _) (fun k hk => absurd hk (by omega))⟩
  · intro f υ uE u0
    simp (disch := omega) only [wbX12_sums_2, I_lit, I_le]
    refine ⟨fun _ => ?_, fun z => absurd (by decide) z⟩
    have k2 := up (P := fun f r => a ≤ r → ∀ ω, Eqx [115] σ ω → LR ω 115 0 (cs o e n r - cs o e n a) → wbX12_sums_23 post f (II b) (II r) ω) (b + 1) ?_ ?_ a (by omega)
    · obtain ⟨g, hg⟩ := k2
      exact ⟨g, hg (Nat.le_refl _) υ uE (fun i hi => by rw [Nat.sub_self, Dg_zero, Nat.zero_add]; exact u0 i hi)⟩
    · intro g _ ω wE wL
      simp (disch := omega) only [wbX12_sums_23, I_lt]
      exact ⟨fun _ => hp ω wE wL, fun z => absurd (by omega) z⟩
    · intro g r hr ih har ω wE wL
      simp (disch := omega) only [wbX12_sums_23, I_lt]
      refine ⟨fun z => absurd z (by omega), fun _ => ?_⟩
      have mono := cs_mono o e n a (r - a)
      rw [show a + (r - a) = r by omega] at mono
      have er : cs o e n (r + 1) - cs o e n a = 1 * (cs o e n r - cs o e n a) + 1 * cf o e n r := by
        have : cs o e n (r + 1) = cs o e n r + cf o e n r := rfl
        omega
      have ih := ih (by omega)
      rw [er] at ih
      generalize cs o e n r - cs o e n a = X at *
      have hc := hS r (by omega)
      generalize cf o e n r = Z at *
      have k3 := up (P := fun h i => ∀ ρ, Eqx [115] ω ρ → (∀ k, i ≤ k → gL ρ 115 k = gL ω 115 k) → (∀ k, k < i → gL ρ 115 k = LL (Dg 1000000000 (1 * X + 1 * Z) k : Nat)) → wbX12_sums_34 (wbX12_sums_23 post g) post h (II b) (II r) (LL (Cr 1000000000 1 X 1 Z i : Nat)) (II i) ρ) 30 ?_ ?_ 0 (by omega)
      · obtain ⟨h, hh⟩ := k3
        have := hh ω (Eqx.refl _ _) (fun _ _ => rfl) (fun k hk => absurd hk (by omega))
        rw [Cr_zero] at this
        exact ⟨h, this⟩
      · intro h ρ rE r1 r2
        simp (disch := omega) only [wbX12_sums_34, I_lit, I_le, fe, I_add]
        exact ⟨fun _ => ih ρ (Eqx.trans wE rE) (fun i hi => by rw [Nat.zero_add]; exact r2 i hi), fun z => absurd (by decide) z⟩
      · intro h i hi ih2 ρ rE r1 r2
        have hd := Dg_lt h9 X i
        have hd2 := Dg_lt h9 Z i
        have hcr := Cr_le h9 1 X 1 Z i
        have ex : gL ρ 115 i = LL (Dg 1000000000 X i : Nat) := by
          rw [r1 i (Nat.le_refl _)]
          have := wL i hi
          rw [Nat.zero_add] at this; exact this
        have ez : gL ρ 114 (30 * r + i) = LL (Dg 1000000000 Z i : Nat) := by rw [Eqx_gL rE (by simp), Eqx_gL wE (by simp)]; exact hc i hi
        have D := Dg_lin h9 1 X 1 Z i
        rw [Cr_succ h9] at ih2
        generalize Dg 1000000000 X i = d at *
        generalize Dg 1000000000 Z i = d2 at *
        generalize Cr 1000000000 1 X 1 Z i = c at *
        have j1 : (30 * (r : Int) + (i : Int)).toNat = 30 * r + i := by omega
        have e2 : (d : Int) + (d2 : Int) + (c : Int) = ((c + (1 * d + 1 * d2) : Nat) : Int) := by omega
        simp (disch := omega) only [wbX12_sums_34, I_lit, I_le, I_mul, I_add, I_in, true_and, I_cl, j1, Int.toNat_natCast, ex, ez, L_add, e2, fe, dv9, rm9]
        refine ⟨fun q => absurd q (by omega), fun _ => ih2 _ (Eqx_tL rE (by simp)) (fun k hk => ?_) (fun k hk => ?_)⟩
        · rw [rL3 (by omega)]; exact r1 k (by omega)
        · by_cases ek : k = i
          · rw [ek, rL1, D]
          · rw [rL3 ek]; exact r2 k (by omega)
  · intro f i hi ih υ uE u0
    simp (disch := omega) only [wbX12_sums_2, I_lit, L_lit, I_le, I_in, true_and, I_cl, Int.toNat_natCast, fe, I_add]
    refine ⟨fun z => absurd z (by omega), fun _ => ih _ (Eqx_tL uE (by simp)) (fun k hk => ?_)⟩
    by_cases ek : k = i
    · rw [ek, rL1]
    · rw [rL3 ek]; exact u0 k (by omega)
theorem risRare_ok {σ : St} {x y t : Nat} {post : Int32 → St → Prop} (ht : t ≤ 1000000) (hx : LR σ 115 0 x) (hy : LR σ 116 0 y) (hx2 : x * t < 1000000000 ^ 30) (hy2 : y < 1000000000 ^ 30) (hp : ∀ τ, Eqx [115] σ τ → post (II (if x * t ≤ y then 1 else 0)) τ) : wpX12_isRare (II t) σ post := by
  have D1 : ∀ i, Dg 1000000000 (x * t) i = (Cr 1000000000 t x 0 0 i + t * Dg 1000000000 x i) % 1000000000 := fun i => by
    have := Dg_lin h9 t x 0 0 i
    rw [Nat.zero_mul, Nat.add_zero, Nat.zero_mul, Nat.add_zero, Nat.mul_comm] at this; exact this
  have C1 : ∀ i, Cr 1000000000 t x 0 0 (i + 1) = (Cr 1000000000 t x 0 0 i + t * Dg 1000000000 x i) / 1000000000 := fun i => by
    have := Cr_succ h9 t x 0 0 i
    rw [Nat.zero_mul, Nat.add_zero] at this; exact this
  unfold wpX12_isRare
  have key := up (P := fun f i => ∀ υ, Eqx [115] σ υ → (∀ k, k < i → gL υ 115 k = LL (Dg 1000000000 (x * t) k : Nat)) → (∀ k, i ≤ k → gL υ 115 k = gL σ 115 k) → wbX12_isRare_5 post f (II t) (LL (Cr 1000000000 t x 0 0 i : Nat)) (II i) υ) 30 ?_ ?_ 0 (by omega)
  · obtain ⟨f, hf⟩ := key
    have := hf σ (Eqx.refl _ _) (fun k hk => absurd hk (by omega)) (fun _ _ => rfl)
    rw [Cr_zero] at this
    exact ⟨f, this⟩
  · intro f υ uE u1 u2
    simp (disch := omega) only [wbX12_isRare_5, I_lit, I_le]
    refine ⟨fun _ => ?_, fun z => absurd (by decide) z⟩
    have hp := hp υ uE
    have k2 := dn (P := fun f i => i ≤ 30 → x * t / 1000000000 ^ i = y / 1000000000 ^ i → wbX12_isRare_56 post f (II ((i : Int) - 1)) υ) ?_ ?_ 30
    · obtain ⟨g, hg⟩ := k2
      exact ⟨g, hg (Nat.le_refl _) (by rw [Nat.div_eq_of_lt hx2, Nat.div_eq_of_lt hy2])⟩
    · intro g _ he
      rw [Nat.pow_zero, Nat.div_one, Nat.div_one] at he
      simp (disch := omega) only [wbX12_isRare_56, I_lit, I_lt]
      rw [if_pos (by omega)] at hp
      exact ⟨fun _ => hp, fun z => absurd (by decide) z⟩
    · intro g i ih hi he
      have d1 := Dg_lt h9 (x * t) i
      have d2 := Dg_lt h9 y i
      have e116 : gL υ 116 i = LL (Dg 1000000000 y i : Nat) := by
        rw [Eqx_gL uE (by simp)]
        have := hy i (by omega)
        rw [Nat.zero_add] at this; exact this
      rw [show ((i + 1 : Nat) : Int) - 1 = (i : Int) by omega]
      simp (disch := omega) only [wbX12_isRare_56, I_lit, I_neg, I_lt, I_in, true_and, I_cl, Int.toNat_natCast, u1 i (by omega), e116, L_eq, L_le, fe, I_add]
      refine ⟨fun z => absurd z (by omega), fun _ => ⟨fun q => ?_, fun q => ⟨fun q2 => ?_, fun q2 => ?_⟩⟩⟩
      · rw [show (i : Int) + -1 = (i : Int) - 1 by omega]
        exact ih (by omega) (top_eq he (by omega))
      · have := top_lt h9 he.symm (show Dg 1000000000 y i < Dg 1000000000 (x * t) i by omega)
        rw [if_neg (by omega)] at hp; exact hp
      · have := top_lt h9 he (show Dg 1000000000 (x * t) i < Dg 1000000000 y i by omega)
        rw [if_pos (by omega)] at hp; exact hp
  · intro f i hi ih υ uE u1 u2
    have hd := Dg_lt h9 x i
    have hc := Cr_le h9 t x 0 0 i
    have ex : gL υ 115 i = LL (Dg 1000000000 x i : Nat) := by
      rw [u2 i (Nat.le_refl _)]
      have := hx i hi
      rw [Nat.zero_add] at this; exact this
    have D := D1 i
    rw [C1] at ih
    have m1 := Nat.mul_le_mul ht (Nat.le_of_lt hd)
    generalize Dg 1000000000 x i = d at *
    generalize Cr 1000000000 t x 0 0 i = c at *
    have e2 : (d : Int) * (t : Int) + (c : Int) = ((c + t * d : Nat) : Int) := by rw [Int.natCast_add, Int.natCast_mul, Int.mul_comm, Int.add_comm]
    generalize t * d = td at *
    simp (disch := omega) only [wbX12_isRare_5, I_lit, I_le, I_add, I_in, true_and, I_cl, Int.toNat_natCast, ex, I_wide, L_mul, L_add, e2, fe, dv9, rm9]
    refine ⟨fun q => absurd q (by omega), fun _ => ih _ (Eqx_tL uE (by simp)) (fun k hk => ?_) (fun k hk => ?_)⟩
    · by_cases ek : k = i
      · rw [ek, rL1, D]
      · rw [rL3 ek]; exact u1 k (by omega)
    · rw [rL3 (by omega)]; exact u2 k (by omega)
