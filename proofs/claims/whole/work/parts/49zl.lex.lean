/-! taste: cutting, pure -/
def rn (P : Nat → Bool) (b : Nat → Nat) (l : Nat) : Nat → Nat → Nat
  | 0, q => q
  | f + 1, q => if q < l ∧ P (b q) = true then rn P b l f (q + 1) else q
def rE (P : Nat → Bool) (b : Nat → Nat) (l q : Nat) : Nat := rn P b l (l - q) q
theorem rE_yes {P : Nat → Bool} {b : Nat → Nat} {l q : Nat} (h : q < l) (hp : P (b q) = true) : rE P b l q = rE P b l (q + 1) := by
  unfold rE
  rw [show l - q = (l - (q + 1)) + 1 by omega]
  simp only [rn]
  rw [if_pos ⟨h, hp⟩]
theorem rE_no {P : Nat → Bool} {b : Nat → Nat} {l q : Nat} (h : ¬ (q < l ∧ P (b q) = true)) : rE P b l q = q := by
  unfold rE
  cases l - q with
  | zero => rfl
  | succ f => simp only [rn]; rw [if_neg h]
theorem rE_b {P : Nat → Bool} {b : Nat → Nat} {l : Nat} : ∀ d q, l - q = d → q ≤ l → q ≤ rE P b l q ∧ rE P b l q ≤ l ∧ (rE P b l q < l → P (b (rE P b l q)) = false) ∧ (∀ j, q ≤ j → j < rE P b l q → P (b j) = true) := by
  intro d
  induction d with
  | zero =>
    intro q h hq
    rw [rE_no (by omega)]
    exact ⟨Nat.le_refl _, hq, fun z => by omega, fun j h1 h2 => by omega⟩
  | succ d ih =>
    intro q h hq
    by_cases c : P (b q) = true
    · rw [rE_yes (by omega) c]
      obtain ⟨a1, a2, a3, a4⟩ := ih (q + 1) (by omega) (by omega)
      refine ⟨by omega, a2, a3, fun j h1 h2 => ?_⟩
      by_cases e : j = q
      · rw [e]; exact c
      · exact a4 j (by omega) h2
    · rw [rE_no (fun z => c z.2)]
      exact ⟨Nat.le_refl _, hq, fun _ => by simpa using c, fun j h1 h2 => by omega⟩
def isBl (x : Nat) : Bool := x == 32 || x == 10
def isLt (x : Nat) : Bool := decide (97 ≤ x ∧ x ≤ 122) || decide (65 ≤ x ∧ x ≤ 90)
def isDi (x : Nat) : Bool := decide (48 ≤ x ∧ x ≤ 57)
theorem isLt_iff (x : Nat) : isLt x = true ↔ (97 ≤ x ∧ x ≤ 122) ∨ (65 ≤ x ∧ x ≤ 90) := by unfold isLt; simp
theorem isDi_iff (x : Nat) : isDi x = true ↔ (48 ≤ x ∧ x ≤ 57) := by unfold isDi; simp
theorem isBl_iff (x : Nat) : isBl x = true ↔ (x = 32 ∨ x = 10) := by unfold isBl; simp
def wls : List Nat := [110, 101, 97, 114, 32, 102, 97, 114, 32, 32, 117, 112, 32, 32, 32, 115, 97, 109, 101, 32, 103, 105, 114, 108, 115, 98, 111, 121, 115, 32, 111, 108, 100, 32, 32, 97, 108, 108, 32, 32, 103, 111, 110, 101, 32, 114, 105, 115, 101, 32, 115, 111, 117, 110, 100, 102, 105, 108, 109, 32, 108, 111, 110, 103, 32, 121, 101, 97, 114, 32, 119, 111, 114, 116, 104, 98, 97, 114, 32, 32, 112, 97, 115, 116, 32, 111, 114, 32, 32, 32, 97, 110, 100, 32, 32, 110, 111, 116, 32, 32, 109, 105, 110, 32, 32, 109, 97, 120, 32, 32]
def wll : List Nat := [4, 3, 2, 4, 5, 4, 3, 3, 4, 4, 5, 4, 4, 4, 5, 3, 4, 2, 3, 3, 3, 3]
def wcs : List Nat := [12212338, 157810, 3440, 13507429, 665266995, 9109107, 195364, 138028, 10419109, 13278437, 868178852, 10132269, 11729831, 15095922, 935275816, 141426, 12721396, 3058, 138148, 191476, 186990, 186488]
def cm (b : Nat → Nat) (p q k : Nat) : Bool := (List.range 5).all (fun j => wls.getD (5 * k + j) 0 == (if p + j < q then b (p + j) else 32))
theorem cm_iff (b : Nat → Nat) (p q k : Nat) : cm b p q k = true ↔ ∀ j, j < 5 → wls.getD (5 * k + j) 0 = (if p + j < q then b (p + j) else 32) := by
  unfold cm; rw [List.all_eq_true]
  constructor
  · intro h j hj
    have := h j (by simpa using hj)
    simpa using this
  · intro h j hj
    have := h j (by simpa using hj)
    simpa using this
def fm (P : Nat → Bool) : Nat → Nat → Nat
  | 0, _ => 38
  | n + 1, i => if P i = true then i else fm P n (i + 1)
theorem fm_spec (P : Nat → Bool) : ∀ n i, i + n = 22 → (fm P n i = 38 ∧ ∀ k, i ≤ k → k < 22 → P k = false) ∨ (i ≤ fm P n i ∧ fm P n i < 22 ∧ P (fm P n i) = true ∧ ∀ k, i ≤ k → k < fm P n i → P k = false) := by
  intro n
  induction n with
  | zero => intro i h; exact Or.inl ⟨rfl, fun k h1 h2 => by omega⟩
  | succ n ih =>
    intro i h
    simp only [fm]
    by_cases c : P i = true
    · rw [if_pos c]; exact Or.inr ⟨Nat.le_refl _, by omega, c, fun k h1 h2 => by omega⟩
    · rw [if_neg c]
      have c' : P i = false := by simpa using c
      rcases ih (i + 1) (by omega) with ⟨a, b⟩ | ⟨a, b, d, e⟩
      · refine Or.inl ⟨a, fun k h1 h2 => ?_⟩
        by_cases ek : k = i
        · rw [ek]; exact c'
        · exact b k (by omega) h2
      · refine Or.inr ⟨by omega, b, d, fun k h1 h2 => ?_⟩
        by_cases ek : k = i
        · rw [ek]; exact c'
        · exact e k (by omega) h2
def wdK (b : Nat → Nat) (p q : Nat) : Nat := if 5 < q - p then 38 else fm (cm b p q) 22 0
def cdN (g : Nat → Nat) : Nat → Nat
  | 0 => 0
  | n + 1 => 64 * cdN g n + g n
theorem cd_inj {g h : Nat → Nat} : ∀ n m, (∀ i, i < n → 1 ≤ g i ∧ g i ≤ 63) → (∀ i, i < m → 1 ≤ h i ∧ h i ≤ 63) → cdN g n = cdN h m → n = m ∧ ∀ i, i < n → g i = h i := by
  intro n
  induction n with
  | zero =>
    intro m _ hh e
    cases m with
    | zero => exact ⟨rfl, fun i hi => absurd hi (by omega)⟩
    | succ m => have := hh m (by omega); simp only [cdN] at e; omega
  | succ n ih =>
    intro m hg hh e
    cases m with
    | zero => have := hg n (by omega); simp only [cdN] at e; omega
    | succ m =>
      have a := hg n (by omega)
      have b := hh m (by omega)
      simp only [cdN] at e
      have e1 : g n = h m := by omega
      obtain ⟨e2, e3⟩ := ih m (fun i hi => hg i (by omega)) (fun i hi => hh i (by omega)) (by omega)
      refine ⟨by omega, fun i hi => ?_⟩
      by_cases c : i = n
      · rw [c, e1, e2]
      · exact e3 i (by omega)
theorem cd_congr {g h : Nat → Nat} : ∀ n, (∀ i, i < n → g i = h i) → cdN g n = cdN h n := by
  intro n
  induction n with
  | zero => intro _; rfl
  | succ n ih => intro e; simp only [cdN]; rw [ih (fun i hi => e i (by omega)), e n (by omega)]
theorem cd_lt {g : Nat → Nat} : ∀ n, (∀ i, i < n → g i ≤ 63) → cdN g n < 64 ^ n := by
  intro n
  induction n with
  | zero => intro _; show 0 < 1; omega
  | succ n ih => intro e; simp only [cdN]; have := ih (fun i hi => e i (by omega)); have := e n (by omega); rw [Nat.pow_succ]; omega
theorem wl_tab : ∀ k, k < 22 → wll.getD k 0 ≤ 5 ∧ 1 ≤ wll.getD k 0 ∧ (∀ j, j < 5 → (j < wll.getD k 0 → 97 ≤ wls.getD (5 * k + j) 0 ∧ wls.getD (5 * k + j) 0 ≤ 122) ∧ (wll.getD k 0 ≤ j → wls.getD (5 * k + j) 0 = 32)) ∧ wcs.getD k 0 = cdN (fun i => wls.getD (5 * k + i) 0 - 64) (wll.getD k 0) := by decide
theorem wc_inj : ∀ k, k < 22 → ∀ k', k' < 22 → wcs.getD k 0 = wcs.getD k' 0 → k = k' := by decide
/-- a word, by letters and by number -/
theorem wd_code {b : Nat → Nat} {p q k : Nat} (hk : k < 22) (hpq : p < q) (hl : ∀ j, p ≤ j → j < q → isLt (b j) = true) : (q - p ≤ 5 ∧ cm b p q k = true) ↔ (cdN (fun i => b (p + i) - 64) (q - p) = wcs.getD k 0) := by
  obtain ⟨w5, w1, wt, wc⟩ := wl_tab k hk
  have lt : ∀ i, i < q - p → 65 ≤ b (p + i) ∧ b (p + i) ≤ 122 := fun i hi => by
    have := (isLt_iff _).mp (hl (p + i) (by omega) (by omega)); omega
  rw [cm_iff]
  constructor
  · rintro ⟨h5, hc⟩
    have el : wll.getD k 0 = q - p := by
      have a : ∀ j, j < 5 → (j < q - p ↔ j < wll.getD k 0) := fun j hj => by
        have e := hc j hj
        constructor
        · intro z
          rw [if_pos (by omega)] at e
          have := lt j z
          by_cases c : j < wll.getD k 0
          · exact c
          · have := (wt j hj).2 (by omega); omega
        · intro z
          by_cases c : j < q - p
          · exact c
          · rw [if_neg (by omega)] at e
            have := (wt j hj).1 z; omega
      by_cases c : wll.getD k 0 < q - p
      · have := (a (wll.getD k 0) (by omega)).mp c; omega
      · by_cases c2 : q - p < wll.getD k 0
        · have := (a (q - p) (by omega)).mpr c2; omega
        · omega
    rw [wc, el]
    refine cd_congr _ (fun i hi => ?_)
    have e := hc i (by omega)
    rw [if_pos (by omega)] at e
    simp only [e]
  · intro e
    rw [wc] at e
    obtain ⟨e1, e2⟩ := cd_inj _ _ (fun i hi => by have := lt i hi; omega) (fun i hi => by have := ((wt i (by omega)).1 hi); omega) e
    refine ⟨by omega, fun j hj => ?_⟩
    by_cases c : p + j < q
    · rw [if_pos c]
      have := e2 j (by omega)
      have a := lt j (by omega)
      have d := (wt j hj).1 (by omega)
      omega
    · rw [if_neg c]; exact (wt j hj).2 (by omega)
theorem wdK_code {b : Nat → Nat} {p q : Nat} (hpq : p < q) (hl : ∀ j, p ≤ j → j < q → isLt (b j) = true) : (∀ k, k < 22 → (cdN (fun i => b (p + i) - 64) (q - p) = wcs.getD k 0 ↔ wdK b p q = k)) ∧ (wdK b p q < 22 ∨ wdK b p q = 38) := by
  unfold wdK
  by_cases c : 5 < q - p
  · rw [if_pos c]
    refine ⟨fun k hk => ⟨fun e => ?_, fun e => by omega⟩, Or.inr rfl⟩
    have := (wd_code hk hpq hl).mpr e; omega
  · rw [if_neg c]
    rcases fm_spec (cm b p q) 22 0 rfl with ⟨a, h⟩ | ⟨a, h1, h2, h3⟩
    · rw [a]
      refine ⟨fun k hk => ⟨fun e => ?_, fun e => by omega⟩, Or.inr rfl⟩
      have := (wd_code hk hpq hl).mpr e
      rw [h k (by omega) hk] at this; exact absurd this.2 (by decide)
    · refine ⟨fun k hk => ?_, Or.inl h1⟩
      have e0 := (wd_code h1 hpq hl).mp ⟨by omega, h2⟩
      constructor
      · intro e; exact wc_inj _ h1 k hk (by rw [← e0, e])
      · intro e; rw [← e]; exact e0
theorem wst {c v : Nat} {X Y : Prop} (hc : c < 2 ^ 60) (hv : v < 2 ^ 60) (hx : c ≠ v → X) (hy : c = v → Y) : ((¬ LL (c : Int) = (OfNat.ofNat v : Int64) → X) ∧ (LL (c : Int) = (OfNat.ofNat v : Int64) → Y)) := by
  have e : (LL (c : Int) = (OfNat.ofNat v : Int64)) ↔ c = v := by
    have l : (OfNat.ofNat v : Int64) = LL ((v : Nat) : Int) := L_lit v
    rw [l, L_eq (by omega)]; omega
  exact ⟨fun z => hx (fun y => z (e.mpr y)), fun z => hy (e.mp z)⟩
theorem rwordOf_ok {υ : St} {c W : Nat} {post : Int32 → St → Prop} (hc : c < 2 ^ 60) (hW : ∀ k, k < 22 → (c = wcs.getD k 0 ↔ W = k)) (hW2 : W < 22 ∨ W = 38) (h1 : W < 22 → post (II (tO W : Nat)) υ) (h0 : W = 38 → post (II (-1)) υ) : wpX12_wordOf (LL (c : Int)) υ post := by
  have y : ∀ k, k < 22 → c = wcs.getD k 0 → post (II (tO k : Nat)) υ := fun k hk e => by
    have := (hW k hk).mp e
    rw [← this]; exact h1 (by omega)
  have n : ∀ k, k < 22 → c ≠ wcs.getD k 0 → W ≠ k := fun k hk e z => e ((hW k hk).mpr z)
  unfold wpX12_wordOf
  refine wst hc (by decide) (fun z => ?_) (fun z => y 14 (by decide) z)
  have n0 := n 14 (by decide) z
  clear z
  refine wst hc (by decide) (fun z => ?_) (fun z => y 15 (by decide) z)
  have n1 := n 15 (by decide) z
  clear z
  refine wst hc (by decide) (fun z => ?_) (fun z => y 0 (by decide) z)
  have n2 := n 0 (by decide) z
  clear z
  refine wst hc (by decide) (fun z => ?_) (fun z => y 16 (by decide) z)
  have n3 := n 16 (by decide) z
  clear z
  refine wst hc (by decide) (fun z => ?_) (fun z => y 17 (by decide) z)
  have n4 := n 17 (by decide) z
  clear z
  refine wst hc (by decide) (fun z => ?_) (fun z => y 18 (by decide) z)
  have n5 := n 18 (by decide) z
  clear z
  refine wst hc (by decide) (fun z => ?_) (fun z => y 19 (by decide) z)
  have n6 := n 19 (by decide) z
  clear z
  refine wst hc (by decide) (fun z => ?_) (fun z => y 20 (by decide) z)
  have n7 := n 20 (by decide) z
  clear z
  refine wst hc (by decide) (fun z => ?_) (fun z => y 21 (by decide) z)
  have n8 := n 21 (by decide) z
  clear z
  refine wst hc (by decide) (fun z => ?_) (fun z => y 1 (by decide) z)
  have n9 := n 1 (by decide) z
  clear z
  refine wst hc (by decide) (fun z => ?_) (fun z => y 2 (by decide) z)
  have n10 := n 2 (by decide) z
  clear z
  refine wst hc (by decide) (fun z => ?_) (fun z => y 3 (by decide) z)
  have n11 := n 3 (by decide) z
  clear z
  refine wst hc (by decide) (fun z => ?_) (fun z => y 4 (by decide) z)
  have n12 := n 4 (by decide) z
  clear z
  refine wst hc (by decide) (fun z => ?_) (fun z => y 5 (by decide) z)
  have n13 := n 5 (by decide) z
  clear z
  refine wst hc (by decide) (fun z => ?_) (fun z => y 6 (by decide) z)
  have n14 := n 6 (by decide) z
  clear z
  refine wst hc (by decide) (fun z => ?_) (fun z => y 7 (by decide) z)
  have n15 := n 7 (by decide) z
  clear z
  refine wst hc (by decide) (fun z => ?_) (fun z => y 8 (by decide) z)
  have n16 := n 8 (by decide) z
  clear z
  refine wst hc (by decide) (fun z => ?_) (fun z => y 9 (by decide) z)
  have n17 := n 9 (by decide) z
  clear z
  refine wst hc (by decide) (fun z => ?_) (fun z => y 10 (by decide) z)
  have n18 := n 10 (by decide) z
  clear z
  refine wst hc (by decide) (fun z => ?_) (fun z => y 11 (by decide) z)
  have n19 := n 11 (by decide) z
  clear z
  refine wst hc (by decide) (fun z => ?_) (fun z => y 12 (by decide) z)
  have n20 := n 12 (by decide) z
  clear z
  refine wst hc (by decide) (fun z => ?_) (fun z => y 13 (by decide) z)
  have n21 := n 13 (by decide) z
  clear z
  exact h0 (by omega)
