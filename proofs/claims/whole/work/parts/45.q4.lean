/-! queries: crossed -/
def dg (G : GV) (n : Nat) (i : Nat) : Int := 2 * gt G i 5 n - gt G i 6 n
def ld (d : Nat → Int) : Nat → Bool
  | 0 => false
  | i + 1 => ld d i || decide (d i < 0)
def cr (d e : Nat → Int) : Nat → Int
  | 0 => -1
  | i + 1 => if cr d e i = -1 then (if 40 ≤ i ∧ ld d i = true ∧ 0 ≤ d i ∧ 0 < e i then (i : Int) - 40 else -1) else cr d e i
def ag (d e : Nat → Int) : Nat → Bool
  | 0 => false
  | i + 1 => if cr d e i = -1 then ag d e i else ag d e i || decide (d i < 0)
theorem cr_in (d e : Nat → Int) (i : Nat) : -1 ≤ cr d e i ∧ cr d e i < (i : Int) - 40 ∨ cr d e i = -1 := by
  induction i with
  | zero => exact Or.inr rfl
  | succ i ih => simp only [cr]; split
                 · split <;> omega
                 · omega
theorem cr_stay {d e : Nat → Int} {i : Nat} (h : cr d e i ≠ -1) (j : Nat) : cr d e (i + j) = cr d e i := by
  induction j with
  | zero => rfl
  | succ j ih =>
    have : cr d e (i + (j + 1)) = if cr d e (i + j) = -1 then (if 40 ≤ i + j ∧ ld d (i + j) = true ∧ 0 ≤ d (i + j) ∧ 0 < e (i + j) then ((i + j : Nat) : Int) - 40 else -1) else cr d e (i + j) := rfl
    rw [this, ih, if_neg h]
theorem ag_stay {d e : Nat → Int} {i : Nat} (h : ag d e i = true) (j : Nat) : ag d e (i + j) = true := by
  induction j with
  | zero => exact h
  | succ j ih =>
    have : ag d e (i + (j + 1)) = if cr d e (i + j) = -1 then ag d e (i + j) else ag d e (i + j) || decide (d (i + j) < 0) := rfl
    rw [this, ih]; split <;> rfl
theorem ag_no {d e : Nat → Int} (i : Nat) (h : cr d e i = -1) : ag d e (i + 1) = false := by
  have a : ∀ i, cr d e i = -1 → ag d e i = false := by
    intro i
    induction i with
    | zero => intro _; rfl
    | succ i ih =>
      intro h
      by_cases c : cr d e i = -1
      · simp only [ag]; rw [if_pos c]; exact ih c
      · exact absurd h (by rw [cr_stay c 1]; exact c)
  simp only [ag]; rw [if_pos h]; exact a i h
theorem girlsMore_ok {σ : St} {G : GV} {o n : Nat} {y : Int} {post : Int32 → St → Prop} (B : Bk σ 0 G o) (hn : n < 16) (hy : -40 ≤ y ∧ y ≤ 60) (hp : post (II (dg G n (y + 40).toNat)) σ) : wpX10_girlsMore (II n) (II y) σ post := by
  unfold wpX10_girlsMore
  refine between_ok (g := 5) B (by omega) hn (by omega) (by omega) ?_
  rw [show (y + 41).toNat = (y + 40).toNat + 1 by omega, rg_one]
  refine cin_ok B hn hy ?_
  rw [I_lit, I_mul, I_sub]
  exact hp
theorem dg_in {G : GV} (h : GB G) (n i : Nat) : -119988 ≤ dg G n i ∧ dg G n i ≤ 239976 := by
  have a := gt_nn h i 5 n
  have b := gt_le h i 5 n
  have c := gt_nn h i 6 n
  have d := gt_le h i 6 n
  unfold dg; omega
def bI (b : Bool) : Int := if b then 1 else 0
theorem crossing_ok {σ : St} {G : GV} {o n : Nat} {M : Int} {post : Int32 → St → Prop} (B : Bk σ 0 G o) (hG : GB G) (hn : n < 16) (h9 : gI σ 9 0 = II M) (hM : 0 ≤ M ∧ M ≤ 61) (hp : post (II (cr (dg G n) (fun i => gt G i 6 n) (M + 40).toNat)) σ) : wpX10_crossing (II n) σ post := by
  unfold wpX10_crossing
  have key := up (P := fun f i => cr (dg G n) (fun i => gt G i 6 n) i = -1 → wbX10_crossing_5 post f (II n) (II (bI (ld (dg G n) i))) (II ((i : Int) - 40)) σ) (M + 40).toNat ?_ ?_ 0 (by omega)
  · obtain ⟨f, hf⟩ := key
    exact ⟨f, hf rfl⟩
  · intro f hc
    simp (disch := omega) only [wbX10_crossing_5, h9, I_lit, I_neg, I_le]
    rw [hc] at hp
    exact ⟨fun _ => hp, fun q => absurd (by omega) q⟩
  · intro f i hi ih hc
    simp (disch := omega) only [wbX10_crossing_5, h9, I_lit, I_neg, I_le]
    refine ⟨fun q => absurd q (by omega), fun _ => girlsMore_ok B hn (by omega) ?_⟩
    rw [show ((i : Int) - 40 + 40).toNat = i by omega]
    have b := dg_in hG n i
    have g1 := gt_nn hG i 6 n
    have g2 := gt_le hG i 6 n
    have e1 : cr (dg G n) (fun i => gt G i 6 n) (i + 1) = if cr (dg G n) (fun i => gt G i 6 n) i = -1 then (if 40 ≤ i ∧ ld (dg G n) i = true ∧ 0 ≤ dg G n i ∧ 0 < gt G i 6 n then (i : Int) - 40 else -1) else cr (dg G n) (fun i => gt G i 6 n) i := rfl
    rw [if_pos hc] at e1
    have e2 : ld (dg G n) (i + 1) = (ld (dg G n) i || decide (dg G n i < 0)) := rfl
    have step : ¬ (40 ≤ i ∧ ld (dg G n) i = true ∧ 0 ≤ dg G n i ∧ 0 < gt G i 6 n) → wbX10_crossing_48 (wbX10_crossing_5 post f) post (II n) (II (bI (ld (dg G n) i))) (II ((i : Int) - 40)) (II (dg G n i)) σ := by
      intro nc
      rw [if_neg nc] at e1
      have ih' := ih e1
      rw [e2] at ih'
      rw [show ((i + 1 : Nat) : Int) - 40 = (i : Int) - 40 + 1 by omega] at ih'
      unfold wbX10_crossing_48
      simp (disch := omega) only [I_lit, I_le, fe, I_add]
      cases hl : ld (dg G n) i with
      | true =>
        rw [hl] at ih'
        exact ⟨fun _ => ih', fun q => absurd q i10⟩
      | false =>
        rw [hl] at ih'
        refine ⟨fun q => absurd i00 q, fun _ => ⟨fun q => ?_, fun q => ?_⟩⟩
        · rw [decide_eq_false (show ¬ dg G n i < 0 by omega)] at ih'; exact ih'
        · rw [decide_eq_true (show dg G n i < 0 by omega)] at ih'; exact ih'
    have hb : bI (ld (dg G n) i) = 0 ∨ bI (ld (dg G n) i) = 1 := by cases ld (dg G n) i <;> simp [bI]
    have hb1 : bI (ld (dg G n) i) = 0 → ¬ ld (dg G n) i = true := by cases ld (dg G n) i <;> simp [bI]
    have hb2 : ¬ bI (ld (dg G n) i) = 0 → ld (dg G n) i = true := by cases ld (dg G n) i <;> simp [bI]
    simp (disch := omega) only [I_lt, I_eq]
    refine ⟨fun q => step (by omega), fun q => ⟨fun q2 => step (fun z => hb1 q2 z.2.1), fun q2 => ⟨fun q3 => step (by omega), fun q3 => cin_ok B hn (by omega) ?_⟩⟩⟩
    rw [show ((i : Int) - 40 + 40).toNat = i by omega, I_le (by omega)]
    refine ⟨fun q4 => step (by omega), fun q4 => ?_⟩
    rw [if_pos ⟨by omega, hb2 q2, by omega, by omega⟩] at e1
    have := cr_stay (d := dg G n) (e := fun i => gt G i 6 n) (i := i + 1) (by omega) ((M + 40).toNat - (i + 1))
    rw [show i + 1 + ((M + 40).toNat - (i + 1)) = (M + 40).toNat by omega, e1] at this
    rw [this] at hp
    exact hp
theorem boysAgain_ok {σ : St} {G : GV} {o n : Nat} {M c : Int} {post : Int32 → St → Prop} (B : Bk σ 0 G o) (hG : GB G) (hn : n < 16) (h9 : gI σ 9 0 = II M) (hM : 0 ≤ M ∧ M ≤ 61) (hc : 0 ≤ c ∧ c < M) (ec : c = cr (dg G n) (fun i => gt G i 6 n) (c + 41).toNat) (ec2 : cr (dg G n) (fun i => gt G i 6 n) (c + 40).toNat = -1) (hp : post (II (bI (ag (dg G n) (fun i => gt G i 6 n) (M + 40).toNat))) σ) : wpX10_boysAgain (II n) (II c) σ post := by
  unfold wpX10_boysAgain
  simp only [fe, I_lit, I_add]
  have key := up (P := fun f i => (c + 41).toNat ≤ i → ag (dg G n) (fun i => gt G i 6 n) i = false → wbX10_boysAgain_4 post f (II n) (II ((i : Int) - 40)) σ) (M + 40).toNat ?_ ?_ (c + 41).toNat (by omega)
  · obtain ⟨f, hf⟩ := key
    have a := ag_no _ ec2
    rw [show (c + 40).toNat + 1 = (c + 41).toNat by omega] at a
    have := hf (Nat.le_refl _) a
    rw [show (((c + 41).toNat : Nat) : Int) - 40 = c + 1 by omega] at this
    exact ⟨f, this⟩
  · intro f _ ha
    simp (disch := omega) only [wbX10_boysAgain_4, h9, I_le]
    rw [ha] at hp
    exact ⟨fun _ => hp, fun q => absurd (by omega) q⟩
  · intro f i hi ih h1 ha
    simp (disch := omega) only [wbX10_boysAgain_4, h9, I_le]
    refine ⟨fun q => absurd q (by omega), fun _ => girlsMore_ok B hn (by omega) ?_⟩
    rw [show ((i : Int) - 40 + 40).toNat = i by omega]
    have b := dg_in hG n i
    have s := cr_stay (d := dg G n) (e := fun i => gt G i 6 n) (i := (c + 41).toNat) (by omega) (i - (c + 41).toNat)
    rw [show (c + 41).toNat + (i - (c + 41).toNat) = i by omega] at s
    have e2 : ag (dg G n) (fun i => gt G i 6 n) (i + 1) = if cr (dg G n) (fun i => gt G i 6 n) i = -1 then ag (dg G n) (fun i => gt G i 6 n) i else (ag (dg G n) (fun i => gt G i 6 n) i || decide (dg G n i < 0)) := rfl
    rw [if_neg (by omega), ha] at e2
    rw [I_lit, I_le (by omega)]
    simp only [fe, I_lit, I_add]
    refine ⟨fun q => ?_, fun q => ?_⟩
    · rw [decide_eq_false (show ¬ dg G n i < 0 by omega)] at e2
      have := ih (by omega) e2
      rw [show ((i + 1 : Nat) : Int) - 40 = (i : Int) - 40 + 1 by omega] at this
      exact this
    · rw [decide_eq_true (show dg G n i < 0 by omega)] at e2
      have := ag_stay (d := dg G n) (e := fun i => gt G i 6 n) (i := i + 1) e2 ((M + 40).toNat - (i + 1))
      rw [show i + 1 + ((M + 40).toNat - (i + 1)) = (M + 40).toNat by omega] at this
      rw [this] at hp
      exact hp
