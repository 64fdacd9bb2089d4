/-! runs that are the same -/
def GN (G : GV) (N : Nat) : Prop := ∀ Y c n, N ≤ n → G Y c n = 0
theorem GN_rock {K : KT} {G : GV} (h : GN G (kn K)) (y c : Nat) : GN (rock K G y c) (kn K) := by
  unfold rock
  have r := ch_range K G y c
  split
  · exact h
  · rename_i e
    intro Y c' n hn
    have := r.2 e
    unfold gadd
    rw [if_neg (by omega)]; exact h Y c' n hn
theorem GN_rocks {K : KT} {G : GV} (h : GN G (kn K)) (y c k : Nat) : GN (rocks K G y c k) (kn K) := by
  induction k with
  | zero => exact h
  | succ k ih => exact GN_rock ih y c
theorem GN_yr {K : KT} {G : GV} (h : GN G (kn K)) (y c : Nat) : GN (yrG K G y c) (kn K) := by
  induction c with
  | zero => exact h
  | succ c ih => exact GN_rocks ih y c _
theorem GN_run (K : KT) (y : Nat) : GN (run K y) (kn K) := by
  induction y with
  | zero => intro Y c n hn; show G0 K.1 (kn K) Y c n = 0; unfold G0; rw [if_neg (by omega)]
  | succ y ih => exact GN_yr ih y 12
theorem gt_GN {G : GV} {N : Nat} (h : GN G N) (Y g n : Nat) (hn : N ≤ n) : gt G Y g n = 0 := sm_zero (fun c _ => by split; exact h Y c n hn; rfl)
theorem sm_ext {f : Nat → Int} {a b : Nat} (hab : a ≤ b) (h : ∀ k, a ≤ k → k < b → f k = 0) : sm f b = sm f a := by
  obtain ⟨d, rfl⟩ := Nat.exists_eq_add_of_le hab
  rw [sm_split, sm_zero (f := fun k => f (a + k)) (fun k hk => h _ (by omega) (by omega))]; omega
theorem pck_ext {may may' : Nat → Bool} {w w' : Nat → Int} {N N' : Nat} (hN : N ≤ N') (h1 : ∀ n, n < N → may' n = may n) (h2 : ∀ n, n < N → w' n = w n) (h3 : ∀ n, N ≤ n → n < N' → may' n = false) : pck may' w' N' = pck may w N := by
  have e1 : ∀ i, i ≤ N → pck may' w' i = pck may w i := by
    intro i
    induction i with
    | zero => intro _; rfl
    | succ i ih =>
      intro hi
      have a := ih (by omega)
      have pr := pck_range may w i
      simp only [pck]
      rw [a, h1 i (by omega), h2 i (by omega)]
      by_cases c : pck may w i = -1
      · simp [c]
      · rw [h2 (pck may w i).toNat (by omega)]
  obtain ⟨d, rfl⟩ := Nat.exists_eq_add_of_le hN
  clear hN
  induction d with
  | zero => exact e1 N (Nat.le_refl _)
  | succ d ih =>
    have : pck may' w' (N + (d + 1)) = if may' (N + d) = true ∧ (pck may' w' (N + d) = -1 ∨ w' (pck may' w' (N + d)).toNat < w' (N + d)) then ((N + d : Nat) : Int) else pck may' w' (N + d) := rfl
    rw [this, h3 (N + d) (by omega) (by omega), if_neg (by simp)]
    exact ih (fun n a b => h3 n a (by omega))
/-- what of two settings must be the same in a year -/
def YE (K K' : KT) (y : Nat) : Prop :=
  (∀ c, c < 12 → mny K' y c = mny K y c) ∧ (∀ s, s < 2 → tas K' y s = tas K y s) ∧
  (∀ s, s < 2 → tas K y s ≠ -1 → nrT (kT K') (tas K y s).toNat = nrT (kT K) (tas K y s).toNat ∧ psT (kT K') (tas K y s).toNat = psT (kT K) (tas K y s).toNat ∧ woT (kT K') (tas K y s).toNat = woT (kT K) (tas K y s).toNat ∧ baT (kT K') (tas K y s).toNat = baT (kT K) (tas K y s).toNat) ∧
  (∀ n, n < kn K → flm K'.1 (kw K') y n = flm K.1 (kw K) y n) ∧ (∀ n, n < kn K → ∀ x, x < 2 → ft K' y x n = ft K y x n) ∧ (∀ n, kn K ≤ n → n < kn K' → ∀ x, x < 2 → ft K' y x n = false)
def NE (K K' : KT) : Prop := kn K ≤ kn K' ∧ K'.1 6 = K.1 6 ∧ kq K' = kq K ∧ (∀ n, n < kn K → kl K' n = kl K n) ∧ (∀ i, i < kn K → ∀ j, j < kn K → kE K' i j = kE K i j)
theorem ch_ext {K K' : KT} {y : Nat} (hN : NE K K') (hY : YE K K' y) (G : GV) (hG : GN G (kn K)) (c : Nat) : ch K' G y c = ch K G y c := by
  obtain ⟨n1, n2, n3, n4, n5⟩ := hN
  obtain ⟨-, y2, y3, y4, y5, y6⟩ := hY
  have ht := y2 (c / 2 % 2) (by omega)
  have hs : ∀ n, n < kn K → snd K' G (40 + y) n = snd K G (40 + y) n := by
    intro n hn
    unfold snd
    rw [n3]
    split
    · rfl
    · rw [sm_ext n1 (fun k a _ => by rw [gt_GN hG _ _ _ a]; split <;> rfl)]
      exact sm_congr (fun i hi => by rw [n5 i hi n hn])
  unfold ch
  rw [ht]
  split
  · rfl
  · rename_i hne
    obtain ⟨t1, t2, t3, t4⟩ := y3 (c / 2 % 2) (by omega) hne
    have hw : ∀ n, n < kn K → wv K' G (40 + y) (c / 4) (c / 2 % 2) n (tas K y (c / 2 % 2)).toNat = wv K G (40 + y) (c / 4) (c / 2 % 2) n (tas K y (c / 2 % 2)).toNat := by
      intro n hn
      funext i
      unfold wv
      have hf := y4 n hn
      rw [show y = 40 + y - 40 by omega] at hf
      simp only [t1, t2, n2, hs n hn, n4 n hn, hf]
    refine pck_ext n1 (fun n hn => ?_) (fun n hn => ?_) (fun n a b => ?_)
    · unfold my; rw [hw n hn, y5 n hn _ (by omega), t4]
    · unfold wo; rw [hw n hn, t3]
    · unfold my; rw [y6 n a b _ (by omega)]; rfl
theorem yr_ext {K K' : KT} {y : Nat} (hN : NE K K') (hY : YE K K' y) (G : GV) (hG : GN G (kn K)) (c : Nat) (hc : c ≤ 12) : yrG K' G y c = yrG K G y c ∧ yrU K' G y c = yrU K G y c := by
  have hr : ∀ G, GN G (kn K) → ∀ c k, rocks K' G y c k = rocks K G y c k ∧ unn K' G y c k = unn K G y c k := by
    intro G hG c k
    induction k with
    | zero => exact ⟨rfl, rfl⟩
    | succ k ih =>
      have hg := GN_rocks (K := K) hG y c k
      have e := ch_ext hN hY _ hg c
      refine ⟨?_, ?_⟩
      · show rock K' (rocks K' G y c k) y c = rock K (rocks K G y c k) y c
        rw [ih.1]; unfold rock; rw [e]
      · show unn K' G y c k + (if ch K' (rocks K' G y c k) y c = -1 then 1 else 0) = unn K G y c k + (if ch K (rocks K G y c k) y c = -1 then 1 else 0)
        rw [ih.1, ih.2, e]
  induction c with
  | zero => exact ⟨rfl, rfl⟩
  | succ c ih =>
    obtain ⟨i1, i2⟩ := ih (by omega)
    have hg := GN_yr (K := K) hG y c
    have m := hY.1 c (by omega)
    refine ⟨?_, ?_⟩
    · show rocks K' (yrG K' G y c) y c (mny K' y c).toNat = _
      rw [i1, m, (hr _ hg c _).1]; rfl
    · show yrU K' G y c + unn K' (yrG K' G y c) y c (mny K' y c).toNat = _
      rw [i1, i2, m, (hr _ hg c _).2]; rfl
theorem run_ext {K K' : KT} {N : Nat} (hN : NE K K') (h0 : G0 K'.1 (kn K') = G0 K.1 (kn K)) (hY : ∀ y, y < N → YE K K' y) : ∀ y, y ≤ N → run K' y = run K y ∧ (y < N → nml K' y = nml K y) := by
  intro y
  induction y with
  | zero =>
    intro _
    refine ⟨h0, fun h => ?_⟩
    unfold nml
    rw [show run K' 0 = run K 0 from h0, (yr_ext hN (hY 0 h) _ (GN_run K 0) 12 (by omega)).2]
  | succ y ih =>
    intro hy
    have e1 := (ih (by omega)).1
    have e2 : run K' (y + 1) = run K (y + 1) := by
      show yrG K' (run K' y) y 12 = yrG K (run K y) y 12
      rw [e1, (yr_ext hN (hY y (by omega)) _ (GN_run K y) 12 (by omega)).1]
    refine ⟨e2, fun h => ?_⟩
    unfold nml
    rw [e2, (yr_ext hN (hY (y + 1) h) _ (GN_run K (y + 1)) 12 (by omega)).2]
/-- years that went by stay as they are -/
theorem rocks_past {K : KT} {G : GV} {y c k Y : Nat} (hY : Y ≠ 40 + y) (c' n : Nat) : rocks K G y c k Y c' n = G Y c' n := by
  induction k with
  | zero => rfl
  | succ k ih =>
    show rock K (rocks K G y c k) y c Y c' n = _
    unfold rock
    split
    · exact ih
    · unfold gadd; rw [if_neg (fun z => hY z.1)]; exact ih
theorem yr_past {K : KT} {G : GV} {y Y : Nat} (hY : Y ≠ 40 + y) (c c' n : Nat) : yrG K G y c Y c' n = G Y c' n := by
  induction c with
  | zero => rfl
  | succ c ih => show rocks K (yrG K G y c) y c _ Y c' n = _; rw [rocks_past hY, ih]
theorem run_past {K : KT} {N M Y : Nat} (hNM : N ≤ M) (hY : Y < 40 + N) (c n : Nat) : run K M Y c n = run K N Y c n := by
  obtain ⟨d, rfl⟩ := Nat.exists_eq_add_of_le hNM
  clear hNM
  induction d with
  | zero => rfl
  | succ d ih => show yrG K (run K (N + d)) (N + d) 12 Y c n = _; rw [yr_past (by omega), ih]
