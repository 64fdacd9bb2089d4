/-! bounds of a run -/
def GC (G : GV) : Prop := (∀ Y c n, 0 ≤ G Y c n) ∧ (∀ Y c n, Y < 40 → G Y c n ≤ 9999) ∧ (∀ Y c, 40 ≤ Y → sm (fun n => G Y c n) 16 ≤ 6) ∧ (∀ Y c n, 12 ≤ c ∨ 16 ≤ n → G Y c n = 0)
theorem sm_ge1 {f : Nat → Int} {N k : Nat} (hk : k < N) (h : ∀ j, 0 ≤ f j) : f k ≤ sm f N := by
  induction N with
  | zero => omega
  | succ N ih =>
    have := sm_nonneg (f := f) (n := N) (fun j _ => h j)
    have h2 := h N
    show f k ≤ sm f N + f N
    by_cases e : k = N
    · subst e; omega
    · have := ih (by omega); omega
theorem GC.six {G : GV} (h : GC G) {Y c n : Nat} (hY : 40 ≤ Y) : G Y c n ≤ 6 := by
  by_cases c1 : 16 ≤ n
  · rw [h.2.2.2 Y c n (Or.inr c1)]; omega
  · have := sm_ge1 (f := fun n => G Y c n) (N := 16) (k := n) (by omega) (fun j => h.1 Y c j)
    have := h.2.2.1 Y c hY
    omega
theorem GC.gb {G : GV} (h : GC G) : GB G := fun Y c n => ⟨h.1 Y c n, by
  by_cases c1 : Y < 40
  · exact h.2.1 Y c n c1
  · have := h.six (Y := Y) (c := c) (n := n) (by omega); omega⟩
def IY (G : GV) (y c : Nat) (k : Int) : Prop := GC G ∧ Nil G (41 + y) ∧ (∀ c', c < c' → c' < 12 → ∀ n, G (40 + y) c' n = 0) ∧ sm (fun n => G (40 + y) c n) 16 ≤ k
theorem IY_start {G : GV} {y : Nat} (h : GC G) (hN : Nil G (40 + y)) : IY G y 0 0 :=
  ⟨h, fun Y hY c hc n => hN Y (by omega) c hc n, fun c' _ hc n => hN _ (Nat.le_refl _) c' hc n, by rw [sm_zero (fun n _ => hN _ (Nat.le_refl _) 0 (by omega) n)]; omega⟩
theorem IY_next {G : GV} {y c : Nat} {k : Int} (h : IY G y c k) (hc : c + 1 < 12) : IY G y (c + 1) 0 :=
  ⟨h.1, h.2.1, fun c' a b n => h.2.2.1 c' (by omega) b n, by rw [sm_zero (fun n _ => h.2.2.1 (c + 1) (by omega) hc n)]; omega⟩
theorem IY_gadd {G : GV} {y c n : Nat} {k : Int} (h : IY G y c k) (hc : c < 12) (hn : n < 16) (hk : k < 6) : IY (gadd G (40 + y) c n 1) y c (k + 1) := by
  obtain ⟨⟨g1, g2, g3, g4⟩, h2, h3, h4⟩ := h
  have es : ∀ Y c', sm (fun m => gadd G (40 + y) c n 1 Y c' m) 16 = sm (fun m => G Y c' m) 16 + (if Y = 40 + y ∧ c' = c then 1 else 0) := by
    intro Y c'
    have e : (fun m => gadd G (40 + y) c n 1 Y c' m) = fun m => G Y c' m + (if m = n then (if Y = 40 + y ∧ c' = c then 1 else 0) else 0) := by
      funext m
      unfold gadd
      by_cases e1 : m = n <;> by_cases e2 : Y = 40 + y <;> by_cases e3 : c' = c <;> simp [e1, e2, e3]
    rw [e, sm_add, sm_one n _ hn]
  refine ⟨⟨fun Y c' m => ?_, fun Y c' m hY => ?_, fun Y c' hY => ?_, fun Y c' m hm => ?_⟩, fun Y hY c' hc' m => ?_, fun c' a b m => ?_, ?_⟩
  · have := g1 Y c' m
    unfold gadd; split <;> omega
  · have := g2 Y c' m hY
    unfold gadd; rw [if_neg (by omega)]; exact this
  · rw [es]
    have := g3 Y c' hY
    split
    · rename_i e; rw [e.1, e.2]; omega
    · omega
  · unfold gadd; rw [if_neg (by omega)]; exact g4 Y c' m hm
  · unfold gadd; rw [if_neg (by omega)]; exact h2 Y hY c' hc' m
  · unfold gadd; rw [if_neg (by omega)]; exact h3 c' a b m
  · rw [es, if_pos ⟨rfl, rfl⟩]; omega
theorem IY_rock {K : KT} {G : GV} {y c : Nat} {k : Int} (h : IY G y c k) (hc : c < 12) (hn : kn K ≤ 16) (hk : k < 6) : IY (rock K G y c) y c (k + 1) := by
  unfold rock
  have r := ch_range K G y c
  split
  · exact ⟨h.1, h.2.1, h.2.2.1, by have := h.2.2.2; omega⟩
  · rename_i e
    exact IY_gadd h hc (by have := r.2 e; omega) hk
theorem IY_rocks {K : KT} {G : GV} {y c : Nat} (h : IY G y c 0) (hc : c < 12) (hn : kn K ≤ 16) (k : Nat) (hk : k ≤ 6) : IY (rocks K G y c k) y c k := by
  induction k with
  | zero => exact h
  | succ k ih => have := IY_rock (K := K) (ih (by omega)) hc hn (by omega); rw [Int.natCast_succ]; exact this
theorem mny_in {K : KT} (hW : WFm K.1) (y c : Nat) (hc : c < 12) : 0 ≤ mny K y c ∧ mny K y c ≤ 6 := by
  unfold mny
  split
  · rename_i h
    have := hW.1
    exact (hW.2.2.2.2.2.2.2.2.2.2.2.2.1 y (by unfold kc at h; omega)).1 c hc
  · exact hW.2.2.2.2.2.2.2.2.1 c hc
theorem IY_yr {K : KT} {G : GV} {y : Nat} (hW : WFm K.1) (h : IY G y 0 0) (c : Nat) (hc : c < 12) : IY (yrG K G y c) y c 0 := by
  have hn : kn K ≤ 16 := by unfold kn; have := hW.2.1; omega
  induction c with
  | zero => exact h
  | succ c ih =>
    have m := mny_in hW y c (by omega)
    exact IY_next (IY_rocks (K := K) (ih (by omega)) (by omega) hn _ (by omega)) hc
theorem yr_end {K : KT} {G : GV} {y : Nat} (hW : WFm K.1) (h : IY G y 0 0) : GC (yrG K G y 12) ∧ Nil (yrG K G y 12) (41 + y) := by
  have hn : kn K ≤ 16 := by unfold kn; have := hW.2.1; omega
  have m := mny_in hW y 11 (by omega)
  have := IY_rocks (K := K) (IY_yr hW h 11 (by omega)) (by omega) hn (mny K y 11).toNat (by omega)
  exact ⟨this.1, this.2.1⟩
theorem G0_GC {m : MT} {N : Nat} (hW : WFm m) (hN : N ≤ 16) : GC (G0 m N) ∧ Nil (G0 m N) 40 := by
  have h := hW.2.2.2.2.2.2.2.2.2.2.2.2.2
  refine ⟨⟨fun Y c n => ?_, fun Y c n hY => ?_, fun Y c hY => ?_, fun Y c n hc => ?_⟩, fun Y hY c hc n => ?_⟩
  · unfold G0; split
    · rename_i e; exact (h Y e.1 c e.2.1 n (by omega)).1
    · omega
  · unfold G0; split
    · rename_i e; exact (h Y e.1 c e.2.1 n (by omega)).2
    · omega
  · rw [sm_zero (fun n _ => by unfold G0; rw [if_neg (by omega)])]; omega
  · unfold G0; rw [if_neg (by omega)]
  · unfold G0; rw [if_neg (by omega)]
theorem run_GC {K : KT} (hW : WFm K.1) (y : Nat) : GC (run K y) ∧ Nil (run K y) (40 + y) := by
  have hn : kn K ≤ 16 := by unfold kn; have := hW.2.1; omega
  induction y with
  | zero => exact G0_GC hW hn
  | succ y ih =>
    have := yr_end hW (IY_start ih.1 ih.2)
    exact ⟨this.1, by rw [show 40 + (y + 1) = 41 + y by omega]; exact this.2⟩
/-! what a name given in a year leaves of the years ahead -/
theorem gadd_ahead (G : GV) (Y c n : Nat) (v : Int) {Z : Nat} (hZ : Z < Y) (g m : Nat) (hc : c < 12) : gt (gadd G Y c n v) Z g m = gt G Z g m := by
  rw [gt_gadd G Y c n v hc, if_neg (by omega), Int.add_zero]
def SameTo (G G' : GV) (Y : Nat) : Prop := ∀ Z, Z < Y → ∀ g m, gt G' Z g m = gt G Z g m
theorem ST_rg {G G' : GV} {Y : Nat} (h : SameTo G G' Y) (g n a b : Nat) (hb : b ≤ Y) : rg (gy G' g n) a b = rg (gy G g n) a b := rg_congr (fun k _ h2 => h k (by omega) g n)
theorem ST_lat {G G' : GV} {Y : Nat} (h : SameTo G G' Y) (n N : Nat) (hN : N ≤ Y) : lat G' n N = lat G n N := by
  induction N with
  | zero => rfl
  | succ N ih => simp only [lat]; rw [h N (by omega), ih (by omega)]
theorem ST_snd {K : KT} {G G' : GV} {Y : Nat} (h : SameTo G G' Y) (hY : 0 < Y) (n : Nat) : snd K G' Y n = snd K G Y n := by
  unfold snd
  split
  · rfl
  · exact sm_congr (fun i _ => by rw [h (Y - 1) (by omega)])
theorem LY_same {σ : St} {G G' : GV} {K : KT} {y : Nat} {ta : Nat → Int} (hW : WFm K.1) (hNP : ∀ s, s < 2 → ta s ≠ -1 → 1 ≤ nrT (kT K) (ta s).toNat ∧ 1 ≤ psT (kT K) (ta s).toNat) (h : LY σ G K y ta) (hs : SameTo G G' (40 + y)) : LY σ G' K y ta := by
  refine ⟨fun n hn => ?_, h.2⟩
  obtain ⟨a1, a2, a3, a4, a5, a6, a7⟩ := h.1 n hn
  refine ⟨?_, ?_, ?_, ?_, ?_, a6, fun s hs' hne => ?_⟩
  · rw [ST_rg hs _ _ _ _ (Nat.le_refl _)]; exact a1
  · rw [ST_rg hs _ _ _ _ (Nat.le_refl _), ST_rg hs _ _ _ _ (Nat.le_refl _)]; exact a2
  · rw [ST_lat hs _ _ (Nat.le_refl _)]; exact a3
  · rw [hs _ (by omega), hs _ (by omega)]; exact a4
  · rw [ST_snd hs (by omega)]; exact a5
  · obtain ⟨b1, b2, b3⟩ := a7 s hs' hne
    have np := hNP s hs' hne
    refine ⟨fun p hp => ?_, fun q hq => ?_, ?_⟩
    · rw [ST_rg hs _ _ _ _ (Nat.le_refl _)]; exact b1 p hp
    · rw [ST_rg hs _ _ _ _ (Nat.le_refl _)]; exact b2 q hq
    · rw [ST_rg hs _ _ _ _ (by omega)]; exact b3
theorem ST_gadd (G : GV) (Y c n : Nat) (v : Int) (hc : c < 12) : SameTo G (gadd G Y c n v) Y := fun Z hZ g m => gadd_ahead G Y c n v hZ g m hc
theorem ST_rock (K : KT) (G : GV) (y c : Nat) (hc : c < 12) : SameTo G (rock K G y c) (40 + y) := by
  unfold rock
  split
  · exact fun _ _ _ _ => rfl
  · exact ST_gadd _ _ _ _ _ hc
