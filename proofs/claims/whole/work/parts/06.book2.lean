/-! a book's cells -/
def Sums (σ : St) (k0 : Nat) (G : GV) (N : Nat) : Prop := ∀ Y, Y ≤ N → ∀ g, g < 7 → ∀ n, n < 16 → gI σ (21 + 4 * k0 + 2) (Y * 112 + (g * 16 + n)) = II (sm (gy G g n) Y)
def Rows (σ : St) (k0 : Nat) (G : GV) (N : Nat) : Prop := ∀ y, y < N → ∀ c, c < 12 → gL σ (21 + 4 * k0 + 1) (y * 12 + c) = LL (pk (fun n => G (40 + y) c n))
def Lat (σ : St) (k0 : Nat) (G : GV) (N : Nat) : Prop := ∀ n, n < 16 → gI σ (21 + 4 * k0 + 3) n = II (lat G n N)
def Nil (G : GV) (N : Nat) : Prop := ∀ Y, N ≤ Y → ∀ c, c < 12 → ∀ n, G Y c n = 0
def Bk (σ : St) (k0 : Nat) (G : GV) (o : Nat) : Prop := gI σ (21 + 4 * k0) 3 = II o ∧ Sums σ k0 G (41 + o) ∧ Rows σ k0 G (o + 1) ∧ Lat σ k0 G (41 + o) ∧ Nil G (41 + o) ∧ o ≤ 60
theorem gt_nil {G : GV} {N : Nat} (h : Nil G N) {Y : Nat} (hY : N ≤ Y) (g n : Nat) : gt G Y g n = 0 := by
  unfold gt; exact sm_zero (fun c hc => by simp [h Y hY c hc])
theorem lat_nil {G : GV} {N : Nat} (h : Nil G N) (n : Nat) (d : Nat) : lat G n (N + d) = lat G n N := by
  induction d with
  | zero => rfl
  | succ d ih => show (if 0 < gt G (N + d) 6 n then _ else lat G n (N + d)) = _; rw [gt_nil h (by omega), if_neg (by omega), ih]
theorem sm_nil {G : GV} {N : Nat} (h : Nil G N) (g n d : Nat) : sm (gy G g n) (N + d) = sm (gy G g n) N := by
  rw [sm_split, sm_zero (f := fun k => gy G g n (N + k)) (fun k _ => gt_nil h (by omega) g n)]; omega
theorem between_ok {σ : St} {k0 o g n : Nat} {G : GV} {f t : Int} {post : Int32 → St → Prop} (B : Bk σ k0 G o) (hg : g < 7) (hn : n < 16) (hf : -1000 ≤ f ∧ f ≤ 1000) (ht : -1000 ≤ t ∧ t ≤ 1000)
    (hp : post (II (rg (gy G g n) (f + 40).toNat (t + 41).toNat)) σ) : wpX0_between k0 (II g) (II n) (II f) (II t) σ post := by
  obtain ⟨ho, hS, -, -, hN, hoo⟩ := B
  have key : ∀ f' : Int, f' = max f (-40) → wbX0_between_12 k0 post (II g) (II n) (II t) (II f') σ := by
    intro f' hf'
    have k2 : ∀ t' : Int, t' = min t o → wbX0_between_32 k0 post (II g) (II n) (II f') (II t') σ := by
      intro t' ht'
      simp (disch := omega) only [wbX0_between_32, fe, I_lit, I_neg, I_le, I_add, I_sub, I_mul]
      have e : rg (gy G g n) (f + 40).toNat (t + 41).toNat = rg (gy G g n) (f' + 40).toNat (t' + 41).toNat := by
        rw [show (f + 40).toNat = (f' + 40).toNat by omega]
        by_cases c : t ≤ o
        · rw [show t = t' by omega]
        · exact rg_cut (by omega) (fun k h1 h2 => gt_nil hN (by omega) g n)
      rw [e] at hp
      refine ⟨fun h => ?_, fun h => ?_⟩
      · simp (disch := omega) only [I_in, true_and, I_cl]
        rw [show ((t' - -40 + 1) * 112 + ((g : Int) * 16 + n)).toNat = (t' + 41).toNat * 112 + (g * 16 + n) by omega, show ((f' - -40) * 112 + ((g : Int) * 16 + n)).toNat = (f' + 40).toNat * 112 + (g * 16 + n) by omega, hS _ (by omega) _ hg _ hn, hS _ (by omega) _ hg _ hn, I_sub]
        unfold rg at hp
        rwa [Nat.max_eq_right (by omega)] at hp
      · rw [rg_nil (by omega)] at hp
        exact hp
    simp (disch := omega) only [wbX0_between_12, ho, I_le]
    exact ⟨fun h => k2 _ (by omega), fun h => k2 _ (by omega)⟩
  simp (disch := omega) only [wpX0_between, I_lit, I_neg, I_le]
  exact ⟨fun h => key _ (by omega), fun h => key _ (by omega)⟩
def gT (G : GV) (g : Nat) (Y : Nat) : Int := sm (fun n => gt G Y g n) 16
theorem rg_swap (F : Nat → Nat → Int) (a b N : Nat) : sm (fun n => rg (F n) a b) N = rg (fun Y => sm (fun n => F n Y) N) a b := by
  induction N with
  | zero =>
    show (0 : Int) = _
    unfold rg
    rw [sm_zero (f := fun Y => sm (fun n => F n Y) 0) (fun _ _ => rfl), sm_zero (f := fun Y => sm (fun n => F n Y) 0) (fun _ _ => rfl)]; rfl
  | succ N ih =>
    show sm _ N + rg (F N) a b = _
    rw [ih, ← rg_add]; rfl
theorem groupTotal_ok {σ : St} {k0 o g : Nat} {G : GV} {f t : Int} {post : Int32 → St → Prop} (B : Bk σ k0 G o) (hg : g < 7) (hf : -1000 ≤ f ∧ f ≤ 1000) (ht : -1000 ≤ t ∧ t ≤ 1000)
    (hp : post (II (rg (gT G g) (f + 40).toNat (t + 41).toNat)) σ) : wpX0_groupTotal k0 (II g) (II f) (II t) σ post := by
  unfold wpX0_groupTotal
  refine up (P := fun m i => wbX0_groupTotal_6 k0 post m (II g) (II f) (II t) (II (sm (fun n => rg (gy G g n) (f + 40).toNat (t + 41).toNat) i)) (II i) σ) 16 ?_ ?_ 0 (by omega)
  · intro m
    simp (disch := omega) only [wbX0_groupTotal_6, I_lit, I_le]
    refine ⟨fun _ => ?_, fun h => absurd (by omega) h⟩
    rw [rg_swap] at *; exact hp
  · intro m i hi ih
    simp (disch := omega) only [wbX0_groupTotal_6, I_lit, I_le]
    refine ⟨fun h => absurd h (by omega), fun _ => ?_⟩
    refine between_ok B hg hi hf ht ?_
    simp only [fe, I_add]
    exact ih
