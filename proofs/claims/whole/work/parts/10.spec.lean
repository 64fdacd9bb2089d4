/-! what the document says, as numbers: the state (the reference's array), names, tastes, a run -/
abbrev MT : Type := Nat → Int
abbrev TT : Type := (Nat → Int) × (Nat → Int) × (Nat → (Nat → Int) → Int) × (Nat → (Nat → Int) → Bool)
abbrev KT : Type := MT × (Nat → Nat → Bool) × (Nat → Int) × TT × Int × Bool × Int
def kc (K : KT) : Nat := (K.1 0).toNat
def kn (K : KT) : Nat := (K.1 1).toNat
def kE (K : KT) : Nat → Nat → Bool := K.2.1
def kl (K : KT) : Nat → Int := K.2.2.1
def kT (K : KT) : TT := K.2.2.2.1
def kw (K : KT) : Int := K.2.2.2.2.1
def kq (K : KT) : Bool := K.2.2.2.2.2.1
def kb (K : KT) : Int := K.2.2.2.2.2.2
def nrT (T : TT) (t : Nat) : Int := T.1 t
def psT (T : TT) (t : Nat) : Int := T.2.1 t
def woT (T : TT) (t : Nat) (w : Nat → Int) : Int := T.2.2.1 t w
def baT (T : TT) (t : Nat) (w : Nat → Int) : Bool := T.2.2.2 t w
def flm (m : MT) (w : Int) (y n : Nat) : Int := sm (fun k => if (k : Int) ≠ w ∧ m (70 + 3 * k) = n ∧ m (70 + 3 * k + 1) ≤ y then m (70 + 3 * k + 2) / ((2 ^ ((y : Int) - m (70 + 3 * k + 1)).toNat : Nat) : Int) else 0) (m 3).toNat
def lsn (m : MT) (y : Nat) : Nat → Int
  | 0 => 0
  | k + 1 => if m (50 + 2 * k) ≤ y then m (50 + 2 * k + 1) else lsn m y k
def bit (l : Int) (n : Nat) : Bool := l / ((2 ^ n : Nat) : Int) % 2 == 1
def snd (K : KT) (G : GV) (Y n : Nat) : Int := if kq K then 0 else sm (fun i => if i ≠ n ∧ kE K i n = true then gt G (Y - 1) 6 i else 0) (kn K)
def wv (K : KT) (G : GV) (Y p s n t : Nat) (i : Nat) : Int :=
  let a := ((Y : Int) - nrT (kT K) t + 1).toNat
  let b := ((Y : Int) - K.1 6 + 1).toNat
  match i with
  | 0 => rg (gy G p n) a (Y + 1)
  | 1 => rg (gy G 6 n) a (Y + 1) - rg (gy G p n) a (Y + 1)
  | 2 => if s = 0 then 0 else rg (gy G 3 n) a (Y + 1)
  | 3 => rg (gy G (3 + s) n) a (Y + 1)
  | 4 => rg (gy G 5 n) b (Y + 1)
  | 5 => rg (gy G 6 n) b (Y + 1) - rg (gy G 5 n) b (Y + 1)
  | 6 => rg (gy G 6 n) b ((Y : Int) - psT (kT K) t + 1).toNat
  | 7 => rg (gy G 6 n) b (Y + 1)
  | 8 => min ((Y : Int) - 40 - lat G n (Y + 1)) 99
  | 9 => gt G (Y - 1) 6 n - gt G (Y - 2) 6 n
  | 10 => snd K G Y n
  | 11 => flm K.1 (kw K) (Y - 40) n
  | 12 => kl K n
  | _ => (Y : Int) - 40
def ft (K : KT) (y x n : Nat) : Bool := decide (K.1 (1900 + n) ≤ y) && bit (K.1 (30 + n)) x && (lsn K.1 y (K.1 2).toNat == 0 || bit (lsn K.1 y (K.1 2).toNat) n)
def my (K : KT) (G : GV) (y p s x n t : Nat) : Bool := ft K y x n && !(baT (kT K) t (wv K G (40 + y) p s n t))
def wo (K : KT) (G : GV) (y p s n t : Nat) : Int := woT (kT K) t (wv K G (40 + y) p s n t)
def pck (may : Nat → Bool) (w : Nat → Int) : Nat → Int
  | 0 => -1
  | i + 1 => if may i = true ∧ (pck may w i = -1 ∨ w (pck may w i).toNat < w i) then i else pck may w i
def tas (K : KT) (y s : Nat) : Int := if kb K ≠ -1 then kb K else if y < kc K then K.1 (1000 + 14 * y + 12 + s) else K.1 (7 + s)
def mny (K : KT) (y c : Nat) : Int := if y < kc K then K.1 (1000 + 14 * y + c) else K.1 (10 + c)
def ch (K : KT) (G : GV) (y c : Nat) : Int := if tas K y (c / 2 % 2) = -1 then -1 else pck (fun n => my K G y (c / 4) (c / 2 % 2) (c % 2) n (tas K y (c / 2 % 2)).toNat) (fun n => wo K G y (c / 4) (c / 2 % 2) n (tas K y (c / 2 % 2)).toNat) (kn K)
def rock (K : KT) (G : GV) (y c : Nat) : GV := if ch K G y c = -1 then G else gadd G (40 + y) c (ch K G y c).toNat 1
def rocks (K : KT) (G : GV) (y c : Nat) : Nat → GV
  | 0 => G
  | k + 1 => rock K (rocks K G y c k) y c
def unn (K : KT) (G : GV) (y c : Nat) : Nat → Int
  | 0 => 0
  | k + 1 => unn K G y c k + (if ch K (rocks K G y c k) y c = -1 then 1 else 0)
def yrG (K : KT) (G : GV) (y : Nat) : Nat → GV
  | 0 => G
  | c + 1 => rocks K (yrG K G y c) y c (mny K y c).toNat
def yrU (K : KT) (G : GV) (y : Nat) : Nat → Int
  | 0 => 0
  | c + 1 => yrU K G y c + unn K (yrG K G y c) y c (mny K y c).toNat
def G0 (m : MT) (N : Nat) : GV := fun Y c n => if Y < 40 ∧ c < 12 ∧ n < N then m (2000 + (39 - Y) * 192 + c * 16 + n) else 0
def run (K : KT) : Nat → GV
  | 0 => G0 K.1 (kn K)
  | y + 1 => yrG K (run K y) y 12
def nml (K : KT) (y : Nat) : Int := yrU K (run K y) y 12
theorem pck_range (may : Nat → Bool) (w : Nat → Int) (N : Nat) : -1 ≤ pck may w N ∧ pck may w N < N := by
  induction N with
  | zero => simp only [pck]; omega
  | succ N ih => simp only [pck]; split <;> omega
theorem ch_range (K : KT) (G : GV) (y c : Nat) : -1 ≤ ch K G y c ∧ (ch K G y c ≠ -1 → ch K G y c < kn K) := by
  unfold ch
  split
  · omega
  · have := pck_range (fun n => my K G y (c / 4) (c / 2 % 2) (c % 2) n (tas K y (c / 2 % 2)).toNat) (fun n => wo K G y (c / 4) (c / 2 % 2) n (tas K y (c / 2 % 2)).toNat) (kn K)
    omega
/-! the reference's cells -/
def gx (G : GV) (Y x n : Nat) : Int := if x = 0 then gt G Y 5 n else gt G Y 6 n - gt G Y 5 n
def RG (σ : St) (G : GV) : Prop :=
  (∀ Y, Y < 101 → ∀ c, c < 12 → ∀ n, n < 16 → gI σ 98 (192 * Y + 16 * c + n) = II (G Y c n)) ∧
  (∀ Y, Y < 101 → ∀ n, n < 16 → gI σ 99 (16 * Y + n) = II (gt G Y 6 n)) ∧
  (∀ Y, Y < 101 → ∀ p, p < 3 → ∀ n, n < 16 → gI σ 100 (48 * Y + 16 * p + n) = II (gt G Y p n)) ∧
  (∀ Y, Y < 101 → ∀ s, s < 2 → ∀ n, n < 16 → gI σ 101 (32 * Y + 16 * s + n) = II (gt G Y (3 + s) n)) ∧
  (∀ Y, Y < 101 → ∀ x, x < 2 → ∀ n, n < 16 → gI σ 102 (32 * Y + 16 * x + n) = II (gx G Y x n))
def RM (σ : St) (m : MT) : Prop := ∀ k, gI σ 76 k = II (m k)
theorem RG_eq {σ τ : St} {G : GV} (h : RG σ G) (e : ∀ q, 98 ≤ q → q ≤ 102 → τ q = σ q) : RG τ G :=
  ⟨fun Y hY c hc n hn => by rw [gI_of (e 98 (by omega) (by omega))]; exact h.1 Y hY c hc n hn, fun Y hY n hn => by rw [gI_of (e 99 (by omega) (by omega))]; exact h.2.1 Y hY n hn, fun Y hY c hc n hn => by rw [gI_of (e 100 (by omega) (by omega))]; exact h.2.2.1 Y hY c hc n hn, fun Y hY c hc n hn => by rw [gI_of (e 101 (by omega) (by omega))]; exact h.2.2.2.1 Y hY c hc n hn, fun Y hY c hc n hn => by rw [gI_of (e 102 (by omega) (by omega))]; exact h.2.2.2.2 Y hY c hc n hn⟩
theorem all_ok {σ : St} {G : GV} {n : Nat} {y : Int} {post : Int32 → St → Prop} (h : RG σ G) (hn : n < 16) (hy : -1000 ≤ y ∧ y ≤ 60) (hp : post (II (if y < -40 then 0 else gt G (y + 40).toNat 6 n)) σ) : wpX12_all (II y) (II n) σ post := by
  simp (disch := omega) only [wpX12_all, I_lit, I_neg, I_le, I_add, I_mul]
  refine ⟨fun c => ?_, fun c => ?_⟩
  · rw [if_neg (by omega)] at hp
    simp (disch := omega) only [I_in, true_and, I_cl]
    rw [show (16 * (y + 40) + (n : Int)).toNat = 16 * (y + 40).toNat + n by omega, h.2.1 _ (by omega) n hn]
    exact hp
  · rw [if_pos (by omega)] at hp
    exact hp
theorem gives_ok {σ : St} {G : GV} {Y p s x n : Nat} {v : Int} {post : St → Prop} (h : RG σ G) (hY : Y < 101) (hp : p < 3) (hs : s < 2) (hx : x < 2) (hn : n < 16)
    (hpost : ∀ τ, RG τ (gadd G Y ((p * 2 + s) * 2 + x) n v) → Eqx [98, 99, 100, 101, 102] σ τ → post τ) : wpX12_gives (II ((Y : Int) - 40)) (II p) (II s) (II x) (II n) (II v) σ post := by
  have hc := ing_7 p hp s hs x hx
  simp (disch := omega) only [wpX12_gives, fe, wpX12_cell, I_lit, I_add, I_mul, I_in, true_and, I_cl]
  rw [show (192 * ((Y : Int) - 40 + 40) + 16 * (((p : Int) * 2 + s) * 2 + x) + n).toNat = 192 * Y + 16 * ((p * 2 + s) * 2 + x) + n by omega, show (16 * ((Y : Int) - 40 + 40) + n).toNat = 16 * Y + n by omega, show (48 * ((Y : Int) - 40 + 40) + 16 * p + n).toNat = 48 * Y + 16 * p + n by omega, show (32 * ((Y : Int) - 40 + 40) + 16 * s + n).toNat = 32 * Y + 16 * s + n by omega, show (32 * ((Y : Int) - 40 + 40) + 16 * x + n).toNat = 32 * Y + 16 * x + n by omega]
  refine hpost _ ⟨?_, ?_, ?_, ?_, ?_⟩ ?_
  · intro Y' hY' c' hc' n' hn'
    simp (disch := omega) only [rI2]
    by_cases e : Y' = Y ∧ c' = (p * 2 + s) * 2 + x ∧ n' = n
    · obtain ⟨rfl, rfl, rfl⟩ := e
      rw [rI1, h.1 _ hY _ hc _ hn, I_add]; unfold gadd; rw [if_pos ⟨rfl, rfl, rfl⟩]
    · rw [rI3 (by omega), h.1 _ hY' _ hc' _ hn']; unfold gadd; rw [if_neg e]
  · intro Y' hY' n' hn'
    simp (disch := omega) only [rI2]
    rw [gt_gadd G Y _ n v hc]
    by_cases e : Y' = Y ∧ n' = n
    · obtain ⟨rfl, rfl⟩ := e
      rw [rI1]
      simp (disch := omega) only [rI2]
      rw [h.2.1 _ hY _ hn, I_add, if_pos ⟨trivial, trivial, rfl⟩]
    · rw [rI3 (by omega), rI2 (by omega), h.2.1 _ hY' _ hn', if_neg (fun z => e ⟨z.1, z.2.1⟩), Int.add_zero]
  · intro Y' hY' p' hp' n' hn'
    simp (disch := omega) only [rI2]
    have ic := ing_c p hp s hs x hx p' (by omega)
    rw [gt_gadd G Y _ n v hc]
    by_cases e : Y' = Y ∧ p' = p ∧ n' = n
    · obtain ⟨rfl, rfl, rfl⟩ := e
      rw [rI1]
      simp (disch := omega) only [rI2]
      rw [h.2.2.1 _ hY _ hp _ hn, I_add, if_pos ⟨trivial, trivial, by rw [ic]; simp⟩]
    · rw [rI3 (by omega), rI2 (by omega), rI2 (by omega), h.2.2.1 _ hY' _ hp' _ hn', if_neg, Int.add_zero]
      intro z
      have := z.2.2
      rw [ic] at this
      simp only [Bool.or_eq_true, Bool.and_eq_true, beq_iff_eq] at this
      omega
  · intro Y' hY' p' hp' n' hn'
    simp (disch := omega) only [rI2]
    have ic := ing_c p hp s hs x hx (3 + p') (by omega)
    rw [gt_gadd G Y _ n v hc]
    by_cases e : Y' = Y ∧ p' = s ∧ n' = n
    · obtain ⟨rfl, rfl, rfl⟩ := e
      rw [rI1]
      simp (disch := omega) only [rI2]
      rw [h.2.2.2.1 _ hY _ hs _ hn, I_add, if_pos ⟨trivial, trivial, by rw [ic]; simp⟩]
    · rw [rI3 (by omega), rI2 (by omega), rI2 (by omega), rI2 (by omega), h.2.2.2.1 _ hY' _ hp' _ hn', if_neg, Int.add_zero]
      intro z
      have := z.2.2
      rw [ic] at this
      simp only [Bool.or_eq_true, Bool.and_eq_true, beq_iff_eq] at this
      omega
  · intro Y' hY' p' hp' n' hn'
    have ic := ing_c p hp s hs x hx 5 (by omega)
    have i6 : ing 6 ((p * 2 + s) * 2 + x) = true := rfl
    unfold gx
    rw [gt_gadd G Y _ n v hc, gt_gadd G Y _ n v hc]
    have old := h.2.2.2.2 _ hY' _ hp' _ hn'
    unfold gx at old
    by_cases e : Y' = Y ∧ p' = x ∧ n' = n
    · obtain ⟨rfl, rfl, rfl⟩ := e
      rw [rI1]
      simp (disch := omega) only [rI2]
      rw [old, I_add, ic, i6]
      by_cases x0 : p' = 0
      · subst x0
        simp
      · have : p' = 1 := by omega
        subst this
        have h3 : ¬ (5 = p) := by omega
        have h4 : ¬ (5 = 3 + s) := by omega
        simp [h3, h4]
        congr 1; omega
    · rw [rI3 (by omega), rI2 (by omega), rI2 (by omega), rI2 (by omega), rI2 (by omega), old, ic, i6]
      congr 1
      by_cases c2 : Y' = Y ∧ n' = n
      · obtain ⟨rfl, rfl⟩ := c2
        have h3 : ¬ (5 = p) := by omega
        have h4 : ¬ (5 = 3 + s) := by omega
        by_cases x0 : p' = 0
        · have x1 : ¬ x = 0 := by omega
          simp [h3, h4, x0, x1]
        · have x1 : x = 0 := by omega
          simp [h3, h4, x0, x1]
          omega
      · have c3 : ∀ b : Bool, ¬ (Y' = Y ∧ n' = n ∧ b = true) := fun b z => c2 ⟨z.1, z.2.1⟩
        rw [if_neg (c3 _), if_neg (c3 _)]
        simp
  · exact Eqx_tI (Eqx_tI (Eqx_tI (Eqx_tI (Eqx_tI (Eqx.refl _ _) (by simp)) (by simp)) (by simp)) (by simp)) (by simp)
