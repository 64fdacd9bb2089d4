/-! best -/
theorem AL_symm {s t : Nat → Nat} {a b : Nat} (h : AL s a t b) : AL t b s a := by
  rcases h with ⟨h1, h2⟩ | ⟨k, hk, h | h | h⟩
  · exact Or.inl ⟨h1.symm, fun i hi => (h2 i (by omega)).symm⟩
  · exact Or.inr ⟨k, hk, Or.inl ⟨h.1.symm, by omega, fun i hi => (h.2.2 i (by omega)).symm⟩⟩
  · exact Or.inr ⟨k, hk, Or.inr (Or.inr h)⟩
  · exact Or.inr ⟨k, hk, Or.inr (Or.inl h)⟩
theorem alb_symm (s : Nat → Nat) (a : Nat) (t : Nat → Nat) (b : Nat) : alb s a t b = alb t b s a := by
  cases h : alb s a t b with
  | true => exact ((alb_iff _ _ _ _).mpr (AL_symm ((alb_iff _ _ _ _).mp h))).symm
  | false =>
    cases h2 : alb t b s a with
    | false => rfl
    | true => rw [(alb_iff s a t b).mpr (AL_symm ((alb_iff _ _ _ _).mp h2))] at h; exact absurd h (by decide)
theorem alb_self (s : Nat → Nat) (a : Nat) : alb s a s a = true := (alb_iff _ _ _ _).mpr (Or.inl ⟨rfl, fun _ _ => rfl⟩)
noncomputable def aU (U : Nat → Nat) (i j : Nat) : Bool := alb (SN (U i)) (SC (U i)) (SN (U j)) (SC (U j))
noncomputable def ky (G : GV) (U : Nat → Nat) (Y p n : Nat) (N : Nat) : Int := sm (fun i => if aU U n i = true then gt G Y p i else 0) N
theorem ky_b {G : GV} (hG : GB G) (U : Nat → Nat) (Y p n N : Nat) (hN : N ≤ 16) : 0 ≤ ky G U Y p n N ∧ ky G U Y p n N ≤ 1919808 := by
  refine ⟨sm_nonneg (fun i _ => by split; exact gt_nn hG _ _ _; exact Int.le_refl 0), ?_⟩
  have := sm_le (f := fun i => if aU U n i = true then gt G Y p i else 0) (n := N) (B := 119988) (fun i _ => by split; exact gt_le hG _ _ _; omega)
  unfold ky
  have : (N : Int) * 119988 ≤ 1919808 := by omega
  omega
theorem cakin_ok {σ : St} {m : MT} {U : Nat → Nat} {i j : Nat} {post : Int32 → St → Prop} (w1 : 0 ≤ m 1 ∧ m 1 ≤ 16) (h : NMs σ m U) (hi : (i : Int) < m 1) (hj : (j : Int) < m 1) (hp : post (II (if aU U i j = true then 1 else 0)) σ) : wpX5_akin (II i) (II j) σ post := by
  obtain ⟨x1, x2, x3, x4, x5, x6, x7, x8, x9⟩ := h.2 i hi
  obtain ⟨y1, y2, y3, y4, y5, y6, y7, y8, y9⟩ := h.2 j hj
  have sx := SN_in x1
  have sy := SN_in y1
  exact akin_ok (by omega) (by omega) sx.1 sy.1 x8 y8 (fun j hj => ⟨x9 j hj, by have := sx.2 j hj; omega⟩) (fun j hj => ⟨y9 j hj, by have := sy.2 j hj; omega⟩) hp
theorem akinLastYear_ok {σ : St} {m : MT} {U : Nat → Nat} {G : GV} {o p n : Nat} {post : Int32 → St → Prop} (B : Bk σ 0 G o) (e9 : gI σ 9 0 = II (m 0)) (w0 : 0 ≤ m 0 ∧ m 0 ≤ 61) (w1 : 0 ≤ m 1 ∧ m 1 ≤ 16) (h : NMs σ m U) (hp3 : p < 3) (hn : (n : Int) < m 1)
    (hp : post (II (ky G U (m 0 + 39).toNat p n (m 1).toNat)) σ) : wpX10_akinLastYear (II p) (II n) σ post := by
  simp only [wpX10_akinLastYear, e9, fe, I_lit, I_sub]
  refine up (P := fun f i => wbX10_akinLastYear_16 post f (II p) (II n) (II (m 0 - 1)) (II (ky G U (m 0 + 39).toNat p n i)) (II i) σ) (m 1).toNat ?_ ?_ 0 (by omega)
  · intro f
    simp (disch := omega) only [wbX10_akinLastYear_16, h.1, I_le]
    exact ⟨fun _ => hp, fun q => absurd (by omega) q⟩
  · intro f i hi ih
    have es : ky G U (m 0 + 39).toNat p n (i + 1) = ky G U (m 0 + 39).toNat p n i + (if aU U n i = true then gt G (m 0 + 39).toNat p i else 0) := rfl
    rw [es] at ih
    simp (disch := omega) only [wbX10_akinLastYear_16, h.1, I_le, I_lit, I_add, Int.zero_add]
    refine ⟨fun q => absurd q (by omega), fun _ => cakin_ok w1 h hn (by omega) ?_⟩
    simp only [fe]
    cases c : aU U n i with
    | false => rw [c, if_neg (by decide), Int.add_zero] at ih; exact t0 ih
    | true =>
      rw [c, if_pos rfl] at ih
      refine t1 ?_
      refine between_ok B (by omega) (by omega) (by omega) (by omega) ?_
      rw [show (m 0 - 1 + 40).toNat = (m 0 + 39).toNat by omega, show (m 0 - 1 + 41).toNat = (m 0 + 39).toNat + 1 by omega, rg_one, I_add]
      exact ih
def bs (M : Nat → Bool) (W k : Nat → Int) : Nat → Int
  | 0 => -1
  | n + 1 => if M n = true ∧ (bs M W k n = -1 ∨ k n < k (bs M W k n).toNat ∨ (k n = k (bs M W k n).toNat ∧ W (bs M W k n).toNat < W n)) then (n : Int) else bs M W k n
theorem bs_range (M : Nat → Bool) (W k : Nat → Int) (n : Nat) : -1 ≤ bs M W k n ∧ bs M W k n < n := by
  induction n with
  | zero => exact ⟨by show (-1 : Int) ≤ -1; omega, by show (-1 : Int) < 0; omega⟩
  | succ n ih => simp only [bs]; split <;> omega
def bF (M : Nat → Bool) (W k : Nat → Int) (N : Nat) (v : Int) : Int := if bs M W k N = -1 then -1 else if v = 0 then bs M W k N else k (bs M W k N).toNat
theorem cbest_ok {σ : St} {M : Nat → Bool} {W k : Nat → Int} {N p : Nat} {v : Int} {post : Int32 → St → Prop} (hN : N ≤ 16) (h1 : gI σ 1 0 = II N) (hM : ∀ n, n < N → gI σ 50 n = II (if M n then 1 else 0)) (hW : ∀ n, n < N → gI σ 49 n = II (W n) ∧ -2000000000 < W n ∧ W n < 2000000000) (hk : ∀ n, n < N → (0 ≤ k n ∧ k n ≤ 1919808) ∧ ∀ post : Int32 → St → Prop, post (II (k n)) σ → wpX10_akinLastYear (II p) (II n) σ post)
    (hv : 0 ≤ v ∧ v ≤ 1) (hp : post (II (bF M W k N v)) σ) : ∃ f, wbX11_best_52 post f (II p) (II v) (-1) 0 0 σ := by
  have key := up (P := fun f n => wbX11_best_52 post f (II p) (II v) (II (bs M W k n)) (II (if bs M W k n = -1 then 0 else k (bs M W k n).toNat)) (II n) σ) N ?_ ?_ 0 (by omega)
  · exact key
  · intro f
    have br := bs_range M W k N
    unfold bF at hp
    simp (disch := omega) only [wbX11_best_52, h1, I_le, I_lit, I_neg, I_eq]
    refine ⟨fun _ => ⟨fun q => ?_, fun q => ⟨fun q2 => ?_, fun q2 => ?_⟩⟩, fun q => absurd (by omega) q⟩
    · rw [if_pos q] at hp; rw [q]; exact hp
    · rw [if_neg q, if_neg q2] at hp; rw [if_neg q]; exact hp
    · rw [if_neg q, if_pos q2] at hp; exact hp
  · intro f n hn ih
    have br := bs_range M W k n
    have eb : bs M W k (n + 1) = if M n = true ∧ (bs M W k n = -1 ∨ k n < k (bs M W k n).toNat ∨ (k n = k (bs M W k n).toNat ∧ W (bs M W k n).toNat < W n)) then (n : Int) else bs M W k n := rfl
    rw [eb] at ih
    obtain ⟨kb, kc⟩ := hk n hn
    have yes : (M n = true ∧ (bs M W k n = -1 ∨ k n < k (bs M W k n).toNat ∨ (k n = k (bs M W k n).toNat ∧ W (bs M W k n).toNat < W n))) → wbX11_best_52 post f (II p) (II v) (II n) (II (k n)) (II ((n : Int) + 1)) σ := by
      intro c
      rw [if_pos c, if_neg (by omega), Int.toNat_natCast] at ih
      exact ih
    have no : ¬ (M n = true ∧ (bs M W k n = -1 ∨ k n < k (bs M W k n).toNat ∨ (k n = k (bs M W k n).toNat ∧ W (bs M W k n).toNat < W n))) → wbX11_best_52 post f (II p) (II v) (II (bs M W k n)) (II (if bs M W k n = -1 then 0 else k (bs M W k n).toNat)) (II ((n : Int) + 1)) σ := by
      intro c
      rw [if_neg c] at ih
      exact ih
    simp (disch := omega) only [wbX11_best_52, wbX11_best_137, h1, I_le, I_lit, I_neg, I_eq, I_in, true_and, I_cl, Int.toNat_natCast, hM n hn, fe, I_add]
    refine ⟨fun q => absurd q (by omega), fun _ => ?_⟩
    cases hm : M n with
    | false => exact ⟨fun _ => no (fun z => by rw [hm] at z; exact absurd z.1 (by decide)), fun z => absurd rfl z⟩
    | true =>
      refine ⟨fun z => absurd z (by decide), fun _ => kc _ ?_⟩
      refine ⟨fun q => ⟨fun z => absurd z (by decide), fun _ => yes ⟨hm, Or.inl q⟩⟩, fun q => ?_⟩
      have kb2 := (hk (bs M W k n).toNat (by omega)).1
      have a1 := hW n hn
      have a2 := hW (bs M W k n).toNat (by omega)
      have no := no
      rw [if_neg q] at no
      rw [if_neg q, I_lt (by omega), I_eq (by omega)]
      refine ⟨fun q2 => ⟨fun z => absurd z (by decide), fun _ => yes ⟨hm, Or.inr (Or.inl q2)⟩⟩, fun q2 => ⟨fun q3 => ⟨fun _ => no (fun z => by omega), fun z => absurd trivial z⟩, fun q3 => ?_⟩⟩
      simp (disch := omega) only [I_in, true_and, I_cl, Int.toNat_natCast, a1.1, a2.1, I_le]
      refine ⟨fun q4 => ⟨fun _ => no (fun z => by omega), fun z => absurd trivial z⟩, fun q4 => ⟨fun z => absurd z (by decide), fun _ => yes ⟨hm, Or.inr (Or.inr ⟨q3, by omega⟩)⟩⟩⟩
