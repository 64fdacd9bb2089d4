/-! taste: the reading, pure -/
abbrev Res : Type := (Nat × List Nat) ⊕ (Nat × Nat)
def bd (r : Res) (f : Nat → Res) : Res :=
  match r with
  | .inl a => (match f a.1 with
    | .inl b => .inl (b.1, a.2 ++ b.2)
    | .inr e => .inr e)
  | .inr e => .inr e
def em (x : Nat) (r : Res) : Res :=
  match r with
  | .inl a => .inl (a.1, a.2 ++ [x])
  | .inr e => .inr e
def exT (K : Nat → Nat) (k : Nat) (p : Nat) : Res := if K p = k then .inl (p + 1, []) else .inr (1, p)
def lpL (K : Nat → Nat) (f : Nat → Res) (op : Nat → Bool) : Nat → Nat → Res
  | 0, p => .inl (p, [])
  | n + 1, p => if op (K p) = true then bd (em (K p) (f (p + 1))) (lpL K f op n) else .inl (p, [])
def chn (K : Nat → Nat) (f : Nat → Res) (op : Nat → Bool) (p : Nat) : Res := bd (f p) (lpL K f op 300)
def isMul (x : Nat) : Bool := x == 30 || x == 31
def isAdd (x : Nat) : Bool := x == 28 || x == 29
def isAnd (x : Nat) : Bool := x == 18
def isOr (x : Nat) : Bool := x == 17
def pSm (K : Nat → Nat) (f : Nat → Res) (p : Nat) : Res := chn K (chn K f isMul) isAdd p
/-- what stands around another, one deeper by f -/
def pAr (K : Nat → Nat) (f : Nat → Res) (p : Nat) : Res :=
  if K p = 29 then em 40 (f (p + 1))
  else if K p = 32 then bd (pSm K f (p + 1)) (exT K 33)
  else if K (p + 1) = 32 then bd (em (K p) (bd (bd (pSm K f (p + 2)) (exT K 34)) (pSm K f))) (exT K 33)
  else .inr (1, p + 1)
def pFl (K : Nat → Nat) (p : Nat) : Res := if K p = 29 ∨ K p = 32 then .inr (3, p) else if K (p + 1) = 32 then .inr (3, p + 1) else .inr (1, p + 1)
def pLf (K V : Nat → Nat) (ar : Nat → Res) (p : Nat) : Res :=
  if K p = 36 then (if V p ≤ 9999 then .inl (p + 1, [100 + V p]) else .inr (2, p))
  else if K p < 14 then .inl (p + 1, [K p])
  else if K p = 29 ∨ K p = 32 ∨ K p = 20 ∨ K p = 21 then ar p
  else .inr (1, p)
def pOne (K V : Nat → Nat) : Nat → (Nat → Res)
  | 0 => pLf K V (pFl K)
  | d + 1 => pLf K V (pAr K (pOne K V d))
def exC (K : Nat → Nat) (f : Nat → Res) (p : Nat) : Res := if 22 ≤ K p ∧ K p ≤ 27 then em (K p) (f (p + 1)) else .inr (1, p)
def pCm (K V : Nat → Nat) (d : Nat) (p : Nat) : Res := bd (pSm K (pOne K V d) p) (exC K (pSm K (pOne K V d)))
def pAsk (K V : Nat → Nat) : Nat → (Nat → Res)
  | 0 => fun p => if K p = 19 then .inr (3, p) else pCm K V 0 p
  | d + 1 => fun p => if K p = 19 then em 19 (pAsk K V d (p + 1)) else pCm K V (d + 1) p
def pEi (K V : Nat → Nat) (p : Nat) : Res := chn K (chn K (pAsk K V 8) isAnd) isOr p
/-! how long -/
def Ln (N : Nat) (f : Nat → Res) : Prop := ∀ p, p ≤ N → ∀ q c, f p = .inl (q, c) → q ≤ N ∧ p + c.length ≤ q
/-- the tokens: the end at N, none of them halting -/
def Tk (K : Nat → Nat) (N : Nat) : Prop := K N = 37 ∧ N ≤ 300 ∧ ∀ p, p < N → K p ≤ 38 ∧ K p ≠ 37
theorem bd_inl {r : Res} {f : Nat → Res} {q : Nat} {c : List Nat} (h : bd r f = .inl (q, c)) : ∃ a b, r = .inl a ∧ f a.1 = .inl (q, b) ∧ c = a.2 ++ b := by
  unfold bd at h
  split at h
  · rename_i a
    split at h
    · rename_i b hb
      simp only [Sum.inl.injEq] at h
      have h1 : b.1 = q := by rw [Prod.ext_iff] at h; exact h.1
      have h2 : a.2 ++ b.2 = c := by rw [Prod.ext_iff] at h; exact h.2
      exact ⟨a, b.2, rfl, by rw [hb, ← h1], h2.symm⟩
    · exact absurd h (by simp)
  · exact absurd h (by simp)
theorem em_inl {r : Res} {x q : Nat} {c : List Nat} (h : em x r = .inl (q, c)) : ∃ a, r = .inl (q, a) ∧ c = a ++ [x] := by
  unfold em at h
  split at h
  · rename_i a
    simp only [Sum.inl.injEq, Prod.mk.injEq] at h
    exact ⟨a.2, by rw [← h.1], h.2.symm⟩
  · exact absurd h (by simp)
theorem Ln_bd {N : Nat} {f g : Nat → Res} (hf : Ln N f) (hg : Ln N g) : Ln N (fun p => bd (f p) g) := by
  intro p hp q c h
  obtain ⟨a, b, h1, h2, h3⟩ := bd_inl h
  obtain ⟨x1, x2⟩ := hf p hp a.1 a.2 h1
  obtain ⟨y1, y2⟩ := hg a.1 x1 q b h2
  rw [h3, List.length_append]; omega
theorem Ln_lp {K : Nat → Nat} {N : Nat} {f : Nat → Res} {op : Nat → Bool} (hT : Tk K N) (ho : op 37 = false) (hf : Ln N f) : ∀ n, Ln N (lpL K f op n) := by
  intro n
  induction n with
  | zero =>
    intro p hp q c h
    simp only [lpL, Sum.inl.injEq, Prod.mk.injEq] at h
    rw [← h.1, ← h.2]; exact ⟨hp, by simp⟩
  | succ n ih =>
    intro p hp q c h
    simp only [lpL] at h
    by_cases o : op (K p) = true
    · rw [if_pos o] at h
      have hN : p ≠ N := fun e => by rw [e, hT.1, ho] at o; exact absurd o (by decide)
      obtain ⟨a, b, h1, h2, h3⟩ := bd_inl h
      obtain ⟨a2, h4, h5⟩ := em_inl h1
      obtain ⟨x1, x2⟩ := hf (p + 1) (by omega) _ _ h4
      obtain ⟨y1, y2⟩ := ih a.1 x1 q b h2
      rw [h3, h5, List.length_append, List.length_append, List.length_singleton]; omega
    · rw [if_neg o] at h
      simp only [Sum.inl.injEq, Prod.mk.injEq] at h
      rw [← h.1, ← h.2]; exact ⟨hp, by simp⟩
theorem Ln_chn {K : Nat → Nat} {N : Nat} {f : Nat → Res} {op : Nat → Bool} (hT : Tk K N) (ho : op 37 = false) (hf : Ln N f) : Ln N (chn K f op) := Ln_bd hf (Ln_lp hT ho hf 300)
theorem Ln_pSm {K : Nat → Nat} {N : Nat} {f : Nat → Res} (hT : Tk K N) (hf : Ln N f) : Ln N (pSm K f) := Ln_chn hT rfl (Ln_chn hT rfl hf)
theorem Ln_exT {K : Nat → Nat} {N k : Nat} (hT : Tk K N) (hk : k ≠ 37) : Ln N (exT K k) := by
  intro p hp q c h
  unfold exT at h
  by_cases e : K p = k
  · rw [if_pos e] at h
    simp only [Sum.inl.injEq, Prod.mk.injEq] at h
    have hN : p ≠ N := fun z => hk (by rw [← e, z, hT.1])
    rw [← h.1, ← h.2]; exact ⟨by omega, by simp⟩
  · rw [if_neg e] at h; exact absurd h (by simp)
theorem Ln_pLf {K V : Nat → Nat} {N : Nat} {ar : Nat → Res} (hT : Tk K N) (ha : ∀ p, p ≤ N → (K p = 29 ∨ K p = 32 ∨ K p = 20 ∨ K p = 21) → ∀ q c, ar p = .inl (q, c) → q ≤ N ∧ p + c.length ≤ q) : Ln N (pLf K V ar) := by
  intro p hp q c h
  unfold pLf at h
  by_cases e1 : K p = 36
  · rw [if_pos e1] at h
    have hN : p ≠ N := fun z => by rw [z, hT.1] at e1; omega
    split at h
    · simp only [Sum.inl.injEq, Prod.mk.injEq] at h
      rw [← h.1, ← h.2]; exact ⟨by omega, by simp⟩
    · exact absurd h (by simp)
  · rw [if_neg e1] at h
    by_cases e2 : K p < 14
    · rw [if_pos e2] at h
      have hN : p ≠ N := fun z => by rw [z, hT.1] at e2; omega
      simp only [Sum.inl.injEq, Prod.mk.injEq] at h
      rw [← h.1, ← h.2]; exact ⟨by omega, by simp⟩
    · rw [if_neg e2] at h
      by_cases e3 : K p = 29 ∨ K p = 32 ∨ K p = 20 ∨ K p = 21
      · rw [if_pos e3] at h; exact ha p hp e3 q c h
      · rw [if_neg e3] at h; exact absurd h (by simp)
theorem Ln_pAr {K : Nat → Nat} {N : Nat} {f : Nat → Res} (hT : Tk K N) (hf : Ln N f) (p : Nat) (hp : p ≤ N) (hk : K p = 29 ∨ K p = 32 ∨ K p = 20 ∨ K p = 21) (q : Nat) (c : List Nat) (h : pAr K f p = .inl (q, c)) : q ≤ N ∧ p + c.length ≤ q := by
  have hN : p ≠ N := fun z => by rw [z, hT.1] at hk; omega
  have hs := Ln_pSm hT hf
  unfold pAr at h
  by_cases e1 : K p = 29
  · rw [if_pos e1] at h
    obtain ⟨a, h1, h2⟩ := em_inl h
    obtain ⟨x1, x2⟩ := hf (p + 1) (by omega) q a h1
    rw [h2, List.length_append, List.length_singleton]; omega
  · rw [if_neg e1] at h
    by_cases e2 : K p = 32
    · rw [if_pos e2] at h
      have := Ln_bd hs (Ln_exT (k := 33) hT (by omega)) (p + 1) (by omega) q c h
      omega
    · rw [if_neg e2] at h
      by_cases e3 : K (p + 1) = 32
      · rw [if_pos e3] at h
        have hN2 : p + 1 ≠ N := fun z => by rw [z, hT.1] at e3; omega
        obtain ⟨a, b, h1, h2, h3⟩ := bd_inl h
        obtain ⟨a2, h4, h5⟩ := em_inl h1
        obtain ⟨x1, x2⟩ := Ln_bd (Ln_bd hs (Ln_exT (k := 34) hT (by omega))) hs (p + 2) (by omega) _ _ h4
        obtain ⟨y1, y2⟩ := Ln_exT (k := 33) hT (by omega) a.1 x1 q b h2
        rw [h3, h5, List.length_append, List.length_append, List.length_singleton]; omega
      · rw [if_neg e3] at h; exact absurd h (by simp)
theorem Ln_pOne {K V : Nat → Nat} {N : Nat} (hT : Tk K N) : ∀ d, Ln N (pOne K V d) := by
  intro d
  induction d with
  | zero =>
    refine Ln_pLf hT (fun p _ _ q c h => ?_)
    unfold pFl at h
    split at h
    · exact absurd h (by simp)
    · split at h <;> exact absurd h (by simp)
  | succ d ih => exact Ln_pLf hT (Ln_pAr hT ih)
theorem Ln_pCm {K V : Nat → Nat} {N : Nat} (hT : Tk K N) (d : Nat) : Ln N (pCm K V d) := by
  have hs := Ln_pSm hT (Ln_pOne (V := V) hT d)
  refine Ln_bd hs ?_
  intro p hp q c h
  unfold exC at h
  by_cases e : 22 ≤ K p ∧ K p ≤ 27
  · rw [if_pos e] at h
    have hN : p ≠ N := fun z => by rw [z, hT.1] at e; omega
    obtain ⟨a, h1, h2⟩ := em_inl h
    obtain ⟨x1, x2⟩ := hs (p + 1) (by omega) q a h1
    rw [h2, List.length_append, List.length_singleton]; omega
  · rw [if_neg e] at h; exact absurd h (by simp)
theorem Ln_pAsk {K V : Nat → Nat} {N : Nat} (hT : Tk K N) : ∀ d, Ln N (pAsk K V d) := by
  intro d
  induction d with
  | zero =>
    intro p hp q c h
    simp only [pAsk] at h
    by_cases e : K p = 19
    · rw [if_pos e] at h; exact absurd h (by simp)
    · rw [if_neg e] at h; exact Ln_pCm hT 0 p hp q c h
  | succ d ih =>
    intro p hp q c h
    simp only [pAsk] at h
    by_cases e : K p = 19
    · rw [if_pos e] at h
      have hN : p ≠ N := fun z => by rw [z, hT.1] at e; omega
      obtain ⟨a, h1, h2⟩ := em_inl h
      obtain ⟨x1, x2⟩ := ih (p + 1) (by omega) q a h1
      rw [h2, List.length_append, List.length_singleton]; omega
    · rw [if_neg e] at h; exact Ln_pCm hT (d + 1) p hp q c h
theorem Ln_pEi {K V : Nat → Nat} {N : Nat} (hT : Tk K N) : Ln N (pEi K V) := Ln_chn hT rfl (Ln_chn hT rfl (Ln_pAsk hT 8))
