/-! taste: what the codes mean -/
theorem I_tdiv {a b : Int} (ha : -1000000000 ≤ a ∧ a ≤ 1000000000) (hb : -1000000000 ≤ b ∧ b ≤ 1000000000) : II a / II b = II (a.tdiv b) := by
  apply Int32.toInt_inj.mp
  rw [Int32.toInt_div, I_toInt (by omega), I_toInt (by omega)]
  have h1 : (a.tdiv b).natAbs ≤ a.natAbs := by rw [Int.natAbs_tdiv]; exact Nat.div_le_self _ _
  rw [I_toInt (by omega)]
  exact Int.bmod_eq_of_le (by omega) (by omega)
theorem L_tdiv {a b : Int} (ha : -1000000000 ≤ a ∧ a ≤ 1000000000) (hb : -1000000000 ≤ b ∧ b ≤ 1000000000) : LL a / LL b = LL (a.tdiv b) := by
  apply Int64.toInt_inj.mp
  rw [Int64.toInt_div, L_toInt (by omega), L_toInt (by omega)]
  have h1 : (a.tdiv b).natAbs ≤ a.natAbs := by rw [Int.natAbs_tdiv]; exact Nat.div_le_self _ _
  rw [L_toInt (by omega)]
  exact Int.bmod_eq_of_le (by omega) (by omega)
def clp (a : Int) : Int := if a ≤ 1000000000 then (if -1000000000 ≤ a then a else -1000000000) else 1000000000
def b01 (a : Int) : Bool := a == 0 || a == 1
def jn (x : Nat) (a b : Int) : Option Int :=
  if x = 17 then (if b01 a && b01 b then some (if a + b ≤ 0 then 0 else 1) else none)
  else if x = 18 then (if b01 a && b01 b then some (a * b) else none)
  else if x = 20 then some (if b < a then b else a)
  else if x = 21 then some (if a < b then b else a)
  else if x = 22 then some (if a < b then 1 else 0)
  else if x = 23 then some (if a ≤ b then 1 else 0)
  else if x = 24 then some (if b < a then 1 else 0)
  else if x = 25 then some (if b ≤ a then 1 else 0)
  else if x = 26 then some (if a = b then 1 else 0)
  else if x = 27 then some (if a = b then 0 else 1)
  else if x = 28 then some (clp (a + b))
  else if x = 29 then some (clp (a - b))
  else if x = 30 then some (clp (a * b))
  else if x = 31 then some (if b = 0 then 0 else a.tdiv b)
  else none
def stp (w : Nat → Int) (x : Nat) (s : List Int) : Option (List Int) :=
  if 100 ≤ x then (if s.length < 60 ∧ x ≤ 10099 then some (((x : Int) - 100) :: s) else none)
  else if x < 14 then (if s.length < 60 then some (w x :: s) else none)
  else match s with
    | [] => none
    | b :: s1 =>
      if x = 40 then some (-b :: s1)
      else if x = 19 then (if b01 b then some ((1 - b) :: s1) else none)
      else match s1 with
        | [] => none
        | a :: s2 => (match jn x a b with
          | some v => some (v :: s2)
          | none => none)
def rns (w : Nat → Int) : List Nat → List Int → Option (List Int)
  | [], s => some s
  | x :: c, s => (match stp w x s with
    | some t => rns w c t
    | none => none)
theorem rns_app {w : Nat → Int} : ∀ (c d : List Nat) (s t : List Int), rns w c s = some t → rns w (c ++ d) s = rns w d t := by
  intro c
  induction c with
  | nil => intro d s t h; simp only [rns, Option.some.injEq] at h; rw [← h]; rfl
  | cons x c ih =>
    intro d s t h
    simp only [rns, List.cons_append] at h ⊢
    cases e : stp w x s with
    | none => rw [e] at h; exact absurd h (by simp)
    | some y => rw [e] at h; exact ih d y t h
theorem rns_one {w : Nat → Int} (x : Nat) (s : List Int) : rns w [x] s = stp w x s := by
  simp only [rns]
  cases stp w x s <;> rfl
/-- a code that gives one value more: t a truth -/
def Ty (t : Bool) (v : Int) : Prop := t = true → b01 v = true
def Vl (t : Bool) (D : Nat) (c : List Nat) : Prop := ∀ w, ∃ v, Ty t v ∧ ∀ s : List Int, s.length + D ≤ 60 → rns w c s = some (v :: s)
def VR (t : Bool) (D : Nat) (f : Nat → Res) : Prop := ∀ p q c, f p = .inl (q, c) → Vl t D c
theorem Vl_mono {t : Bool} {D E : Nat} {c : List Nat} (h : Vl t D c) (hE : D ≤ E) : Vl t E c := fun w => by
  obtain ⟨v, h1, h2⟩ := h w
  exact ⟨v, h1, fun s hs => h2 s (by omega)⟩
theorem Vl_nil {D : Nat} {t : Bool} {a : List Nat} {b : List Nat} (h : Vl t D a) (hb : b = []) : Vl t D (a ++ b) := by rw [hb, List.append_nil]; exact h
def OkO (t : Bool) (u : Bool) (x : Nat) : Prop := 14 ≤ x ∧ x < 100 ∧ x ≠ 40 ∧ x ≠ 19 ∧ ∀ a b, Ty t a → Ty t b → ∃ v, Ty u v ∧ jn x a b = some v
theorem stp_jn {w : Nat → Int} {x : Nat} {a b v : Int} {s : List Int} (h : 14 ≤ x ∧ x < 100 ∧ x ≠ 40 ∧ x ≠ 19) (hj : jn x a b = some v) : stp w x (b :: a :: s) = some (v :: s) := by
  unfold stp
  rw [if_neg (by omega), if_neg (by omega)]
  simp only
  rw [if_neg h.2.2.1, if_neg h.2.2.2, hj]
/-- two values and what joins them -/
theorem Vl_two {t u : Bool} {D E x : Nat} {a b : List Nat} (h1 : Vl t D a) (h2 : Vl t E b) (hx : OkO t u x) (hDE : E + 1 ≤ D) : Vl u D (a ++ (b ++ [x])) := fun w => by
  obtain ⟨v1, a1, a2⟩ := h1 w
  obtain ⟨v2, b1, b2⟩ := h2 w
  obtain ⟨v, c1, c2⟩ := hx.2.2.2.2 v1 v2 a1 b1
  refine ⟨v, c1, fun s hs => ?_⟩
  rw [rns_app _ _ _ _ (a2 s hs), rns_app _ _ _ _ (b2 (v1 :: s) (by simp only [List.length_cons]; omega)), rns_one]
  exact stp_jn ⟨hx.1, hx.2.1, hx.2.2.1, hx.2.2.2.1⟩ c2
theorem VR_lp {K : Nat → Nat} {f : Nat → Res} {op : Nat → Bool} {t : Bool} {D : Nat} (hf : VR t D f) (ho : ∀ x, op x = true → OkO t t x) : ∀ n p q c, lpL K f op n p = .inl (q, c) → ∀ w v, Ty t v → ∃ v', Ty t v' ∧ ∀ s : List Int, s.length + D + 1 ≤ 60 → rns w c (v :: s) = some (v' :: s) := by
  intro n
  induction n with
  | zero =>
    intro p q c h w v hv
    simp only [lpL, Sum.inl.injEq, Prod.mk.injEq] at h
    rw [← h.2]
    exact ⟨v, hv, fun s _ => rfl⟩
  | succ n ih =>
    intro p q c h w v hv
    simp only [lpL] at h
    by_cases o : op (K p) = true
    · rw [if_pos o] at h
      obtain ⟨a, b, h1, h2, h3⟩ := bd_inl h
      obtain ⟨a2, h4, h5⟩ := em_inl h1
      obtain ⟨v2, b1, b2⟩ := hf _ _ _ h4 w
      have hx := ho _ o
      obtain ⟨v3, c1, c2⟩ := hx.2.2.2.2 v v2 hv b1
      obtain ⟨v4, d1, d2⟩ := ih _ _ _ h2 w v3 c1
      refine ⟨v4, d1, fun s hs => ?_⟩
      rw [h3, h5, List.append_assoc, rns_app _ _ _ _ (b2 (v :: s) (by simp only [List.length_cons]; omega)), rns_app _ _ _ (v3 :: s) (by rw [rns_one]; exact stp_jn ⟨hx.1, hx.2.1, hx.2.2.1, hx.2.2.2.1⟩ c2)]
      exact d2 s hs
    · rw [if_neg o] at h
      simp only [Sum.inl.injEq, Prod.mk.injEq] at h
      rw [← h.2]
      exact ⟨v, hv, fun s _ => rfl⟩
theorem VR_chn {K : Nat → Nat} {f : Nat → Res} {op : Nat → Bool} {t : Bool} {D : Nat} (hf : VR t D f) (ho : ∀ x, op x = true → OkO t t x) : VR t (D + 1) (chn K f op) := by
  intro p q c h
  unfold chn at h
  obtain ⟨a, b, h1, h2, h3⟩ := bd_inl h
  intro w
  obtain ⟨v, a1, a2⟩ := hf _ _ _ h1 w
  obtain ⟨v', b1, b2⟩ := VR_lp hf ho _ _ _ _ h2 w v a1
  refine ⟨v', b1, fun s hs => ?_⟩
  rw [h3, rns_app _ _ _ _ (a2 s (by omega))]
  exact b2 s (by omega)
theorem okInt {x : Nat} (h : 20 ≤ x ∧ x ≤ 31) : OkO false false x := by
  refine ⟨by omega, by omega, by omega, by omega, fun a b _ _ => ?_⟩
  have : ∃ v, jn x a b = some v := by
    have c : x = 20 ∨ x = 21 ∨ x = 22 ∨ x = 23 ∨ x = 24 ∨ x = 25 ∨ x = 26 ∨ x = 27 ∨ x = 28 ∨ x = 29 ∨ x = 30 ∨ x = 31 := by omega
    rcases c with c | c | c | c | c | c | c | c | c | c | c | c <;> subst c <;> exact ⟨_, rfl⟩
  obtain ⟨v, hv⟩ := this
  exact ⟨v, fun z => absurd z (by decide), hv⟩
theorem okCm {x : Nat} (h : 22 ≤ x ∧ x ≤ 27) : OkO false true x := by
  refine ⟨by omega, by omega, by omega, by omega, fun a b _ _ => ?_⟩
  have bb : ∀ (P : Prop) [Decidable P], b01 (if P then 1 else 0) = true ∧ b01 (if P then 0 else 1) = true := fun P _ => by constructor <;> split <;> rfl
  have c : x = 22 ∨ x = 23 ∨ x = 24 ∨ x = 25 ∨ x = 26 ∨ x = 27 := by omega
  rcases c with c | c | c | c | c | c <;> subst c
  · exact ⟨_, fun _ => (bb (a < b)).1, rfl⟩
  · exact ⟨_, fun _ => (bb (a ≤ b)).1, rfl⟩
  · exact ⟨_, fun _ => (bb (b < a)).1, rfl⟩
  · exact ⟨_, fun _ => (bb (b ≤ a)).1, rfl⟩
  · exact ⟨_, fun _ => (bb (a = b)).1, rfl⟩
  · exact ⟨_, fun _ => (bb (a = b)).2, rfl⟩
theorem okB {x : Nat} (h : x = 17 ∨ x = 18) : OkO true true x := by
  refine ⟨by omega, by omega, by omega, by omega, fun a b ha hb => ?_⟩
  have h1 := ha rfl
  have h2 := hb rfl
  have e1 : a = 0 ∨ a = 1 := by unfold b01 at h1; simpa using h1
  have e2 : b = 0 ∨ b = 1 := by unfold b01 at h2; simpa using h2
  rcases h with c | c <;> subst c <;> rcases e1 with e1 | e1 <;> rcases e2 with e2 | e2 <;> subst e1 <;> subst e2
  all_goals first | exact ⟨0, fun _ => rfl, rfl⟩ | exact ⟨1, fun _ => rfl, rfl⟩
theorem VR_pSm {K : Nat → Nat} {f : Nat → Res} {D : Nat} (hf : VR false D f) : VR false (D + 2) (pSm K f) := by
  refine VR_chn (VR_chn hf (fun x hx => okInt ?_)) (fun x hx => okInt ?_)
  · unfold isMul at hx; simp at hx; omega
  · unfold isAdd at hx; simp at hx; omega
theorem exT_nil {K : Nat → Nat} {k p q : Nat} {c : List Nat} (h : exT K k p = .inl (q, c)) : c = [] := by
  unfold exT at h
  split at h
  · simp only [Sum.inl.injEq, Prod.mk.injEq] at h; exact h.2.symm
  · exact absurd h (by simp)
theorem VR_exT {K : Nat → Nat} {f : Nat → Res} {t : Bool} {D k : Nat} (hf : VR t D f) {p q : Nat} {c : List Nat} (h : bd (f p) (exT K k) = .inl (q, c)) : Vl t D c := by
  obtain ⟨a, b, h1, h2, h3⟩ := bd_inl h
  rw [h3]
  exact Vl_nil (hf _ _ _ h1) (exT_nil h2)
theorem VR_leaf {K V : Nat → Nat} {ar : Nat → Res} {D : Nat} (hD : 1 ≤ D) (ha : ∀ p, (K p = 29 ∨ K p = 32 ∨ K p = 20 ∨ K p = 21) → ∀ q c, ar p = .inl (q, c) → Vl false D c) : VR false D (pLf K V ar) := by
  intro p q c h
  unfold pLf at h
  by_cases e1 : K p = 36
  · rw [if_pos e1] at h
    split at h
    · rename_i hv
      simp only [Sum.inl.injEq, Prod.mk.injEq] at h
      rw [← h.2]
      refine fun w => ⟨((100 + V p : Nat) : Int) - 100, fun z => absurd z (by decide), fun s hs => ?_⟩
      rw [rns_one]; unfold stp; rw [if_pos (by omega), if_pos (by omega)]
    · exact absurd h (by simp)
  · rw [if_neg e1] at h
    by_cases e2 : K p < 14
    · rw [if_pos e2] at h
      simp only [Sum.inl.injEq, Prod.mk.injEq] at h
      rw [← h.2]
      refine fun w => ⟨w (K p), fun z => absurd z (by decide), fun s hs => ?_⟩
      rw [rns_one]; unfold stp; rw [if_neg (by omega), if_pos e2, if_pos (by omega)]
    · rw [if_neg e2] at h
      by_cases e3 : K p = 29 ∨ K p = 32 ∨ K p = 20 ∨ K p = 21
      · rw [if_pos e3] at h; exact ha p e3 q c h
      · rw [if_neg e3] at h; exact absurd h (by simp)
theorem VR_pAr {K : Nat → Nat} {f : Nat → Res} {D : Nat} (hf : VR false D f) (p : Nat) (hk : K p = 29 ∨ K p = 32 ∨ K p = 20 ∨ K p = 21) (q : Nat) (c : List Nat) (h : pAr K f p = .inl (q, c)) : Vl false (D + 3) c := by
  have hs := VR_pSm (K := K) hf
  unfold pAr at h
  by_cases e1 : K p = 29
  · rw [if_pos e1] at h
    obtain ⟨a, h1, h2⟩ := em_inl h
    intro w
    obtain ⟨v, b1, b2⟩ := hf _ _ _ h1 w
    refine ⟨-v, fun z => absurd z (by decide), fun s hs => ?_⟩
    rw [h2, rns_app _ _ _ _ (b2 s (by omega)), rns_one]
    rfl
  · rw [if_neg e1] at h
    by_cases e2 : K p = 32
    · rw [if_pos e2] at h
      exact Vl_mono (VR_exT hs h) (by omega)
    · rw [if_neg e2] at h
      by_cases e3 : K (p + 1) = 32
      · rw [if_pos e3] at h
        obtain ⟨a, b, h1, h2, h3⟩ := bd_inl h
        obtain ⟨a2, h4, h5⟩ := em_inl h1
        obtain ⟨c1, c2, h6, h7, h8⟩ := bd_inl h4
        have y1 := VR_exT hs (p := p + 2) (q := c1.1) (c := c1.2) h6
        have y2 := hs _ _ _ h7
        rw [h3, h5, h8, exT_nil h2, List.append_nil, List.append_assoc]
        exact Vl_two (D := D + 3) (Vl_mono y1 (by omega)) y2 (okInt (by omega)) (by omega)
      · rw [if_neg e3] at h; exact absurd h (by simp)
theorem VR_pOne {K V : Nat → Nat} : ∀ d, VR false (3 * d + 1) (pOne K V d) := by
  intro d
  induction d with
  | zero =>
    refine VR_leaf (by omega) (fun p _ q c h => ?_)
    unfold pFl at h
    split at h
    · exact absurd h (by simp)
    · split at h <;> exact absurd h (by simp)
  | succ d ih => exact VR_leaf (by omega) (fun p hk q c h => Vl_mono (VR_pAr ih p hk q c h) (by omega))
theorem VR_pCm {K V : Nat → Nat} (d : Nat) : VR true (3 * d + 4) (pCm K V d) := by
  intro p q c h
  have hs := VR_pSm (K := K) (VR_pOne (K := K) (V := V) d)
  unfold pCm at h
  obtain ⟨a, b, h1, h2, h3⟩ := bd_inl h
  unfold exC at h2
  by_cases e : 22 ≤ K a.1 ∧ K a.1 ≤ 27
  · rw [if_pos e] at h2
    obtain ⟨a2, h4, h5⟩ := em_inl h2
    rw [h3, h5]
    exact Vl_two (Vl_mono (hs _ _ _ h1) (by omega)) (hs _ _ _ h4) (okCm e) (by omega)
  · rw [if_neg e] at h2; exact absurd h2 (by simp)
theorem VR_pAsk {K V : Nat → Nat} : ∀ d, VR true (3 * d + 4) (pAsk K V d) := by
  intro d
  induction d with
  | zero =>
    intro p q c h
    simp only [pAsk] at h
    by_cases e : K p = 19
    · rw [if_pos e] at h; exact absurd h (by simp)
    · rw [if_neg e] at h; exact VR_pCm 0 p q c h
  | succ d ih =>
    intro p q c h
    simp only [pAsk] at h
    by_cases e : K p = 19
    · rw [if_pos e] at h
      obtain ⟨a, h1, h2⟩ := em_inl h
      intro w
      obtain ⟨v, b1, b2⟩ := ih _ _ _ h1 w
      have bv := b1 rfl
      refine ⟨1 - v, fun _ => ?_, fun s hs => ?_⟩
      · have e1 : v = 0 ∨ v = 1 := by unfold b01 at bv; simpa using bv
        rcases e1 with e1 | e1 <;> subst e1 <;> rfl
      · rw [h2, rns_app _ _ _ _ (b2 s (by omega)), rns_one]
        unfold stp
        rw [if_neg (by omega), if_neg (by omega)]
        simp only
        rw [if_neg (by omega), if_pos trivial, if_pos bv]
    · rw [if_neg e] at h; exact VR_pCm (d + 1) p q c h
theorem VR_pEi {K V : Nat → Nat} : VR true 30 (pEi K V) := by
  refine VR_chn (VR_chn (VR_pAsk 8) (fun x hx => okB ?_)) (fun x hx => okB ?_)
  · unfold isAnd at hx; simp at hx; omega
  · unfold isOr at hx; simp at hx; omega
