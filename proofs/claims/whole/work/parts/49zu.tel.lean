/-! taste: the reference tells a code -/
theorem rbound_ok {υ : St} {z : Int} {post : Int64 → St → Prop} (hz : -1000000000000000000 ≤ z ∧ z ≤ 1000000000000000000) (h : post (LL (clp z)) υ) : wpX12_bound (LL z) υ post := by
  unfold clp at h
  unfold wpX12_bound
  simp only [L_lit, L_neg]
  rw [L_le (by omega), L_le (by omega)]
  refine ⟨fun a => ⟨fun b => ?_, fun b => ?_⟩, fun a => ?_⟩
  · rw [if_pos a, if_pos b] at h; exact h
  · rw [if_pos a, if_neg b] at h; exact h
  · rw [if_neg a] at h; exact h
theorem ro_x {x : Nat} (h : x = 17 ∨ x = 18 ∨ (20 ≤ x ∧ x ≤ 31)) : (x = 17 ∧ (ro x).1 = 407) ∨ (x = 18 ∧ (ro x).1 = 406) ∨ (x = 20 ∧ (ro x).1 = 403) ∨ (x = 21 ∧ (ro x).1 = 404) ∨ (x = 22 ∧ (ro x).1 = 60) ∨ (x = 23 ∧ (ro x).1 = 300) ∨ (x = 24 ∧ (ro x).1 = 62) ∨ (x = 25 ∧ (ro x).1 = 301) ∨ (x = 26 ∧ (ro x).1 = 61) ∨ (x = 27 ∧ (ro x).1 = 35) ∨ (x = 28 ∧ (ro x).1 = 43) ∨ (x = 29 ∧ (ro x).1 = 45) ∨ (x = 30 ∧ (ro x).1 = 42) ∨ (x = 31 ∧ (ro x).1 = 47) := by
  have c : x = 17 ∨ x = 18 ∨ x = 20 ∨ x = 21 ∨ x = 22 ∨ x = 23 ∨ x = 24 ∨ x = 25 ∨ x = 26 ∨ x = 27 ∨ x = 28 ∨ x = 29 ∨ x = 30 ∨ x = 31 := by omega
  rcases c with c | c | c | c | c | c | c | c | c | c | c | c | c | c <;> subst c <;> decide
theorem rworked_ok {υ : St} {x y : Nat} {a b v : Int} {post : Int64 → St → Prop} (ha : bn9 a) (hb : bn9 b) (h : jn x a b = some v)
    (hy : (x = 17 ∧ y = 407) ∨ (x = 18 ∧ y = 406) ∨ (x = 20 ∧ y = 403) ∨ (x = 21 ∧ y = 404) ∨ (x = 22 ∧ y = 60) ∨ (x = 23 ∧ y = 300) ∨ (x = 24 ∧ y = 62) ∨ (x = 25 ∧ y = 301) ∨ (x = 26 ∧ y = 61) ∨ (x = 27 ∧ y = 35) ∨ (x = 28 ∧ y = 43) ∨ (x = 29 ∧ y = 45) ∨ (x = 30 ∧ y = 42) ∨ (x = 31 ∧ y = 47))
    (hq : post (LL v) υ) : wpX12_worked (II y) (LL a) (LL b) υ post := by
  have hx : y < 2 ^ 20 := by omega
  have mb := mul_b ha hb
  unfold bn9 at ha hb
  have yn : ∀ (P : Prop) [Decidable P], some (if P then (1 : Int) else 0) = some v → (¬ P → post 0 υ) ∧ (P → post 1 υ) := fun P _ e => by
    rw [Option.some.injEq] at e
    refine ⟨fun z => ?_, fun z => ?_⟩
    · rw [if_neg z] at e; rw [← e] at hq; exact hq
    · rw [if_pos z] at e; rw [← e] at hq; exact hq
  have ny : ∀ (P : Prop) [Decidable P], some (if P then (0 : Int) else 1) = some v → (P → post 0 υ) ∧ (¬ P → post 1 υ) := fun P _ e => by
    rw [Option.some.injEq] at e
    refine ⟨fun z => ?_, fun z => ?_⟩
    · rw [if_pos z] at e; rw [← e] at hq; exact hq
    · rw [if_neg z] at e; rw [← e] at hq; exact hq
  unfold wpX12_worked
  refine ist 35 hx (by decide) (fun c => ?_) (fun c1 => ?_)
  · have e : x = 27 := by omega
    subst e
    have := ny (a = b) h
    rw [L_eq (by omega)]; exact this
  refine ist 42 hx (by decide) (fun c => ?_) (fun c2 => ?_)
  · have e : x = 30 := by omega
    subst e
    have h : some (clp (a * b)) = some v := h
    rw [Option.some.injEq] at h
    rw [L_mul]; exact rbound_ok mb (by rw [h]; exact hq)
  refine ist 43 hx (by decide) (fun c => ?_) (fun c3 => ?_)
  · have e : x = 28 := by omega
    subst e
    have h : some (clp (a + b)) = some v := h
    rw [Option.some.injEq] at h
    rw [L_add]; exact rbound_ok (by omega) (by rw [h]; exact hq)
  refine ist 45 hx (by decide) (fun c => ?_) (fun c4 => ?_)
  · have e : x = 29 := by omega
    subst e
    have h : some (clp (a - b)) = some v := h
    rw [Option.some.injEq] at h
    rw [L_sub]; exact rbound_ok (by omega) (by rw [h]; exact hq)
  refine ist 47 hx (by decide) (fun c => ?_) (fun c5 => ?_)
  · have e : x = 31 := by omega
    subst e
    have h : some (if b = 0 then 0 else a.tdiv b) = some v := h
    rw [Option.some.injEq] at h
    rw [show (0 : Int64) = LL 0 from rfl, L_eq (by omega)]
    refine ⟨fun z => ⟨z, ?_⟩, fun z => ?_⟩
    · rw [L_tdiv ha hb]; rw [if_neg z] at h; rw [h]; exact hq
    · rw [if_pos z] at h; rw [← h] at hq; exact hq
  refine ist 60 hx (by decide) (fun c => ?_) (fun c6 => ?_)
  · have e : x = 22 := by omega
    subst e
    have := yn (a < b) h
    rw [L_le (by omega)]
    exact ⟨fun z => this.1 (by omega), fun z => this.2 (by omega)⟩
  refine ist 61 hx (by decide) (fun c => ?_) (fun c7 => ?_)
  · have e : x = 26 := by omega
    subst e
    have := yn (a = b) h
    rw [L_eq (by omega)]
    exact ⟨fun z => this.1 z, fun z => this.2 z⟩
  refine ist 62 hx (by decide) (fun c => ?_) (fun c8 => ?_)
  · have e : x = 24 := by omega
    subst e
    have := yn (b < a) h
    rw [L_le (by omega)]
    exact ⟨fun z => this.1 (by omega), fun z => this.2 (by omega)⟩
  refine ist 300 hx (by decide) (fun c => ?_) (fun c9 => ?_)
  · have e : x = 23 := by omega
    subst e
    have := yn (a ≤ b) h
    rw [L_lt (by omega)]
    exact ⟨fun z => this.1 (by omega), fun z => this.2 (by omega)⟩
  refine ist 301 hx (by decide) (fun c => ?_) (fun c10 => ?_)
  · have e : x = 25 := by omega
    subst e
    have := yn (b ≤ a) h
    rw [L_lt (by omega)]
    exact ⟨fun z => this.1 (by omega), fun z => this.2 (by omega)⟩
  refine ist 403 hx (by decide) (fun c => ?_) (fun c11 => ?_)
  · have e : x = 20 := by omega
    subst e
    have h : some (if b < a then b else a) = some v := h
    rw [Option.some.injEq] at h
    rw [← h] at hq
    rw [L_le (by omega)]
    refine ⟨fun z => ?_, fun z => ?_⟩
    · by_cases g : b < a
      · rw [if_pos g] at hq; exact hq
      · rw [if_neg g, show a = b by omega] at hq; exact hq
    · rw [if_neg (by omega)] at hq; exact hq
  refine ist 404 hx (by decide) (fun c => ?_) (fun c12 => ?_)
  · have e : x = 21 := by omega
    subst e
    have h : some (if a < b then b else a) = some v := h
    rw [Option.some.injEq] at h
    rw [← h] at hq
    rw [L_le (by omega)]
    refine ⟨fun z => ?_, fun z => ?_⟩
    · by_cases g : a < b
      · rw [if_pos g] at hq; exact hq
      · rw [if_neg g, show a = b by omega] at hq; exact hq
    · rw [if_neg (by omega)] at hq; exact hq
  refine ist 406 hx (by decide) (fun c => ?_) (fun c13 => ?_)
  · have e : x = 18 := by omega
    subst e
    have h : (if b01 a && b01 b then some (a * b) else none) = some v := h
    split at h
    · rw [Option.some.injEq] at h; rw [L_mul, h]; exact hq
    · exact absurd h (by simp)
  have e : x = 17 := by omega
  subst e
  have h : (if b01 a && b01 b then some (if a + b ≤ 0 then (0 : Int) else 1) else none) = some v := h
  split at h
  · have := ny _ h
    rw [L_add, show (0 : Int64) = LL 0 from rfl, L_le (by omega)]; exact this
  · exact absurd h (by simp)
def SL (υ : St) (s : List Int) : Prop := ∀ i, i < s.length → gL υ 97 i = LL (s.getD (s.length - 1 - i) 0)
theorem SL_push {υ : St} {s : List Int} {v : Int} (h : SL υ s) : SL (sL υ 97 s.length (LL v)) (v :: s) := by
  intro i hi
  rw [List.length_cons] at hi ⊢
  by_cases e : i = s.length
  · rw [e, rL1, show s.length + 1 - 1 - s.length = 0 by omega]; rfl
  · rw [rL3 e, h i (by omega), show s.length + 1 - 1 - i = (s.length - 1 - i) + 1 by omega, gdC]
theorem SL_top {υ : St} {s : List Int} {v : Int} (h : SL υ (v :: s)) : gL υ 97 s.length = LL v := by
  have := h s.length (by simp)
  rw [this, List.length_cons, show s.length + 1 - 1 - s.length = 0 by omega]; rfl
theorem SL_pop {υ : St} {s : List Int} {v : Int} (h : SL υ (v :: s)) : SL υ s := by
  intro i hi
  have := h i (by rw [List.length_cons]; omega)
  rw [this, List.length_cons, show s.length + 1 - 1 - i = (s.length - 1 - i) + 1 by omega, gdC]
def GoT (τ : St) (post : Int64 → St → Prop) (s : List Int) (j : Nat) : Prop := ∃ f, ∀ υ, Eqx [97] τ υ → SL υ s → wbX12_tells_4 post f (II (s.length : Nat)) (II j) υ
theorem gt_step {τ : St} {j x : Nat} {w : Nat → Int} {post : Int64 → St → Prop} {s s' : List Int} (hw : ∀ i, i < 14 → gL τ 96 i = LL (w i)) (hj : j < 2400) (h1 : gI τ 85 j = II ((ro x).1 : Nat)) (h2 : gI τ 86 j = II ((ro x).2 : Nat)) (hs : BS s) (hl : s.length ≤ 60) (hst : stp w x s = some s') (H : GoT τ post s' (j + 1)) : GoT τ post s j := by
  obtain ⟨f, hf⟩ := H
  refine ⟨f + 1, fun υ e k => ?_⟩
  have j1 : (II (j : Int)) + 1 = II ((j + 1 : Nat) : Int) := by rw [show (1 : Int32) = II 1 from rfl, I_add]; rfl
  have ge : ∀ i v, Eqx [97] τ (sL υ 97 i v) := fun i v => Eqx_tL e (by simp)
  have sub1 : ∀ m : Nat, (II ((m + 1 : Nat) : Int)) + (-1) = II (m : Int) := fun m => by rw [show (-1 : Int32) = II (-1) from rfl, I_add]; congr 1; omega
  have sub2 : ∀ m : Nat, (II ((m + 1 : Nat) : Int)) - 1 = II (m : Int) := fun m => by rw [show (1 : Int32) = II 1 from rfl, I_sub]; congr 1; omega
  have add1 : ∀ m : Nat, (II (m : Int)) + 1 = II ((m + 1 : Nat) : Int) := fun m => by rw [show (1 : Int32) = II 1 from rfl, I_add]; rfl
  have g1 : gI υ 85 j = II ((ro x).1 : Nat) := by rw [Eqx_gI e (by simp)]; exact h1
  have g2 : gI υ 86 j = II ((ro x).2 : Nat) := by rw [Eqx_gI e (by simp)]; exact h2
  have inj : vp_in (II (j : Int)) 2400 := of_eq_true (I_in (by omega))
  simp only [wbX12_tells_4]
  rw [I_cl (by omega), Int.toNat_natCast, g1]
  refine ⟨inj, ?_⟩
  rcases stp_i hst with ⟨c1, c2, c3⟩ | ⟨c1, c2, c3⟩ | ⟨c1, b, s1, c2, c3⟩ | ⟨c1, b, s1, c0, c2, c3⟩ | ⟨a, b, v, s2, c1, c2, c3, c4⟩
  · have er : ro x = (400, x - 100) := by unfold ro; rw [if_pos c1.1]
    rw [er] at g2 ⊢
    rw [show (((400, x - 100) : Nat × Nat).1) = 400 from rfl]
    refine ist 408 (by decide) (by decide) (fun z => absurd z (by decide)) (fun _ => ⟨inj, fun v4 e4 => ?_⟩)
    rw [e4]
    refine ist 400 (by decide) (by decide) (fun _ => ?_) (fun z => absurd rfl z)
    unfold wbX12_tells_40
    refine isn 400 (by decide) (by decide) (fun z => absurd rfl z) (fun _ => ⟨inj, of_eq_true (I_in (by omega)), ?_⟩)
    simp only [fe]
    rw [I_cl (by omega), Int.toNat_natCast, I_cl (by omega), Int.toNat_natCast, g2, I_wide (by simp only; omega), add1, j1]
    have := hf (sL υ 97 s.length (LL ((x : Int) - 100))) (ge _ _) (by rw [c3]; exact SL_push k)
    rw [c3] at this
    rw [show (((400, x - 100).2 : Nat) : Int) = (x : Int) - 100 by simp only; omega]
    exact this
  · have er : ro x = (401, x) := by unfold ro; rw [if_neg (by omega), if_pos c1]
    rw [er] at g2 ⊢
    rw [show (((401, x) : Nat × Nat).1) = 401 from rfl]
    refine ist 408 (by decide) (by decide) (fun z => absurd z (by decide)) (fun _ => ⟨inj, fun v4 e4 => ?_⟩)
    rw [e4]
    refine ist 400 (by decide) (by decide) (fun z => absurd z (by decide)) (fun _ => ?_)
    refine isn 401 (by decide) (by decide) (fun z => absurd rfl z) (fun _ => ?_)
    unfold wbX12_tells_40
    refine isn 400 (by decide) (by decide) (fun _ => ?_) (fun z => absurd z (by decide))
    rw [I_cl (by omega), Int.toNat_natCast, g2, I_cl (by omega), Int.toNat_natCast, I_cl (by simp only; omega), Int.toNat_natCast, Eqx_gL e (by simp), hw x c1]
    refine ⟨inj, of_eq_true (I_in (by simp only; omega)), of_eq_true (I_in (by omega)), ?_⟩
    simp only [fe]
    rw [add1, j1]
    have := hf (sL υ 97 s.length (LL (w x))) (ge _ _) (by rw [c3]; exact SL_push k)
    rw [c3] at this
    exact this
  · have er : ro x = (402, 0) := by rw [c1]; rfl
    subst c2
    rw [List.length_cons] at hl
    rw [er]
    refine ist 408 (by decide) (by decide) (fun z => absurd z (by decide)) (fun _ => ⟨inj, fun v4 e4 => ?_⟩)
    rw [e4]
    refine ist 400 (by decide) (by decide) (fun z => absurd z (by decide)) (fun _ => ?_)
    refine isn 401 (by decide) (by decide) (fun _ => ?_) (fun z => absurd z (by decide))
    refine isn 402 (by decide) (by decide) (fun z => absurd rfl z) (fun _ => ?_)
    rw [List.length_cons, sub2, I_cl (by omega), Int.toNat_natCast, SL_top k]
    refine ⟨of_eq_true (I_in (by omega)), of_eq_true (I_in (by omega)), ?_⟩
    simp only [fe]
    rw [j1, L_neg]
    have := hf (sL υ 97 s1.length (LL (-b))) (ge _ _) (by rw [c3]; exact SL_push (SL_pop k))
    rw [c3] at this
    exact this
  · have er : ro x = (405, 0) := by rw [c1]; rfl
    subst c2
    rw [List.length_cons] at hl
    rw [er]
    refine ist 408 (by decide) (by decide) (fun z => absurd z (by decide)) (fun _ => ⟨inj, fun v4 e4 => ?_⟩)
    rw [e4]
    refine ist 400 (by decide) (by decide) (fun z => absurd z (by decide)) (fun _ => ?_)
    refine isn 401 (by decide) (by decide) (fun _ => ?_) (fun z => absurd z (by decide))
    refine isn 402 (by decide) (by decide) (fun _ => ?_) (fun z => absurd z (by decide))
    refine isn 405 (by decide) (by decide) (fun z => absurd rfl z) (fun _ => ?_)
    rw [List.length_cons, sub2, I_cl (by omega), Int.toNat_natCast, SL_top k]
    refine ⟨of_eq_true (I_in (by omega)), of_eq_true (I_in (by omega)), ?_⟩
    simp only [fe]
    rw [j1, show (1 : Int64) = LL 1 from rfl, L_sub]
    have := hf (sL υ 97 s1.length (LL (1 - b))) (ge _ _) (by rw [c3]; exact SL_push (SL_pop k))
    rw [c3] at this
    exact this
  · have er := ro_x c1
    generalize (ro x).1 = y at *
    have ba := hs a (by rw [c3]; simp)
    have bb := hs b (by rw [c3]; simp)
    subst c3
    rw [List.length_cons, List.length_cons] at hl
    have yb : y < 2 ^ 20 := by omega
    refine ist 408 yb (by decide) (fun z => by omega) (fun _ => ⟨inj, fun v4 e4 => ?_⟩)
    rw [e4]
    refine ist 400 yb (by decide) (fun z => by omega) (fun _ => ?_)
    refine isn 401 yb (by decide) (fun _ => ?_) (fun z => by omega)
    refine isn 402 yb (by decide) (fun _ => ?_) (fun z => by omega)
    refine isn 405 yb (by decide) (fun _ => ?_) (fun z => by omega)
    simp only [fe]
    rw [List.length_cons, List.length_cons, sub1, sub2, I_cl (by omega), Int.toNat_natCast, I_cl (by omega), Int.toNat_natCast]
    have k1 : gL υ 97 (s2.length + 1) = LL b := by have := SL_top k; rw [List.length_cons] at this; exact this
    rw [k1, SL_top (SL_pop k), j1]
    refine ⟨of_eq_true (I_in (by omega)), of_eq_true (I_in (by omega)), rworked_ok ba bb c2 er ⟨of_eq_true (I_in (by omega)), ?_⟩⟩
    have := hf (sL υ 97 s2.length (LL v)) (ge _ _) (by rw [c4]; exact SL_push (SL_pop (SL_pop k)))
    rw [c4] at this
    exact this
theorem gt_run {τ : St} {w : Nat → Int} {post : Int64 → St → Prop} (hw : ∀ i, i < 14 → gL τ 96 i = LL (w i)) (hb : WB w) : ∀ (c : List Nat) (j : Nat) (s s' : List Int), j + c.length ≤ 2400 → (∀ i, i < c.length → gI τ 85 (j + i) = II ((ro (c.getD i 0)).1 : Nat) ∧ gI τ 86 (j + i) = II ((ro (c.getD i 0)).2 : Nat)) → BS s → s.length ≤ 60 → rns w c s = some s' → GoT τ post s' (j + c.length) → GoT τ post s j := by
  intro c
  induction c with
  | nil => intro j s s' _ _ _ _ hr H; simp only [rns, Option.some.injEq] at hr; rw [hr]; exact H
  | cons x c ih =>
    intro j s s' hj hc hs hl hr H
    rw [List.length_cons] at hj
    simp only [rns] at hr
    cases e : stp w x s with
    | none => rw [e] at hr; exact absurd hr (by simp)
    | some y =>
      rw [e] at hr
      have hx := hc 0 (by simp)
      rw [Nat.add_zero] at hx
      obtain ⟨b1, b2⟩ := stp_b hb hs hl e
      refine gt_step hw (by omega) hx.1 hx.2 hs hl e (ih (j + 1) y s' (by omega) (fun i hi => ?_) b1 b2 hr ?_)
      · have := hc (i + 1) (by rw [List.length_cons]; omega)
        rw [show j + 1 + i = j + (i + 1) by omega]; exact this
      · rw [show j + 1 + c.length = j + (x :: c).length by rw [List.length_cons]; omega]; exact H
theorem rtells_ok {τ : St} {t : Bool} {w : Nat → Int} {c : List Nat} {o : Nat} {post : Int64 → St → Prop} (hw : ∀ i, i < 14 → gL τ 96 i = LL (w i)) (hb : WB w) (hv : Vl t 60 c) (ho : o + c.length < 2400)
    (hc : ∀ i, i < c.length → gI τ 85 (o + i) = II ((ro (c.getD i 0)).1 : Nat) ∧ gI τ 86 (o + i) = II ((ro (c.getD i 0)).2 : Nat)) (he : gI τ 85 (o + c.length) = II 408)
    (hq : ∀ υ, Eqx [97] τ υ → post (LL (vlu w c)) υ) : wpX12_tells (II o) τ post := by
  have H : GoT τ post [vlu w c] (o + c.length) := by
    refine ⟨1, fun υ e k => ?_⟩
    simp only [wbX12_tells_4]
    rw [I_cl (by omega), Int.toNat_natCast, Eqx_gI e (by simp), he]
    refine ⟨of_eq_true (I_in (by omega)), fun _ => ⟨of_eq_true (I_in (a := 0) (by omega)), ?_⟩, fun z => absurd rfl z⟩
    have k1 : gL υ 97 0 = LL (vlu w c) := SL_top k
    rw [show (0 : Int32).toNatClampNeg = 0 from rfl, k1]
    exact hq υ e
  obtain ⟨f, hf⟩ := gt_run hw hb c o [] _ (by omega) hc (fun v hv => absurd hv (by simp)) (by simp) (Vl_vlu hv w).1 H
  exact ⟨f, hf τ (Eqx.refl _ _) (fun i hi => absurd hi (by simp))⟩
