/-! taste: the class weighs a code, step by step -/
def SK (υ : St) (s : List Int) : Prop := ∀ i, i < s.length → gI υ 48 i = II (s.getD (s.length - 1 - i) 0)
theorem gdC {α : Type} (a d : α) (l : List α) (j : Nat) : (a :: l).getD (j + 1) d = l.getD j d := rfl
theorem SK_push {υ : St} {s : List Int} {v : Int} (h : SK υ s) : SK (sI υ 48 s.length (II v)) (v :: s) := by
  intro i hi
  rw [List.length_cons] at hi ⊢
  by_cases e : i = s.length
  · rw [e, rI1, show s.length + 1 - 1 - s.length = 0 by omega]; rfl
  · rw [rI3 e, h i (by omega), show s.length + 1 - 1 - i = (s.length - 1 - i) + 1 by omega, gdC]
theorem SK_top {υ : St} {s : List Int} {v : Int} (h : SK υ (v :: s)) : gI υ 48 s.length = II v := by
  have := h s.length (by simp)
  rw [this, List.length_cons, show s.length + 1 - 1 - s.length = 0 by omega]; rfl
theorem SK_pop {υ : St} {s : List Int} {v : Int} (h : SK υ (v :: s)) : SK υ s := by
  intro i hi
  have := h i (by rw [List.length_cons]; omega)
  rw [this, List.length_cons, show s.length + 1 - 1 - i = (s.length - 1 - i) + 1 by omega, gdC]
def b2 (b : Bool) : Int := if b then 1 else 0
/-- a taste to be weighed -/
def CCt (τ : St) (t n : Nat) (w : Nat → Int) (code : List Nat) : Prop := gR τ 47 5 = some (30 + 2 * t) ∧ t < 6 ∧ n < 16 ∧ CdC τ t code ∧ code.length ≤ 300 ∧ WB w ∧ (∀ i, i < 14 → ∀ υ, Eqx [48] τ υ → ∀ post : Int32 → St → Prop, post (II (w i)) υ → wpX3_heard (II i) (II n) υ post)
def GoW (τ : St) (post : St → Prop) (n : Nat) (s : List Int) (v3 : Int) (v4 : Bool) (j : Nat) : Prop := ∃ f, ∀ υ, Eqx [48] τ υ → SK υ s → wbX3_weigh_10 post f (II n) (II (s.length : Nat)) (II v3) (II (b2 v4)) (II j) υ
/-- reading the next of the code -/
theorem gw_read {τ υ : St} {t n j f : Nat} {w : Nat → Int} {code : List Nat} {post : St → Prop} {v2 v3 v4 : Int32} (h : CCt τ t n w code) (hj : j < code.length) (e : Eqx [48] τ υ) (hx : code.getD j 0 < 2 ^ 20)
    (hA : (100 ≤ code.getD j 0 ∨ code.getD j 0 < 14) → wbX3_weigh_48 (wbX3_weigh_10 post f) post (II n) v2 v3 v4 (II j) (II (code.getD j 0 : Nat)) υ)
    (hB : (code.getD j 0 = 40 ∨ code.getD j 0 = 19) → ¬ v2 < 1 ∧ wbX3_weigh_107 (wbX3_weigh_10 post f) post (II n) v2 v3 v4 (II j) (II (code.getD j 0 : Nat)) υ)
    (hC : ¬ (code.getD j 0 = 40 ∨ code.getD j 0 = 19) → (14 ≤ code.getD j 0 ∧ code.getD j 0 < 100) → wbX3_weigh_147 (wbX3_weigh_10 post f) post (II n) v2 v3 v4 (II j) (II (code.getD j 0 : Nat)) υ) : wbX3_weigh_10 post (f + 1) (II n) v2 v3 v4 (II j) υ := by
  obtain ⟨h1, h2, h3, h4, h5, h6, h7⟩ := h
  have r5 : gR υ 47 5 = some (30 + 2 * t) := by rw [Eqx_gR e (by simp)]; exact h1
  have c1 : gI υ (30 + 2 * t) 1 = II (code.length : Nat) := by rw [Eqx_gI e (by simp; omega)]; exact h4.1
  have c2 : gI υ (30 + 2 * t + 1) j = II (code.getD j 0 : Nat) := by rw [show 30 + 2 * t + 1 = 31 + 2 * t by omega, Eqx_gI e (by simp; omega)]; exact h4.2 j hj
  simp only [wbX3_weigh_10]
  refine ⟨t, r5, h2, ?_⟩
  rw [c1, I_le (by omega)]
  refine ⟨fun z => by omega, fun _ => ⟨t, r5, h2, of_eq_true (I_in (by omega)), ?_⟩⟩
  rw [I_cl (by omega), Int.toNat_natCast, c2]
  intro v6 e6
  rw [e6, show (100 : Int32) = II 100 from rfl, I_le (by omega), show (14 : Int32) = II 14 from rfl, I_le (by omega)]
  refine ⟨fun z => hA (by omega), fun z => ⟨fun z2 => ⟨fun z3 => ?_, fun z3 => ist 40 hx (by decide) (fun y => (hB (by omega)).2) (fun y => isn 19 hx (by decide) (fun y2 => hC (by omega) (by omega)) (fun y2 => (hB (by omega)).2))⟩, fun z2 => hA (by omega)⟩⟩
  by_cases c : code.getD j 0 = 40 ∨ code.getD j 0 = 19
  · exact absurd z3 (hB c).1
  · exact hC c (by omega)
theorem gw_step {τ : St} {t n j : Nat} {w : Nat → Int} {code : List Nat} {post : St → Prop} {s s' : List Int} {v3 : Int} {v4 : Bool} (h : CCt τ t n w code) (hj : j < code.length) (hs : BS s) (hl : s.length ≤ 60) (hst : stp w (code.getD j 0) s = some s') (H : GoW τ post n s' v3 v4 (j + 1)) : GoW τ post n s v3 v4 j := by
  obtain ⟨f, hf⟩ := H
  refine ⟨f + 1, fun υ e k => ?_⟩
  have h5 := h.2.2.2.2.1
  have j1 : (II (j : Int)) + 1 = II ((j + 1 : Nat) : Int) := by rw [show (1 : Int32) = II 1 from rfl, I_add]; rfl
  have ge : ∀ i v, Eqx [48] τ (sI υ 48 i v) := fun i v => Eqx_tI e (by simp)
  have sub1 : ∀ m : Nat, (II ((m + 1 : Nat) : Int)) + (-1) = II (m : Int) := fun m => by rw [show (-1 : Int32) = II (-1) from rfl, I_add]; congr 1; omega
  have sub2 : ∀ m : Nat, (II ((m + 1 : Nat) : Int)) - 1 = II (m : Int) := fun m => by rw [show (1 : Int32) = II 1 from rfl, I_sub]; congr 1; omega
  have add1 : ∀ m : Nat, (II (m : Int)) + 1 = II ((m + 1 : Nat) : Int) := fun m => by rw [show (1 : Int32) = II 1 from rfl, I_add]; rfl
  generalize hxx : code.getD j 0 = x at *
  rcases stp_i hst with ⟨h1, h2, h3⟩ | ⟨h1, h2, h3⟩ | ⟨h1, b, s1, h2, h3⟩ | ⟨h1, b, s1, h0, h2, h3⟩ | ⟨a, b, v, s2, h1, h2, h3, h4⟩
  · refine gw_read h hj e (by omega) (fun _ => ?_) (fun z => by omega) (fun _ z => by omega)
    rw [hxx]
    unfold wbX3_weigh_48
    rw [show (64 : Int32) = II 64 from rfl, I_le (by omega), show (100 : Int32) = II 100 from rfl, I_lt (by omega)]
    refine ⟨fun z => by omega, fun _ => ⟨fun z => by omega, fun _ => ⟨of_eq_true (I_in (by omega)), ?_⟩⟩⟩
    simp only [fe]
    rw [add1, j1, I_cl (by omega), Int.toNat_natCast, I_sub]
    have := hf (sI υ 48 s.length (II ((x : Int) - 100))) (ge _ _) (by rw [h3]; exact SK_push k)
    rw [h3] at this
    exact this
  · refine gw_read h hj e (by omega) (fun _ => ?_) (fun z => by omega) (fun _ z => by omega)
    rw [hxx]
    unfold wbX3_weigh_48
    rw [show (64 : Int32) = II 64 from rfl, I_le (by omega), show (100 : Int32) = II 100 from rfl, I_lt (by omega)]
    refine ⟨fun z => by omega, fun _ => ⟨fun _ => ?_, fun z => by omega⟩⟩
    refine h.2.2.2.2.2.2 x h1 υ e _ ⟨of_eq_true (I_in (by omega)), ?_⟩
    simp only [fe]
    rw [add1, j1, I_cl (by omega), Int.toNat_natCast]
    have := hf (sI υ 48 s.length (II (w x))) (ge _ _) (by rw [h3]; exact SK_push k)
    rw [h3] at this
    exact this
  · subst h2
    rw [List.length_cons] at hl
    refine gw_read h hj e (by omega) (fun z => by omega) (fun _ => ⟨?_, ?_⟩) (fun z => by omega)
    · rw [show (1 : Int32) = II 1 from rfl, I_lt (by rw [List.length_cons]; omega), List.length_cons]; omega
    rw [hxx]
    unfold wbX3_weigh_107
    rw [List.length_cons, sub2, I_cl (by omega), Int.toNat_natCast, SK_top k]
    refine isn 40 (by omega) (by decide) (fun z => absurd h1 z) (fun _ => ⟨of_eq_true (I_in (by omega)), of_eq_true (I_in (by omega)), ?_⟩)
    simp only [fe]
    rw [j1, I_neg]
    have := hf (sI υ 48 s1.length (II (-b))) (ge _ _) (by rw [h3]; exact SK_push (SK_pop k))
    rw [h3] at this
    exact this
  · subst h2
    rw [List.length_cons] at hl
    refine gw_read h hj e (by omega) (fun z => by omega) (fun _ => ⟨?_, ?_⟩) (fun z => by omega)
    · rw [show (1 : Int32) = II 1 from rfl, I_lt (by rw [List.length_cons]; omega), List.length_cons]; omega
    rw [hxx]
    unfold wbX3_weigh_107
    rw [List.length_cons, sub2, I_cl (by omega), Int.toNat_natCast, SK_top k]
    refine isn 40 (by omega) (by decide) (fun _ => ⟨of_eq_true (I_in (by omega)), of_eq_true (I_in (by omega)), ?_⟩) (fun z => by omega)
    simp only [fe]
    rw [j1, show (1 : Int32) = II 1 from rfl, I_sub]
    have := hf (sI υ 48 s1.length (II (1 - b))) (ge _ _) (by rw [h3]; exact SK_push (SK_pop k))
    rw [h3] at this
    exact this
  · subst h3
    have ba := hs a (by simp)
    have bb := hs b (by simp)
    rw [List.length_cons, List.length_cons] at hl
    refine gw_read h hj e (by omega) (fun z => by omega) (fun z => by omega) (fun _ _ => ?_)
    rw [hxx, List.length_cons, List.length_cons]
    unfold wbX3_weigh_147
    rw [show (1 : Int32) = II 1 from rfl, I_lt (by omega)]
    refine ⟨fun z => by omega, fun _ => isn 14 (by omega) (by decide) (fun _ => ?_) (fun z => by omega)⟩
    unfold wbX3_weigh_172
    rw [show (1 : Int32) = II 1 from rfl, I_lt (by omega)]
    refine ⟨fun z => by omega, fun _ => isn 15 (by omega) (by decide) (fun _ => ?_) (fun z => by omega)⟩
    unfold wbX3_weigh_211
    rw [show (2 : Int32) = II 2 from rfl, I_lt (by omega)]
    refine ⟨fun z => by omega, fun _ => ?_⟩
    simp only [fe]
    rw [sub1, sub2, I_cl (by omega), Int.toNat_natCast, I_cl (by omega), Int.toNat_natCast]
    have k1 : gI υ 48 (s2.length + 1) = II b := by have := SK_top k; rw [List.length_cons] at this; exact this
    rw [k1, SK_top (SK_pop k), j1]
    refine ⟨of_eq_true (I_in (by omega)), of_eq_true (I_in (by omega)), cjoin_ok ba bb h2 ⟨of_eq_true (I_in (by omega)), ?_⟩⟩
    have := hf (sI υ 48 s2.length (II v)) (ge _ _) (by rw [h4]; exact SK_push (SK_pop (SK_pop k)))
    rw [h4] at this
    exact this
/-- a run of steps -/
theorem gw_run {τ : St} {t n : Nat} {w : Nat → Int} {code : List Nat} {post : St → Prop} {v3 : Int} {v4 : Bool} (h : CCt τ t n w code) : ∀ (c : List Nat) (j : Nat) (s s' : List Int), j + c.length ≤ code.length → (∀ i, i < c.length → code.getD (j + i) 0 = c.getD i 0) → BS s → s.length ≤ 60 → rns w c s = some s' → GoW τ post n s' v3 v4 (j + c.length) → GoW τ post n s v3 v4 j := by
  intro c
  induction c with
  | nil => intro j s s' _ _ _ _ hr H; simp only [rns, Option.some.injEq] at hr; rw [hr]; exact H
  | cons x c ih =>
    intro j s s' hj hc hs hl hr H
    rw [List.length_cons] at hj
    simp only [rns] at hr
    cases e : stp w x s with
    | none => rw [e] at hr; exact absurd hr (by simp)
    | some y =>
      rw [e] at hr
      have hx : code.getD j 0 = x := by have := hc 0 (by simp); rw [Nat.add_zero] at this; exact this
      obtain ⟨b1, b2⟩ := stp_b h.2.2.2.2.2.1 hs hl e
      refine gw_step h (by omega) hs hl (by rw [hx]; exact e) (ih (j + 1) y s' (by omega) (fun i hi => ?_) b1 b2 hr ?_)
      · have := hc (i + 1) (by rw [List.length_cons]; omega)
        rw [show j + 1 + i = j + (i + 1) by omega, this]; rfl
      · rw [show j + 1 + c.length = j + (x :: c).length by rw [List.length_cons]; omega]; exact H
theorem gw_14 {τ : St} {t n j : Nat} {w : Nat → Int} {code : List Nat} {post : St → Prop} {v v3 : Int} {v4 : Bool} (h : CCt τ t n w code) (hj : j < code.length) (hx : code.getD j 0 = 14) (H : GoW τ post n [] v v4 (j + 1)) : GoW τ post n [v] v3 v4 j := by
  obtain ⟨f, hf⟩ := H
  refine ⟨f + 1, fun υ e k => ?_⟩
  refine gw_read h hj e (by omega) (fun z => by omega) (fun z => by omega) (fun _ _ => ?_)
  have := hf υ e (SK_pop k)
  have k1 : gI υ 48 0 = II v := SK_top k
  have h5 := h.2.2.2.2.1
  rw [hx, show (([v] : List Int).length : Nat) = 1 from rfl]
  unfold wbX3_weigh_147
  refine ⟨fun z => absurd z (by decide), fun _ => isn 14 (by omega) (by decide) (fun z => absurd rfl z) (fun _ => ?_)⟩
  simp only [fe]
  rw [show (II ((1 : Nat) : Int)) + (-1) = II 0 by decide, I_cl (by omega), show ((0 : Int).toNat) = 0 from rfl, k1, show (II (j : Int)) + 1 = II ((j + 1 : Nat) : Int) by rw [show (1 : Int32) = II 1 from rfl, I_add]; rfl]
  exact ⟨of_eq_true (I_in (by omega)), this⟩
theorem gw_15 {τ : St} {t n j : Nat} {w : Nat → Int} {code : List Nat} {post : St → Prop} {v v3 : Int} {v4 : Bool} (h : CCt τ t n w code) (hj : j < code.length) (hx : code.getD j 0 = 15) (hv : b01 v = true) (H : GoW τ post n [] v3 (v4 || v == 1) (j + 1)) : GoW τ post n [v] v3 v4 j := by
  obtain ⟨f, hf⟩ := H
  refine ⟨f + 1, fun υ e k => ?_⟩
  refine gw_read h hj e (by omega) (fun z => by omega) (fun z => by omega) (fun _ _ => ?_)
  have := hf υ e (SK_pop k)
  have k1 : gI υ 48 0 = II v := SK_top k
  have h5 := h.2.2.2.2.1
  rw [hx, show (([v] : List Int).length : Nat) = 1 from rfl]
  unfold wbX3_weigh_147
  refine ⟨fun z => absurd z (by decide), fun _ => isn 14 (by omega) (by decide) (fun _ => ?_) (fun z => absurd z (by decide))⟩
  unfold wbX3_weigh_172
  refine ⟨fun z => absurd z (by decide), fun _ => isn 15 (by omega) (by decide) (fun z => absurd rfl z) (fun _ => ?_)⟩
  simp only [fe]
  rw [show (II ((1 : Nat) : Int)) + (-1) = II 0 by decide, I_cl (by omega), show ((0 : Int).toNat) = 0 from rfl, k1, show (II (j : Int)) + 1 = II ((j + 1 : Nat) : Int) by rw [show (1 : Int32) = II 1 from rfl, I_add]; rfl]
  cases v4 with
  | true => exact ⟨fun _ => this, fun z => absurd z (by decide)⟩
  | false =>
    refine ⟨fun z => absurd rfl z, fun _ => ⟨of_eq_true (I_in (by omega)), ?_⟩⟩
    rcases (b01_iff v).mp hv with e1 | e1
    · rw [e1] at this ⊢; exact ⟨fun _ => this, fun z => absurd rfl z⟩
    · rw [e1] at this ⊢; exact ⟨fun z => absurd z (by decide), fun _ => this⟩
theorem gw_end {τ : St} {t n : Nat} {w : Nat → Int} {code : List Nat} {post : St → Prop} {v3 : Int} {v4 fb : Bool} (h : CCt τ t n w code)
    (hf : ∀ υ, Eqx [48, 49] τ υ → ∀ post : Int32 → St → Prop, post (II (if fb then 1 else 0)) υ → wpX3_fits (II n) υ post)
    (hq : ∀ υ, Eqx [48, 49, 50] τ υ → gI υ 49 n = II v3 → (∀ k, k ≠ n → gI υ 49 k = gI τ 49 k) → gI υ 50 n = II (if !v4 && fb then 1 else 0) → (∀ k, k ≠ n → gI υ 50 k = gI τ 50 k) → post υ) : GoW τ post n [] v3 v4 code.length := by
  refine ⟨1, fun υ e k => ?_⟩
  obtain ⟨h1, h2, h3, h4, h5, h6, h7⟩ := h
  have r5 : gR υ 47 5 = some (30 + 2 * t) := by rw [Eqx_gR e (by simp)]; exact h1
  have c1 : gI υ (30 + 2 * t) 1 = II (code.length : Nat) := by rw [Eqx_gI e (by simp; omega)]; exact h4.1
  have v0 : vp_nar .boolean 0 = II 0 := rfl
  have v1 : vp_nar .boolean 1 = II 1 := rfl
  have e2 : Eqx [48, 49] τ (sI υ 49 n (II v3)) := Eqx_tI (e.mono (by simp)) (by simp)
  have fin : ∀ z : Int, z = (if !v4 && fb then 1 else 0) → post (sI (sI υ 49 n (II v3)) 50 n (II z)) := fun z hz => by
    refine hq _ (Eqx_tI (e2.mono (by simp)) (by simp)) ?_ (fun k hk => ?_) ?_ (fun k hk => ?_)
    · rw [rI2 (by omega), rI1]
    · rw [rI2 (by omega), rI3 hk, Eqx_gI e (by simp)]
    · rw [rI1, hz]
    · rw [rI3 hk, rI2 (by omega), Eqx_gI e (by simp)]
  simp only [wbX3_weigh_10]
  refine ⟨t, r5, h2, ?_⟩
  rw [c1, I_le (by omega)]
  refine ⟨fun _ => ⟨of_eq_true (I_in (by omega)), ?_⟩, fun z => by omega⟩
  simp only [fe]
  rw [I_cl (by omega), Int.toNat_natCast, v0, v1]
  cases v4 with
  | true => exact ⟨fun _ => ⟨of_eq_true (I_in (by omega)), fin 0 rfl⟩, fun z => absurd z (by decide)⟩
  | false =>
    refine ⟨fun z => absurd rfl z, fun _ => hf _ e2 _ ?_⟩
    cases fb with
    | true => exact ⟨fun z => absurd z (by decide), fun _ => ⟨of_eq_true (I_in (by omega)), fin 1 rfl⟩⟩
    | false => exact ⟨fun _ => ⟨of_eq_true (I_in (by omega)), fin 0 rfl⟩, fun z => absurd rfl z⟩
