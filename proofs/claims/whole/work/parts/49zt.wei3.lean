/-! taste: the class weighs all clauses -/
def vlu (w : Nat → Int) (c : List Nat) : Int := match rns w c [] with
  | some (v :: _) => v
  | _ => 0
theorem Vl_vlu {t : Bool} {c : List Nat} (h : Vl t 60 c) (w : Nat → Int) : rns w c [] = some [vlu w c] ∧ Ty t (vlu w c) := by
  obtain ⟨v, h1, h2⟩ := h w
  have e := h2 [] (by simp)
  have e2 : vlu w c = v := by unfold vlu; rw [e]
  rw [e2]; exact ⟨e, h1⟩
def GdC (cl : Cls) : Prop := ∀ x, x ∈ cl → (x.1 = 14 → Vl false 60 x.2) ∧ (x.1 = 15 → Vl true 60 x.2)
def woC (w : Nat → Int) : Cls → Int → Int
  | [], a => a
  | x :: l, a => woC w l (if x.1 = 14 then vlu w x.2 else a)
def baC (w : Nat → Int) : Cls → Bool → Bool
  | [], b => b
  | x :: l, b => baC w l (b || (x.1 == 15 && vlu w x.2 == 1))
theorem gdM {α : Type} (a m r : List α) (d : α) (i : Nat) (h : i < m.length) : (a ++ (m ++ r)).getD (a.length + i) d = m.getD i d := by
  rw [List.getD_eq_getElem?_getD, List.getD_eq_getElem?_getD, List.getElem?_append_right (by omega), Nat.add_sub_cancel_left, List.getElem?_append_left h]
theorem gw_cls {τ : St} {t n : Nat} {w : Nat → Int} {code : List Nat} {post : St → Prop} (h : CCt τ t n w code) : ∀ (cl : Cls) (pre : List Nat) (v3 : Int) (v4 : Bool), code = pre ++ ccode cl → GdC cl → GoW τ post n [] (woC w cl v3) (baC w cl v4) code.length → GoW τ post n [] v3 v4 pre.length := by
  intro cl
  induction cl with
  | nil => intro pre v3 v4 e _ H; simp only [ccode, List.append_nil] at e; rw [← e]; exact H
  | cons x l ih =>
    intro pre v3 v4 e hg H
    have hl : GdC l := fun y hy => hg y (List.mem_cons_of_mem _ hy)
    have hx := hg x (by simp)
    have e2 : code = pre ++ (mk1 x ++ ccode l) := e
    have H2 := ih (pre ++ mk1 x) (if x.1 = 14 then vlu w x.2 else v3) (v4 || (x.1 == 15 && vlu w x.2 == 1)) (by rw [e2, List.append_assoc]) hl H
    have bs : BS [] := fun v hv => absurd hv (by simp)
    by_cases c : x.1 = 14 ∨ x.1 = 15
    · have em : mk1 x = x.2 ++ [x.1] := by unfold mk1; rw [if_pos c]
      have e3 : code = pre ++ (x.2 ++ ([x.1] ++ ccode l)) := by rw [e2, em, List.append_assoc]
      have len : code.length = pre.length + x.2.length + 1 + (ccode l).length := by rw [e3]; simp only [List.length_append, List.length_singleton]; omega
      have at1 : ∀ i, i < x.2.length → code.getD (pre.length + i) 0 = x.2.getD i 0 := fun i hi => by rw [e3]; exact gdM _ _ _ _ _ hi
      have at2 : code.getD (pre.length + x.2.length) 0 = x.1 := by
        have := gdM (pre ++ x.2) [x.1] (ccode l) 0 0 (by simp)
        rw [List.length_append, Nat.add_zero, List.append_assoc] at this
        rw [e3]; exact this
      rw [em, List.length_append, List.length_append, List.length_singleton, ← Nat.add_assoc] at H2
      have rn := c.elim (fun y => (Vl_vlu (hx.1 y) w).1) (fun y => (Vl_vlu (hx.2 y) w).1)
      refine gw_run h x.2 pre.length [] _ (by omega) at1 bs (by simp) rn ?_
      rcases c with c | c
      · rw [if_pos c, show (v4 || (x.1 == 15 && vlu w x.2 == 1)) = v4 by rw [c]; cases v4 <;> rfl] at H2
        exact gw_14 h (by omega) (by rw [at2, c]) H2
      · rw [if_neg (by omega), show (v4 || (x.1 == 15 && vlu w x.2 == 1)) = (v4 || vlu w x.2 == 1) by rw [c]; rfl] at H2
        exact gw_15 h (by omega) (by rw [at2, c]) ((Vl_vlu (hx.2 c) w).2 rfl) H2
    · have em : mk1 x = [] := by unfold mk1; rw [if_neg c]
      have c5 : (x.1 == 15) = false := by rw [beq_eq_false_iff_ne]; exact fun y => c (Or.inr y)
      rw [em, List.append_nil, if_neg (fun y => c (Or.inl y)), c5, Bool.false_and, Bool.or_false] at H2
      exact H2
theorem cweigh_ok {τ : St} {t n : Nat} {w : Nat → Int} {cl : Cls} {post : St → Prop} {fb : Bool} (h : CCt τ t n w (ccode cl)) (hg : GdC cl)
    (hf : ∀ υ, Eqx [48, 49] τ υ → ∀ post : Int32 → St → Prop, post (II (if fb then 1 else 0)) υ → wpX3_fits (II n) υ post)
    (hq : ∀ υ, Eqx [48, 49, 50] τ υ → gI υ 49 n = II (woC w cl 0) → (∀ k, k ≠ n → gI υ 49 k = gI τ 49 k) → gI υ 50 n = II (if !(baC w cl false) && fb then 1 else 0) → (∀ k, k ≠ n → gI υ 50 k = gI τ 50 k) → post υ) : wpX3_weigh (II n) τ post := by
  obtain ⟨f, hh⟩ := gw_cls h cl [] 0 false rfl hg (gw_end h hf hq)
  exact ⟨f, hh τ (Eqx.refl _ _) (fun i hi => absurd hi (by simp))⟩
theorem rns_b {w : Nat → Int} (hw : WB w) : ∀ (c : List Nat) (s s' : List Int), BS s → s.length ≤ 60 → rns w c s = some s' → BS s' := by
  intro c
  induction c with
  | nil => intro s s' h _ e; simp only [rns, Option.some.injEq] at e; rw [← e]; exact h
  | cons x c ih =>
    intro s s' h hl e
    simp only [rns] at e
    cases e2 : stp w x s with
    | none => rw [e2] at e; exact absurd e (by simp)
    | some y =>
      rw [e2] at e
      obtain ⟨b1, b2⟩ := stp_b hw h hl e2
      exact ih y s' b1 b2 e
theorem woC_b {w : Nat → Int} (hw : WB w) : ∀ (cl : Cls) (a : Int), GdC cl → bn9 a → bn9 (woC w cl a) := by
  intro cl
  induction cl with
  | nil => intro a _ h; exact h
  | cons x l ih =>
    intro a hg h
    refine ih _ (fun y hy => hg y (List.mem_cons_of_mem _ hy)) ?_
    by_cases c : x.1 = 14
    · rw [if_pos c]
      have := (Vl_vlu ((hg x (by simp)).1 c) w).1
      exact rns_b hw x.2 [] _ (fun v hv => absurd hv (by simp)) (by simp) this _ (by simp)
    · rw [if_neg c]; exact h
/-! what is read is well made -/
theorem GdC_all {K V : Nat → Nat} : ∀ f p cl nr ps r, GdC cl → pAll K V f p cl nr ps = .inl r → GdC r.1 := by
  intro f
  induction f with
  | zero => intro p cl nr ps r _ h; exact absurd h (by simp [pAll])
  | succ f ih =>
    intro p cl nr ps r hg h
    simp only [pAll] at h
    split at h
    · rw [Sum.inl.injEq] at h; rw [← h]; exact hg
    split at h
    · exact absurd h (by simp)
    split at h
    · exact absurd h (by simp)
    split at h
    · exact absurd h (by simp)
    split at h
    · rename_i u hu
      refine ih _ _ _ _ _ (fun y hy => ?_) h
      rcases List.mem_append.mp hy with hy | hy
      · exact hg y hy
      · rw [List.mem_singleton] at hy
        rw [hy]
        unfold pCl at hu
        refine ⟨fun c => ?_, fun c => ?_⟩
        · have c : K p = 14 := c
          rw [if_pos c] at hu
          exact Vl_mono (VR_exT (VR_pSm (VR_pOne 8)) (q := u.1) (c := u.2) hu) (by omega)
        · have c : K p = 15 := c
          rw [if_neg (by omega), if_pos c] at hu
          exact Vl_mono (VR_exT VR_pEi (q := u.1) (c := u.2) hu) (by omega)
    · exact absurd h (by simp)
