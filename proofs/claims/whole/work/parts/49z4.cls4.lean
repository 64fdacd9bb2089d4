/-! taste: the class's reading of asks -/
theorem oneH {σ υ : St} {S : Nat → Nat} {N k : Nat} {e : Nat × Nat} {F : Int32 → Int32 → St → (St → Prop) → Prop} {o : Int32} {post : St → Prop} (h : HS σ υ S N k e) (hq : post υ) : wpX8_one F o υ post := by
  simp (disch := omega) only [wpX8_one, fe, h.2.2.1, I_lit, I_eq, I_lt, I_le, wbX8_one_82]
  refine ⟨fun _ => ⟨fun z => by omega, fun _ => ⟨fun _ => ⟨fun z => by omega, fun _ => ⟨fun z => by omega, fun _ => ⟨fun z => by omega, fun _ => ⟨fun _ => failH_ok h hq, fun z => by omega⟩⟩⟩⟩, fun z => absurd (by omega) z⟩⟩, fun z => by omega⟩
theorem productH {σ υ : St} {S : Nat → Nat} {N k : Nat} {e : Nat × Nat} {F : Int32 → Int32 → St → (St → Prop) → Prop} {o : Int32} {post : St → Prop} (h : HS σ υ S N k e) (hq : post υ) : wpX8_product F o υ post := by
  unfold wpX8_product
  refine oneH h ⟨1, ?_⟩
  simp (disch := omega) only [wbX8_product_7, h.2.2.1, I_lit, I_le, I_eq]
  exact ⟨fun z => absurd z (by omega), fun _ => ⟨fun z => by omega, fun _ => ⟨fun _ => hq, fun z => by omega⟩⟩⟩
theorem sumH {σ υ : St} {S : Nat → Nat} {N k : Nat} {e : Nat × Nat} {F : Int32 → Int32 → St → (St → Prop) → Prop} {o : Int32} {post : St → Prop} (h : HS σ υ S N k e) (hq : post υ) : wpX8_sum F o υ post := by
  unfold wpX8_sum
  refine productH h ⟨1, ?_⟩
  simp (disch := omega) only [wbX8_sum_7, h.2.2.1, I_lit, I_le, I_eq]
  exact ⟨fun z => absurd z (by omega), fun _ => ⟨fun z => by omega, fun _ => ⟨fun _ => hq, fun z => by omega⟩⟩⟩
theorem sumC {σ : St} {K V S : Nat → Nat} {N k : Nat} (hk : k < 6) (hT : Tk K N) (hK : HK σ K V S N) (d : Nat) (hd : d ≤ 8) : CP σ K S N k (fun υ post => wpX8_sum (wrX8_around 12) (II (8 - (d : Int))) υ post) (pSm K (pOne K V d)) :=
  sum_ok hk hT hK (Ln_chn hT rfl (Ln_pOne hT d)) (product_ok hk hT hK (Ln_pOne hT d) (one_ok hk hT hK d 12 (by omega) hd))
def emN (n : Nat) (r : Res) : Res := match n with
  | 0 => r
  | n + 1 => em 19 (emN n r)
theorem emN_in (n : Nat) (r : Res) : emN (n + 1) r = emN n (em 19 r) := by
  induction n with
  | zero => rfl
  | succ n ih =>
    show em 19 (emN (n + 1) r) = em 19 (emN n (em 19 r))
    rw [ih]
theorem emN_inl {n : Nat} {r : Res} {q : Nat} {c : List Nat} (h : emN n r = .inl (q, c)) : ∃ a, r = .inl (q, a) ∧ c.length = a.length + n := by
  induction n generalizing c with
  | zero => exact ⟨c, h, rfl⟩
  | succ n ih =>
    obtain ⟨a, h1, h2⟩ := em_inl (show em 19 (emN n r) = .inl (q, c) from h)
    obtain ⟨b, h3, h4⟩ := ih h1
    refine ⟨b, h3, ?_⟩
    rw [h2, List.length_append, List.length_singleton]; omega
theorem nots_ok {σ υ : St} {K S : Nat → Nat} {N k n : Nat} {c : List Nat} {r : Res} {post : St → Prop} (hk : k < 6) (hn : n ≤ 9) (h : Ot σ υ K S N k c r) (hl : ∀ a, r = .inl a → (c ++ a.2).length + n ≤ 300) (hq : ∀ τ, Ot σ τ K S N k c (emN n r) → post τ) : ∃ f, wbX8_ask_89 post f (II n) 0 υ := by
  have key := up (P := fun f i => ∀ τ, Ot σ τ K S N k c (emN i r) → wbX8_ask_89 post f (II n) (II i) τ) n ?_ ?_ 0 (by omega)
  · obtain ⟨f, hf⟩ := key
    exact ⟨f, hf υ h⟩
  · intro f τ hτ
    simp (disch := omega) only [wbX8_ask_89, I_le]
    exact ⟨fun _ => hq τ hτ, fun z => absurd (Int.le_refl _) z⟩
  · intro f i hi ih τ hτ
    simp (disch := omega) only [wbX8_ask_89, I_le, I_lit, fe, I_add]
    refine ⟨fun z => absurd z (by omega), fun _ => ?_⟩
    refine put_ok (x := 19) hk hτ (fun a ea => ?_) (fun ρ hρ => ih ρ hρ)
    obtain ⟨b, h1, h2⟩ := emN_inl (show emN i r = .inl (a.1, a.2) from ea)
    have := hl _ h1
    rw [List.length_append] at this ⊢
    simp only at this
    omega
theorem a70H {σ υ : St} {K S : Nat → Nat} {N k n : Nat} {e : Nat × Nat} {v2 : Int32} {post : St → Prop} (hk : k < 6) (hn : n ≤ 9) (h : HS σ υ S N k e) (hq : ∀ τ, HS σ τ S N k e → post τ) : wbX8_ask_70 post (II n) v2 υ := by
  unfold wbX8_ask_70
  refine advH_ok h (sumH h ?_)
  refine putH_ok hk h ?_
  intro τ hτ
  refine nots_ok (K := K) (c := []) (r := .inr e) hk hn hτ (fun a ea => absurd ea (by simp)) (fun ρ hρ => hq ρ ?_)
  have : ∀ n : Nat, emN n (.inr e) = .inr e := fun n => by
    induction n with
    | zero => rfl
    | succ n ih => show em 19 (emN n (.inr e)) = _; rw [ih]; rfl
  rw [this] at hρ
  exact hρ
theorem ask43_ok {σ υ : St} {K V S : Nat → Nat} {N k d n p : Nat} {c : List Nat} {post : St → Prop} (hk : k < 6) (hT : Tk K N) (hK : HK σ K V S N) (hd : d + n = 8) (h : RS σ υ K k p c) (hp : p ≤ N) (hc : c.length + n ≤ p) (hq : ∀ τ, Ot σ τ K S N k c (emN n (pCm K V d p)) → post τ) : wbX8_ask_43 post (II n) υ := by
  have n3 := hT.2.1
  have hLs := Ln_pSm hT (Ln_pOne (V := V) hT d)
  have sC := sumC (V := V) hk hT hK d (by omega)
  have e8 : (n : Int) = 8 - (d : Int) := by omega
  have emE : ∀ e : Nat × Nat, emN n (.inr e) = .inr e := fun e => by
    have : ∀ n : Nat, emN n (.inr e) = .inr e := fun n => by
      induction n with
      | zero => rfl
      | succ n ih => show em 19 (emN n (.inr e)) = _; rw [ih]; rfl
    exact this n
  unfold wbX8_ask_43
  rw [e8]
  refine sC.1 υ p c _ h hp (by omega) ?_
  intro τ hτ
  simp only [fe]
  rw [← e8]
  unfold pCm at hq
  cases hr : pSm K (pOne K V d) p with
  | inr e =>
    rw [hr] at hτ hq
    have hτ : HS σ τ S N k e := hτ
    have hq' : ∀ ρ, HS σ ρ S N k e → post ρ := fun ρ hρ => hq ρ (by
      show Ot σ ρ K S N k c (emN n (.inr e))
      rw [emE]; exact hρ)
    simp (disch := omega) only [hτ.2.2.1, I_lit, I_lt, I_le, wbX8_ask_65]
    exact ⟨fun z => by omega, fun _ => ⟨fun z => by omega, fun _ => failH_ok hτ (a70H (K := K) hk (by omega) hτ hq')⟩⟩
  | inl a =>
    rw [hr] at hτ hq
    have hτ : RS σ τ K k a.1 (c ++ a.2) := hτ
    obtain ⟨x1, x2⟩ := hLs p hp a.1 a.2 hr
    have k38 := Tk_le hT x1
    have no : ¬ (22 ≤ K a.1 ∧ K a.1 ≤ 27) → wbX8_ask_65 (wbX8_ask_70 post) post (II n) (II (K a.1)) τ := fun z => by
      unfold wbX8_ask_65
      refine fail_ok (f := 1) hk hT hK hτ x1 (by rw [List.length_append]; omega) ?_
      intro ρ hρ
      refine a70H (K := K) hk (by omega) hρ (fun α hα => hq α ?_)
      have : bd (.inl a) (exC K (pSm K (pOne K V d))) = .inr (1, a.1) := by
        unfold bd exC; simp only; rw [if_neg z]
      rw [this, emE]; exact hα
    simp (disch := omega) only [hτ.2.2.1, I_lit, I_lt, I_le]
    refine ⟨fun z => no (by omega), fun z => ⟨fun z2 => ?_, fun z2 => no (by omega)⟩⟩
    have hN : a.1 ≠ N := fun e => by rw [e, hT.1] at z2; omega
    unfold wbX8_ask_70
    refine adv_ok hk hT hK hτ (by omega) ?_
    intro ρ hρ
    rw [e8]
    refine sC.1 ρ (a.1 + 1) (c ++ a.2) _ hρ (by omega) (by rw [List.length_append]; omega) ?_
    intro α hα
    rw [← e8]
    refine put_ok (x := K a.1) hk hα (fun b eb => ?_) ?_
    · have := hLs (a.1 + 1) (by omega) b.1 b.2 eb
      rw [List.length_append, List.length_append]; omega
    · intro β hβ
      refine nots_ok (n := n) hk (by omega) hβ (fun b eb => ?_) (fun γ hγ => hq γ ?_)
      · obtain ⟨b2, e1, e2⟩ := em_inl (show em (K a.1) (pSm K (pOne K V d) (a.1 + 1)) = .inl (b.1, b.2) from eb)
        have := hLs (a.1 + 1) (by omega) b.1 b2 e1
        rw [e2, List.length_append, List.length_append, List.length_append, List.length_singleton]; omega
      · have e1 : exC K (pSm K (pOne K V d)) a.1 = em (K a.1) (pSm K (pOne K V d) (a.1 + 1)) := by unfold exC; rw [if_pos (by omega)]
        have e2 : ∀ (n : Nat) (r : Res), emN n (bd (.inl a) (fun _ => r)) = bd (.inl a) (fun _ => emN n r) := fun n r => by
          induction n with
          | zero => rfl
          | succ n ih =>
            show em 19 (emN n _) = bd (.inl a) (fun _ => em 19 (emN n r))
            rw [ih]
            cases emN n r with
            | inl b => unfold bd em; simp
            | inr e => rfl
        have e3 : bd (.inl a) (exC K (pSm K (pOne K V d))) = bd (.inl a) (fun _ => em (K a.1) (pSm K (pOne K V d) (a.1 + 1))) := by unfold bd; simp only [e1]
        rw [e3, e2]
        exact Ot_bd (f := fun _ => emN n (em (K a.1) (pSm K (pOne K V d) (a.1 + 1)))) hγ
theorem ask4_ok {σ : St} {K V S : Nat → Nat} {N k : Nat} {post : St → Prop} (hk : k < 6) (hT : Tk K N) (hK : HK σ K V S N) : ∀ d n : Nat, d + n = 8 → ∀ υ p c, RS σ υ K k p c → p ≤ N → c.length + n ≤ p → (∀ τ, Ot σ τ K S N k c (emN n (pAsk K V d p)) → post τ) → wbX8_ask_4 post (d + 2) (II n) (II n) υ := by
  have n3 := hT.2.1
  intro d
  induction d with
  | zero =>
    intro n hd υ p c h hp hc hq
    have k38 := Tk_le hT hp
    simp (disch := omega) only [wbX8_ask_4, h.2.2.1, I_lit, I_lt, I_eq]
    refine ⟨fun z => by omega, fun _ => ⟨fun z => ?_, fun z => ⟨fun z2 => by omega, fun _ => ?_⟩⟩⟩
    · simp only [pAsk] at hq
      rw [if_neg (by omega)] at hq
      exact ask43_ok hk hT hK (d := 0) hd h hp hc hq
    · simp only [pAsk] at hq
      rw [if_pos (by omega)] at hq
      refine fail_ok (f := 3) hk hT hK h hp (by omega) ?_
      intro τ hτ
      have emE : emN n (.inr (3, p)) = .inr (3, p) := by
        have : ∀ n : Nat, emN n (.inr (3, p)) = .inr (3, p) := fun n => by
          induction n with
          | zero => rfl
          | succ n ih => show em 19 (emN n (.inr (3, p))) = _; rw [ih]; rfl
        exact this n
      rw [emE] at hq
      unfold wbX8_ask_30
      refine advH_ok hτ ?_
      simp only [fe]
      rw [show (1 : Int32) = II 1 from rfl, I_add]
      simp (disch := omega) only [wbX8_ask_4, I_lit, I_lt]
      refine ⟨fun _ => ?_, fun z => by omega⟩
      unfold wbX8_ask_43
      refine sumH hτ ?_
      simp (disch := omega) only [hτ.2.2.1, I_lit, I_lt, I_le, fe, wbX8_ask_65]
      have := a70H (K := K) (n := n + 1) (v2 := II 39) hk (by omega) hτ (fun ρ hρ => hq ρ hρ)
      exact ⟨fun z => by omega, fun _ => ⟨fun z => by omega, fun _ => failH_ok hτ this⟩⟩
  | succ d ih =>
    intro n hd υ p c h hp hc hq
    have k38 := Tk_le hT hp
    simp only [pAsk] at hq
    rw [show d + 1 + 2 = (d + 2) + 1 from rfl]
    generalize d + 2 = m at ih ⊢
    simp (disch := omega) only [wbX8_ask_4, h.2.2.1, I_lit, I_lt, I_eq]
    refine ⟨fun z => by omega, fun _ => ⟨fun z => ?_, fun z => ⟨fun _ => ?_, fun z2 => by omega⟩⟩⟩
    · rw [if_neg (by omega)] at hq
      exact ask43_ok hk hT hK (d := d + 1) hd h hp hc hq
    · rw [if_pos (by omega), ← emN_in] at hq
      have hN : p ≠ N := fun e => by rw [e, hT.1] at z; omega
      unfold wbX8_ask_30
      refine adv_ok hk hT hK h (by omega) ?_
      intro τ hτ
      simp only [fe]
      rw [show (1 : Int32) = II 1 from rfl, I_add]
      exact ih (n + 1) (by omega) τ (p + 1) c hτ (by omega) (by omega) hq
theorem ask_ok {σ : St} {K V S : Nat → Nat} {N k : Nat} (hk : k < 6) (hT : Tk K N) (hK : HK σ K V S N) : CP σ K S N k (fun υ post => wpX8_ask υ post) (pAsk K V 8) := by
  refine ⟨fun υ p c post h hp hc hq => ?_, fun υ e post h hq => ?_⟩
  · exact ⟨10, ask4_ok hk hT hK 8 0 rfl υ p c h hp (by omega) hq⟩
  · refine ⟨1, ?_⟩
    simp (disch := omega) only [wbX8_ask_4, h.2.2.1, I_lit, I_lt, I_eq]
    refine ⟨fun z => by omega, fun _ => ⟨fun _ => ?_, fun z => by omega⟩⟩
    unfold wbX8_ask_43
    refine sumH h ?_
    simp (disch := omega) only [h.2.2.1, I_lit, I_lt, I_le, fe, wbX8_ask_65]
    have := a70H (K := K) (n := 0) (v2 := II 39) hk (by omega) h hq
    exact ⟨fun z => by omega, fun _ => ⟨fun z => by omega, fun _ => failH_ok h this⟩⟩
