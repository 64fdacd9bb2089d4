/-! taste: the machine goes -/
def Gos (σ : St) (K V S E : Nat → Nat) (post : Int32 → St → Prop) (st p : Nat) (fr : List (Nat × Int)) (ws : List (Nat × Nat)) (o : Nat) (L : List (Nat × Nat)) : Prop := ∃ f, ∀ υ, RA σ υ K V S E st p fr ws o L → wbX12_taste_86 post f υ
def GoF (σ : St) (S : Nat → Nat) (post : Int32 → St → Prop) (e : Nat × Nat) : Prop := ∃ f, ∀ υ, RF σ υ S e → wbX12_taste_86 post f υ
def GoV (σ : St) (K V S E : Nat → Nat) (post : Int32 → St → Prop) (q : Nat) (fr : List (Nat × Int)) (ws : List (Nat × Nat)) (o : Nat) (L : List (Nat × Nat)) : Prop := ∃ n m, ∀ st υ, RA σ υ K V S E st q fr ws o L → wbX12_oneIsOver_0 (fun τ => wbX12_taste_86 post n τ) m υ
theorem go_ok {σ : St} {K V S E : Nat → Nat} {post : Int32 → St → Prop} {st p o : Nat} {fr : List (Nat × Int)} {ws L : List (Nat × Nat)} (hst : st ≤ 3) (n : Nat)
    (h0 : st = 0 → ∀ υ, RA σ υ K V S E st p fr ws o L → wpX12_asks υ (fun τ => wbX12_taste_86 post n τ)) (h1 : st = 1 → ∀ υ, RA σ υ K V S E st p fr ws o L → wpX12_begins υ (fun τ => wbX12_taste_86 post n τ)) (h2 : st = 2 → ∀ υ, RA σ υ K V S E st p fr ws o L → wpX12_goesOn υ (fun τ => wbX12_taste_86 post n τ)) (h3 : st = 3 → ∀ υ, RA σ υ K V S E st p fr ws o L → wpX12_asksOn υ (fun τ => wbX12_taste_86 post n τ)) : Gos σ K V S E post st p fr ws o L := by
  refine ⟨n + 1, fun υ h => ?_⟩
  have e19 := h.2.2.1
  have e29 := h.2.2.2.2.2.2.2.1
  have c108 : wbX12_taste_108 (wbX12_taste_86 post n) post υ := by
    simp (disch := omega) only [wbX12_taste_108, e29, I_lit, I_eq, fe]
    exact ⟨fun z => h0 (by omega) υ h, fun _ => ⟨fun z => h1 (by omega) υ h, fun _ => ⟨fun z => h2 (by omega) υ h, fun _ => ⟨fun z => h3 (by omega) υ h, fun z => by omega⟩⟩⟩⟩
  simp (disch := omega) only [wbX12_taste_86, e19, e29, I_lit, I_eq]
  exact ⟨fun z => absurd trivial z, fun _ => ⟨fun _ => c108, fun z => by omega⟩⟩
theorem V2 {σ : St} {K V S E : Nat → Nat} {post : Int32 → St → Prop} {q o : Nat} {fr : List (Nat × Int)} {x : Nat × Int} {ws L : List (Nat × Nat)} (hn : fr.length < 40) (hx : x.1 ≠ 7) (hx2 : x.1 < 10) (h : Gos σ K V S E post 2 q (fr ++ [x]) ws o L) : GoV σ K V S E post q (fr ++ [x]) ws o L := by
  obtain ⟨f, hf⟩ := h
  refine ⟨f, 1, fun st υ hυ => ?_⟩
  unfold wbX12_oneIsOver_0
  refine rtop_ok hυ hn ?_
  rw [show (7 : Int32) = II 7 from rfl, I_eq (by omega)]
  refine ⟨fun _ => ?_, fun z => by omega⟩
  simp only [fe]
  exact hf _ (RA_st 2 hυ)
theorem V7 {σ : St} {K V S E : Nat → Nat} {post : Int32 → St → Prop} {q o : Nat} {fr : List (Nat × Int)} {d : Int} {ws L : List (Nat × Nat)} (hn : fr.length < 40) (ho : o < 100) (hL : L.length < 400) (h : GoV σ K V S E post q fr ws o (L ++ [(402, 0)])) : GoV σ K V S E post q (fr ++ [(7, d)]) ws (o + 1) L := by
  obtain ⟨n, m, hm⟩ := h
  refine ⟨n, m + 1, fun st υ hυ => ?_⟩
  unfold wbX12_oneIsOver_0
  refine rtop_ok hυ hn ?_
  refine ⟨fun z => absurd rfl z, fun _ => ?_⟩
  have h6 := hυ.2.2.2.2.2.1
  rw [List.length_append, List.length_singleton] at h6
  have e1 : ((fr.length + 1 : Nat) : Int) - 1 = (fr.length : Int) := by omega
  have hP := RA_pop hυ
  have h5 := hP.2.2.2.2.1
  have e2 : ((o + 1 : Nat) : Int) - 1 = (o : Int) := by omega
  simp (disch := omega) only [fe, h6, I_lit, I_sub, e1, h5, e2]
  refine emits_ok (a := 402) (b := 0) (RA_open o hP) hL ?_
  intro τ hτ
  exact hm st τ hτ
def ro (x : Nat) : Nat × Nat := if 100 ≤ x then (400, x - 100) else if x < 14 then (401, x) else if x = 40 then (402, 0) else if x = 20 then (403, 0) else if x = 21 then (404, 0) else if x = 19 then (405, 0) else if x = 18 then (406, 0) else if x = 17 then (407, 0) else (tO x, 0)
def roL (c : List Nat) : List (Nat × Nat) := c.map ro
theorem roL_app (a b : List Nat) : roL (a ++ b) = roL a ++ roL b := List.map_append
theorem roL_len (a : List Nat) : (roL a).length = a.length := List.length_map _
def WsB (ws : List (Nat × Nat)) (F : Nat) : Prop := ∀ x, x ∈ ws → x.1 < 500 ∧ x.2 ≤ F
theorem WsB_stp {ws : List (Nat × Nat)} {F r : Nat} (h : WsB ws F) (hF : F < 40) : StpW ws (F + 1) r := fun ws' x e => by
  have := h x (by rw [e]; simp)
  exact ⟨this.1, by omega, fun z => by omega⟩
/-- an operand of the machine, from state s0 to s1 -/
def OpS (σ : St) (K V S E : Nat → Nat) (N : Nat) (post : Int32 → St → Prop) (f : Nat → Res) (s0 s1 : Nat) (fr : List (Nat × Int)) (o : Nat) : Prop :=
  ∀ p ws L, p ≤ N → WsB ws fr.length → ws.length ≤ 2 * fr.length → L.length ≤ p → (∀ q c, f p = .inl (q, c) → Gos σ K V S E post s1 q fr ws o (L ++ roL c)) → (∀ e, f p = .inr e → GoF σ S post e) → Gos σ K V S E post s0 p fr ws o L
/-- an operator of the machine -/
def OtS (σ : St) (K V S E : Nat → Nat) (N : Nat) (post : Int32 → St → Prop) (op : Nat → Bool) (on : Nat → Nat) (r s0 s1 : Nat) (fr : List (Nat × Int)) (o : Nat) : Prop :=
  ∀ p wb pd L, p < N → op (K p) = true → StpW wb fr.length r → WkW pd fr.length r → wb.length ≤ 2 * fr.length → pd.length ≤ 2 → L.length + pd.length ≤ 300 → Gos σ K V S E post s0 (p + 1) fr (wb ++ [(on (K p), fr.length)]) o (L ++ opsR pd) → Gos σ K V S E post s1 p fr (wb ++ pd) o L
def Okp (op : Nat → Bool) (on : Nat → Nat) (F : Nat) (pm : List (Nat × Nat)) : Prop := pm = [] ∨ ∃ k, op k = true ∧ pm = [(on k, F)]
theorem Okp_len {op : Nat → Bool} {on : Nat → Nat} {F : Nat} {pm : List (Nat × Nat)} (h : Okp op on F pm) : pm.length ≤ 1 := by
  rcases h with h | ⟨k, _, h⟩
  · rw [h]; simp
  · rw [h]; simp
theorem Okp_wk {op : Nat → Bool} {on : Nat → Nat} {F r : Nat} {pm : List (Nat × Nat)} (hr : ∀ k, op k = true → on k < 500 ∧ r ≤ rk (on k)) (h : Okp op on F pm) : WkW pm F r := by
  rcases h with h | ⟨k, hk, h⟩
  · rw [h]; intro x hx; exact absurd hx (by simp)
  · rw [h]; intro x hx
    have : x = (on k, F) := by simpa using hx
    rw [this]; exact ⟨(hr k hk).1, rfl, (hr k hk).2⟩
theorem opsR_len (pd : List (Nat × Nat)) : (opsR pd).length = pd.length := by unfold opsR; rw [List.length_map, List.length_reverse]
theorem lp_sim {σ : St} {K V S E : Nat → Nat} {N : Nat} {post : Int32 → St → Prop} {f : Nat → Res} {op : Nat → Bool} {on : Nat → Nat} {r s0 s1 o : Nat} {fr : List (Nat × Int)} {wb Lb : List (Nat × Nat)} (hT : Tk K N) (hL : Ln N f) (ho37 : op 37 = false) (hf : OpS σ K V S E N post f s0 s1 fr o) (hop : OtS σ K V S E N post op on r s0 s1 fr o) (hr : ∀ k, op k = true → on k < 500 ∧ r ≤ rk (on k) ∧ ro k = (on k, 0))
    (hst : StpW wb fr.length r) (hwb : WsB wb fr.length) (hwl : wb.length + 1 ≤ 2 * fr.length) : ∀ n p, p ≤ N → N ≤ p + n → ∀ c0 pm L2, Okp op on fr.length pm → L2 ++ opsR pm = Lb ++ roL c0 → Lb.length + c0.length ≤ p →
      (∀ q c, lpL K f op n p = .inl (q, c) → op (K q) = false → ∀ pm' L', Okp op on fr.length pm' → L' ++ opsR pm' = Lb ++ roL (c0 ++ c) → Gos σ K V S E post s1 q fr (wb ++ pm') o L') → (∀ e, lpL K f op n p = .inr e → GoF σ S post e) → Gos σ K V S E post s1 p fr (wb ++ pm) o L2 := by
  have n3 := hT.2.1
  have hr' : ∀ k, op k = true → on k < 500 ∧ r ≤ rk (on k) := fun k hk => ⟨(hr k hk).1, (hr k hk).2.1⟩
  intro n
  induction n with
  | zero =>
    intro p hp hn c0 pm L2 hpm hL2 hlb hS hE
    have e : p = N := by omega
    exact hS p [] rfl (by rw [e, hT.1]; exact ho37) pm L2 hpm (by rw [List.append_nil]; exact hL2)
  | succ n ih =>
    intro p hp hn c0 pm L2 hpm hL2 hlb hS hE
    have el : lpL K f op (n + 1) p = if op (K p) = true then bd (em (K p) (f (p + 1))) (lpL K f op n) else .inl (p, []) := rfl
    rw [el] at hS hE
    by_cases c : op (K p) = true
    · rw [if_pos c] at hS hE
      have hN : p ≠ N := fun z => by rw [z, hT.1, ho37] at c; exact absurd c (by decide)
      have pl := Okp_len hpm
      have ll := congrArg List.length hL2
      rw [List.length_append, List.length_append, opsR_len, roL_len] at ll
      refine hop p wb pm L2 (by omega) c hst (Okp_wk hr' hpm) (by omega) (by omega) (by omega) ?_
      rw [hL2]
      refine hf (p + 1) (wb ++ [(on (K p), fr.length)]) (Lb ++ roL c0) (by omega) ?_ (by rw [List.length_append, List.length_singleton]; omega) (by rw [List.length_append, roL_len]; omega) ?_ ?_
      · intro x hx
        rw [List.mem_append] at hx
        rcases hx with hx | hx
        · exact hwb x hx
        · have : x = (on (K p), fr.length) := by simpa using hx
          rw [this]; exact ⟨(hr _ c).1, Nat.le_refl _⟩
      · intro q c2 e2
        obtain ⟨x1, x2⟩ := hL (p + 1) (by omega) q c2 e2
        have ebd : bd (em (K p) (f (p + 1))) (lpL K f op n) = bd (.inl (q, c2 ++ [K p])) (lpL K f op n) := by rw [e2]; rfl
        rw [ebd] at hS hE
        refine ih q x1 (by omega) (c0 ++ (c2 ++ [K p])) [(on (K p), fr.length)] (Lb ++ roL c0 ++ roL c2) (Or.inr ⟨K p, c, rfl⟩) ?_ (by rw [List.length_append, List.length_append, List.length_singleton]; omega) ?_ ?_
        · rw [roL_app, roL_app]
          have : opsR [(on (K p), fr.length)] = roL [K p] := by
            unfold opsR roL
            simp only [List.reverse_singleton, List.map_cons, List.map_nil]
            rw [(hr _ c).2.2]
          rw [this, List.append_assoc, List.append_assoc]
        · intro q' c' e' ho' pm' L' hpm' hL'
          refine hS q' (c2 ++ [K p] ++ c') ?_ ho' pm' L' hpm' (by rw [hL', List.append_assoc])
          unfold bd; simp only; rw [e']
        · intro e e'
          refine hE e ?_
          unfold bd; simp only; rw [e']
      · intro e e2
        refine hE e ?_
        rw [e2]; rfl
    · rw [if_neg c] at hS
      exact hS p [] rfl (by simpa using c) pm L2 hpm (by rw [List.append_nil]; exact hL2)
theorem chn_sim {σ : St} {K V S E : Nat → Nat} {N : Nat} {post : Int32 → St → Prop} {f : Nat → Res} {op : Nat → Bool} {on : Nat → Nat} {r s0 s1 o p : Nat} {fr : List (Nat × Int)} {wb Lb : List (Nat × Nat)} (hT : Tk K N) (hL : Ln N f) (ho37 : op 37 = false) (hf : OpS σ K V S E N post f s0 s1 fr o) (hop : OtS σ K V S E N post op on r s0 s1 fr o) (hr : ∀ k, op k = true → on k < 500 ∧ r ≤ rk (on k) ∧ ro k = (on k, 0))
    (hst : StpW wb fr.length r) (hwb : WsB wb fr.length) (hwl : wb.length + 1 ≤ 2 * fr.length) (hp : p ≤ N) (hlb : Lb.length ≤ p)
    (hS : ∀ q c, chn K f op p = .inl (q, c) → op (K q) = false → ∀ pm L', Okp op on fr.length pm → L' ++ opsR pm = Lb ++ roL c → Gos σ K V S E post s1 q fr (wb ++ pm) o L') (hE : ∀ e, chn K f op p = .inr e → GoF σ S post e) : Gos σ K V S E post s0 p fr wb o Lb := by
  have n3 := hT.2.1
  unfold chn at hS hE
  refine hf p wb Lb hp hwb (by omega) hlb ?_ ?_
  · intro q c e
    obtain ⟨x1, x2⟩ := hL p hp q c e
    rw [e] at hS hE
    have := lp_sim (Lb := Lb) hT hL ho37 hf hop hr hst hwb hwl 300 q x1 (by omega) c [] (Lb ++ roL c) (Or.inl rfl) (by show _ ++ [] = _; rw [List.append_nil]) (by omega) (fun q' c' e' ho' pm' L' hpm' hL' => hS q' (c ++ c') (by unfold bd; simp only; rw [e']) ho' pm' L' hpm' hL') (fun e' e2 => hE e' (by unfold bd; simp only; rw [e2]))
    rw [List.append_nil] at this
    exact this
  · intro e e2
    exact hE e (by rw [e2]; rfl)
