def CW (σ : St) (T : TT) (N : Int) : Prop := ∀ t : Nat, (t : Int) < N → gI σ (30 + 2 * t) 2 = II (nrT T t) ∧ gI σ (30 + 2 * t) 3 = II (psT T t) ∧ (1 ≤ nrT T t ∧ nrT T t ≤ 20) ∧ (1 ≤ psT T t ∧ psT T t ≤ 60) ∧
  (∀ w : Nat → Int, WB w → -2000000000 < woT T t w ∧ woT T t w < 2000000000) ∧
  ∀ τ : St, τ (30 + 2 * t) = σ (30 + 2 * t) → τ (30 + 2 * t + 1) = σ (30 + 2 * t + 1) → gR τ 47 5 = some (30 + 2 * t) → ∀ (w : Nat → Int) (n : Nat) (f : Bool), WB w → n < 16 →
    (∀ i, i < 14 → ∀ υ, Eqx [48] τ υ → ∀ post : Int32 → St → Prop, post (II (w i)) υ → wpX3_heard (II i) (II n) υ post) →
    (∀ υ, Eqx [48, 49] τ υ → ∀ post : Int32 → St → Prop, post (II (if f then 1 else 0)) υ → wpX3_fits (II n) υ post) →
    ∀ post : St → Prop, (∀ υ, Eqx [48, 49, 50] τ υ → gI υ 49 n = II (woT T t w) → (∀ k, k ≠ n → gI υ 49 k = gI τ 49 k) → gI υ 50 n = II (if !(baT T t w) && f then 1 else 0) → (∀ k, k ≠ n → gI υ 50 k = gI τ 50 k) → post υ) → wpX3_weigh (II n) τ post
def CK (σ : St) (K : KT) : Prop := CN σ K ∧ CL σ K.1 ∧ WFm K.1 ∧ CW σ (kT K) (K.1 4) ∧ (-1 ≤ kw K ∧ kw K < 8) ∧ (-1 ≤ kb K ∧ kb K < K.1 4)
theorem CW_eq {σ τ : St} {T : TT} {N : Int} (hN : N ≤ 6) (h : CW σ T N) (e : ∀ q, 30 ≤ q → q ≤ 41 → τ q = σ q) : CW τ T N := by
  intro t ht
  obtain ⟨h1, h2, h3, h4, h5, h6⟩ := h t ht
  have e1 := e (30 + 2 * t) (by omega) (by omega)
  have e2 := e (30 + 2 * t + 1) (by omega) (by omega)
  exact ⟨by rw [gI_of e1]; exact h1, by rw [gI_of e1]; exact h2, h3, h4, h5, fun υ a b => h6 υ (a.trans e1) (b.trans e2)⟩
theorem CK_eq {σ τ : St} {K : KT} (h : CK σ K) (e : Eqc σ τ) (e2 : ∀ q, 30 ≤ q → q ≤ 41 → τ q = σ q) : CK τ K :=
  ⟨CN_eq h.1 e, CL_eq h.2.1 e, h.2.2.1, CW_eq h.2.2.1.2.2.2.2.1.2 h.2.2.2.1 e2, h.2.2.2.2⟩
theorem CK_x {σ τ : St} {K : KT} {L : List Nat} (h : CK σ K) (e : Eqx L σ τ) (hL : ∀ q, q ∈ L → 21 ≤ q ∧ (q < 30 ∨ 41 < q)) : CK τ K := by
  refine CK_eq h (fun q hq => (e q ?_).symm) (fun q a b => (e q ?_).symm)
  · intro z
    have := hL q z
    simp only [CE, List.mem_cons, List.not_mem_nil, or_false] at hq
    omega
  · intro z
    have := hL q z
    omega
theorem Bk_eq {σ τ : St} {k0 o : Nat} {G : GV} (h : Bk σ k0 G o) (e : ∀ q, 21 + 4 * k0 ≤ q → q ≤ 21 + 4 * k0 + 3 → τ q = σ q) : Bk τ k0 G o := by
  obtain ⟨h1, h2, h3, h4, h5⟩ := h
  exact ⟨by rw [gI_of (e _ (by omega) (by omega))]; exact h1, fun Y a g b n c => by rw [gI_of (e _ (by omega) (by omega))]; exact h2 Y a g b n c, fun y a c b => by rw [gL_of (e _ (by omega) (by omega))]; exact h3 y a c b, fun n a => by rw [gI_of (e _ (by omega) (by omega))]; exact h4 n a, h5⟩
theorem Jd_eq {σ τ : St} {K : KT} {k0 t y p s x : Nat} (h : Jd σ K k0 t y p s x) (e : τ 47 = σ 47) : Jd τ K k0 t y p s x := by
  unfold Jd
  rw [gR_of e, gR_of e, gI_of e, gI_of e, gI_of e, gI_of e, gI_of e, gI_of e, gI_of e]
  exact h
theorem weigh_ok {σ : St} {K : KT} {G : GV} {k0 t y p s x n : Nat} {post : St → Prop} (C : CK σ K) (hJ : Jd σ K k0 t y p s x) (hB : Bk σ k0 G y) (hG : GB G) (hk0 : k0 < 2) (hp3 : p < 3) (hs : s < 2) (hx : x < 2) (hn : n < kn K) (ht : (t : Int) < K.1 4)
    (hp : ∀ υ, Eqx [48, 49, 50] σ υ → gI υ 49 n = II (wo K G y p s n t) → (∀ k, k ≠ n → gI υ 49 k = gI σ 49 k) → gI υ 50 n = II (if my K G y p s x n t then 1 else 0) → (∀ k, k ≠ n → gI υ 50 k = gI σ 50 k) → post υ) : wpX3_weigh (II n) σ post := by
  have hW := C.2.2.1
  have kn16 : kn K ≤ 16 := by unfold kn; have := hW.2.1; omega
  have hy : y ≤ 60 := hB.2.2.2.2.2
  have t6 : t < 6 := by have := hW.2.2.2.2.1; omega
  obtain ⟨h1, h2, h3, h4, h5, h6⟩ := C.2.2.2.1 t ht
  have hl := (C.1.2.1 n hn).2.2.2
  refine h6 σ rfl rfl hJ.1 (wv K G (40 + y) p s n t) n (ft K y x n) (wv_wb hG hW hl hy h4.1) (by omega) ?_ ?_ post ?_
  · intro i hi υ uE post' hh
    refine heard_ok (CN_eq C.1 (fun q hq => (uE q ?_).symm)) (CL_eq C.2.1 (fun q hq => (uE q ?_).symm)) hW (Jd_eq hJ (uE 47 (by simp)).symm) (Bk_eq hB (fun q a b => (uE q (by simp; omega)).symm)) hk0 hp3 hs hn t6 C.2.2.2.2.1 ?_ ?_ h3 h4 hi hh
    · simp only [CE, List.mem_cons, List.not_mem_nil, or_false] at hq; simp; omega
    · simp only [CE, List.mem_cons, List.not_mem_nil, or_false] at hq; simp; omega
    · rw [Eqx_gI uE (by simp; omega)]; exact h1
    · rw [Eqx_gI uE (by simp; omega)]; exact h2
  · intro υ uE post' hh
    refine fits_ok (CN_eq C.1 (fun q hq => (uE q ?_).symm)) hW (Jd_eq hJ (uE 47 (by simp)).symm) (by omega) hx hn hh
    simp only [CE, List.mem_cons, List.not_mem_nil, or_false] at hq; simp; omega
  · intro υ uE u1 u2 u3 u4
    refine hp υ uE u1 u2 ?_ u4
    rw [u3]
    congr 2
    unfold my
    rw [Bool.and_comm]
def MW (σ : St) (may : Nat → Bool) (w : Nat → Int) (N : Nat) : Prop := ∀ i, i < N → gI σ 50 i = II (if may i then 1 else 0) ∧ (may i = true → gI σ 49 i = II (w i) ∧ -2000000000 < w i ∧ w i < 2000000000)
theorem pck_may (may : Nat → Bool) (w : Nat → Int) (N : Nat) : pck may w N ≠ -1 → may (pck may w N).toNat = true := by
  induction N with
  | zero => intro h; exact absurd rfl h
  | succ N ih =>
    simp only [pck]
    split
    · rename_i h; intro _; exact h.1
    · exact ih
theorem pick_ok {σ : St} {may : Nat → Bool} {w : Nat → Int} {N : Nat} {post : Int32 → St → Prop} (h1 : gI σ 1 0 = II N) (hN : N ≤ 16) (hM : MW σ may w N) (hp : post (II (pck may w N)) σ) : wpX3_pick σ post := by
  unfold wpX3_pick
  refine up (P := fun f i => wbX3_pick_4 post f (II (pck may w i)) (II i) σ) N ?_ ?_ 0 (by omega)
  · intro f
    simp (disch := omega) only [wbX3_pick_4, h1, I_le]
    exact ⟨fun _ => hp, fun z => absurd (by omega) z⟩
  · intro f i hi ih
    obtain ⟨m1, m2⟩ := hM i hi
    have pr := pck_range may w i
    have pm := pck_may may w i
    have hpc : pck may w (i + 1) = if may i = true ∧ (pck may w i = -1 ∨ w (pck may w i).toNat < w i) then (i : Int) else pck may w i := rfl
    rw [hpc] at ih
    generalize pck may w i = P at *
    simp (disch := omega) only [wbX3_pick_4, h1, I_le, I_in, true_and, I_cl, Int.toNat_natCast, m1, fe, I_lit, I_add, I_neg, I_eq]
    refine ⟨fun z => absurd z (by omega), fun _ => ?_⟩
    cases hm : may i with
    | false =>
      rw [hm, if_neg (by simp)] at ih
      exact ⟨fun _ => ih, fun z => absurd rfl z⟩
    | true =>
      rw [hm] at ih
      obtain ⟨a1, a2, a3⟩ := m2 hm
      refine ⟨fun z => ?_, fun _ => ⟨fun c => ?_, fun c => ?_⟩⟩
      · simp (disch := omega) only [if_true, I_eq] at z; omega
      · rw [if_pos ⟨rfl, Or.inl c⟩] at ih; exact ih
      · obtain ⟨b1, b2, b3⟩ := (hM P.toNat (by omega)).2 (pm c)
        simp (disch := omega) only [I_in, true_and, I_cl, a1, b1, I_le]
        refine ⟨fun d => ?_, fun d => ?_⟩
        · rw [if_neg (fun z => by rcases z.2 with z | z <;> omega)] at ih; exact ih
        · rw [if_pos ⟨rfl, Or.inr (by omega)⟩] at ih; exact ih
theorem gt_other (G : GV) (Y c n : Nat) (v : Int) (hc : c < 12) {m : Nat} (hm : m ≠ n) (Z g : Nat) : gt (gadd G Y c n v) Z g m = gt G Z g m := by
  rw [gt_gadd G Y c n v hc, if_neg (fun z => hm z.2.1), Int.add_zero]
theorem wv_other (K : KT) (G : GV) (y c n : Nat) (v : Int) (hc : c < 12) {m : Nat} (hm : m ≠ n) (p s t : Nat) : wv K (gadd G (40 + y) c n v) (40 + y) p s m t = wv K G (40 + y) p s m t := by
  have hg : ∀ g, gy (gadd G (40 + y) c n v) g m = gy G g m := fun g => funext fun Z => gt_other G _ c n v hc hm Z g
  have hl : ∀ N, lat (gadd G (40 + y) c n v) m N = lat G m N := by
    intro N
    induction N with
    | zero => rfl
    | succ N ih => simp only [lat]; rw [gt_other G _ c n v hc hm, ih]
  have hsn : snd K (gadd G (40 + y) c n v) (40 + y) m = snd K G (40 + y) m := ST_snd (ST_gadd G _ c n v hc) (by omega) m
  funext i
  unfold wv
  simp only [hg, hl, hsn, gt_other G _ c n v hc hm]
theorem rocks_stop {K : KT} {G : GV} {y c k : Nat} (h : ch K (rocks K G y c k) y c = -1) (d : Nat) : rocks K G y c (k + d) = rocks K G y c k ∧ unn K G y c (k + d) = unn K G y c k + d := by
  induction d with
  | zero => exact ⟨rfl, by simp⟩
  | succ d ih =>
    have e1 : rocks K G y c (k + (d + 1)) = rock K (rocks K G y c (k + d)) y c := rfl
    have e2 : unn K G y c (k + (d + 1)) = unn K G y c (k + d) + (if ch K (rocks K G y c (k + d)) y c = -1 then 1 else 0) := rfl
    rw [e1, e2, ih.1, ih.2, if_pos h]
    unfold rock
    rw [if_pos h]
    exact ⟨rfl, by omega⟩
