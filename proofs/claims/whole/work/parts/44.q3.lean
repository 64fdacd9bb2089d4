/-! queries: shape -/
def fy (G : GV) (n : Nat) (y : Int) : Int := gt G (y + 40).toNat 6 n
theorem fy_in {G : GV} (h : GB G) (n : Nat) (y : Int) : 0 ≤ fy G n y ∧ fy G n y ≤ 119988 := ⟨gt_nn h _ _ _, gt_le h _ _ _⟩
theorem cfy_ok {σ : St} {G : GV} {o n : Nat} {y : Int} {post : Int32 → St → Prop} (B : Bk σ 0 G o) (hn : n < 16) (hy : -40 ≤ y ∧ y ≤ 60) (hp : post (II (fy G n y)) σ) : wpX10_in (II n) (II y) σ post := cin_ok B hn hy hp
theorem afy_ok {σ : St} {G : GV} {n : Nat} {y : Int} {post : Int32 → St → Prop} (h : RG σ G) (hn : n < 16) (hy : -40 ≤ y ∧ y ≤ 60) (hp : post (II (fy G n y)) σ) : wpX12_all (II y) (II n) σ post := all_ok h hn (by omega) (by rw [if_neg (by omega)]; exact hp)
def pe (f : Int → Int) : Nat → Int
  | 0 => -1
  | i + 1 => if (if pe f i = -1 then 0 else f (pe f i)) < f i then i else pe f i
theorem pe_in (f : Int → Int) (i : Nat) : -1 ≤ pe f i ∧ pe f i < i := by
  induction i with
  | zero => simp only [pe]; omega
  | succ i ih => simp only [pe]; split <;> omega
theorem cpeak_ok {σ : St} {G : GV} {o n : Nat} {M : Int} {post : Int32 → St → Prop} (B : Bk σ 0 G o) (hG : GB G) (hn : n < 16) (h9 : gI σ 9 0 = II M) (hM : 0 ≤ M ∧ M ≤ 61) (hp : post (II (pe (fy G n) M.toNat)) σ) : wpX10_peak (II n) σ post := by
  unfold wpX10_peak
  refine up (P := fun f i => wbX10_peak_7 post f (II n) (II (pe (fy G n) i)) (II (if pe (fy G n) i = -1 then 0 else fy G n (pe (fy G n) i))) (II i) σ) M.toNat ?_ ?_ 0 (by omega)
  · intro f
    simp (disch := omega) only [wbX10_peak_7, h9, I_le]
    exact ⟨fun _ => hp, fun q => absurd (by omega) q⟩
  · intro f i hi ih
    simp (disch := omega) only [wbX10_peak_7, h9, I_le]
    refine ⟨fun q => absurd q (by omega), fun _ => cfy_ok B hn (by omega) ?_⟩
    have b1 := fy_in hG n i
    have b2 := fy_in hG n (pe (fy G n) i)
    have e1 : pe (fy G n) (i + 1) = if (if pe (fy G n) i = -1 then 0 else fy G n (pe (fy G n) i)) < fy G n i then (i : Int) else pe (fy G n) i := rfl
    have b3 : 0 ≤ (if pe (fy G n) i = -1 then 0 else fy G n (pe (fy G n) i)) ∧ (if pe (fy G n) i = -1 then 0 else fy G n (pe (fy G n) i)) ≤ 119988 := by split <;> omega
    rw [I_le (by omega)]
    simp only [fe, I_lit, I_add]
    refine ⟨fun q => ?_, fun q => ?_⟩
    · rw [e1, if_neg (show ¬ (if pe (fy G n) i = -1 then 0 else fy G n (pe (fy G n) i)) < fy G n i by omega)] at ih
      exact ih
    · rw [e1, if_pos (show (if pe (fy G n) i = -1 then 0 else fy G n (pe (fy G n) i)) < fy G n i by omega), if_neg (show ¬ (i : Int) = -1 by omega)] at ih
      exact ih
theorem peak_ok {σ : St} {G : GV} {m : MT} {n : Nat} {post : Int32 → St → Prop} (hR : RG σ G) (hG : GB G) (hn : n < 16) (hm : RM σ m) (hM : 0 ≤ m 0 ∧ m 0 ≤ 61) (hp : post (II (pe (fy G n) (m 0).toNat)) σ) : wpX12_peak (II n) σ post := by
  unfold wpX12_peak
  have e0 : gI σ 76 0 = II (m 0) := hm 0
  refine up (P := fun f i => wbX12_peak_4 post f (II n) (II (pe (fy G n) i)) (II i) σ) (m 0).toNat ?_ ?_ 0 (by omega)
  · intro f
    simp (disch := omega) only [wbX12_peak_4, I_lit, I_in, true_and, I_cl, Int.reduceToNat, e0, I_le]
    exact ⟨fun _ => hp, fun q => absurd (by omega) q⟩
  · intro f i hi ih
    simp (disch := omega) only [wbX12_peak_4, I_lit, I_neg, I_in, true_and, I_cl, Int.reduceToNat, e0, I_le]
    refine ⟨fun q => absurd q (by omega), fun _ => afy_ok hR hn (by omega) ?_⟩
    have b1 := fy_in hG n i
    have b2 := fy_in hG n (pe (fy G n) i)
    have b3 := pe_in (fy G n) i
    have e1 : pe (fy G n) (i + 1) = if (if pe (fy G n) i = -1 then 0 else fy G n (pe (fy G n) i)) < fy G n i then (i : Int) else pe (fy G n) i := rfl
    rw [I_le (by omega), I_eq (by omega)]
    simp only [fe, I_add]
    refine ⟨fun q => ?_, fun q => ⟨fun q2 => ?_, fun q2 => ?_⟩⟩
    · rw [e1, if_neg (by split <;> omega)] at ih
      exact ih
    · rw [e1, if_pos (by rw [if_pos q2]; omega)] at ih
      exact ih
    · rw [if_neg q2] at e1
      refine afy_ok hR hn (by omega) ?_
      refine afy_ok hR hn (by omega) ?_
      rw [I_le (by omega)]
      refine ⟨fun q3 => ?_, fun q3 => ?_⟩
      · rw [e1, if_neg (by omega)] at ih; exact ih
      · rw [e1, if_pos (by omega)] at ih; exact ih
def sl (f : Int → Int) (M top d : Int) : Nat → Int → Int → Int
  | 0, _, c => c
  | k + 1, x, c => if x < 0 ∨ M ≤ x ∨ 2 * f x < top then c else sl f M top d k (x + d) (c + 1)
theorem cslope1 {σ : St} {G : GV} {o n : Nat} {M p d : Int} {post : Int32 → St → Prop} (B : Bk σ 0 G o) (hG : GB G) (hn : n < 16) (h9 : gI σ 9 0 = II M) (hM : 0 ≤ M ∧ M ≤ 61) (hp0 : 0 ≤ p ∧ p < M) (t : Int) (ht : 0 ≤ t ∧ t ≤ 119988) (k : Nat) : ∀ x c : Int, (-1 ≤ x ∧ x ≤ 61) → (0 ≤ c ∧ c ≤ 60) → (d = 1 ∧ x = p + (c + 1) ∧ M - x ≤ k ∨ d = -1 ∧ x = p - (c + 1) ∧ x + 1 ≤ k) → post (II (sl (fy G n) M t d k x c)) σ → wbX10_slope_11 post (k + 1) (II n) (II p) (II d) (II t) (II c) σ := by
  have step : ∀ x c : Int, (d = 1 ∧ x = p + (c + 1) ∨ d = -1 ∧ x = p - (c + 1)) → p + (c + 1) * d = x := by
    intro x c h
    rcases h with ⟨h1, h⟩ | ⟨h1, h⟩ <;> rw [h1] <;> omega
  induction k with
  | zero =>
    intro x c hx hc hd hp
    have es := step x c (by omega)
    unfold wbX10_slope_11
    simp (disch := omega) only [I_lit, I_le, I_add, I_mul, fe, es]
    exact ⟨fun q => absurd q (by omega), fun _ => wentBy_ok h9 hM (by omega) (fun q => by omega) (fun _ => ⟨fun _ => hp, fun q => absurd rfl q⟩)⟩
  | succ k ih =>
    intro x c hx hc hd hp
    have es := step x c (by omega)
    have e1 : sl (fy G n) M t d (k + 1) x c = if x < 0 ∨ M ≤ x ∨ 2 * fy G n x < t then c else sl (fy G n) M t d k (x + d) (c + 1) := rfl
    rw [e1] at hp
    unfold wbX10_slope_11
    simp (disch := omega) only [I_lit, I_le, I_add, I_mul, fe, es]
    refine ⟨fun q => absurd q (by omega), fun _ => wentBy_ok h9 hM (by omega) (fun q => ⟨fun z => absurd z (by decide), fun _ => cfy_ok B hn (by omega) ?_⟩) (fun q => ⟨fun _ => ?_, fun z => absurd rfl z⟩)⟩
    · have b := fy_in hG n x
      rw [I_mul, I_le (by omega)]
      try simp only [fe, I_add]
      refine ⟨fun q3 => ?_, fun q3 => ?_⟩
      · rw [if_neg (by omega)] at hp
        exact ih (x + d) (c + 1) (by omega) (by omega) (by omega) hp
      · rw [if_pos (by omega)] at hp; exact hp
    · rw [if_pos (by omega)] at hp; exact hp
theorem slope1 {σ : St} {G : GV} {m : MT} {n : Nat} {d : Int} {post : Int32 → St → Prop} (hR : RG σ G) (hG : GB G) (hn : n < 16) (hm : RM σ m) (hM : 0 ≤ m 0 ∧ m 0 ≤ 61) (p : Int) (hp0 : -40 ≤ p ∧ p ≤ 60) (k : Nat) : ∀ x c : Int, (-1 ≤ x ∧ x ≤ 61) → (d = 1 ∧ m 0 - x ≤ k ∨ d = -1 ∧ x + 1 ≤ k) → post (II (sl (fy G n) (m 0) (fy G n p) d k x c)) σ → wbX12_slope_8 post (k + 1) (II n) (II p) (II d) (II x) (II c) σ := by
  have e0 : gI σ 76 0 = II (m 0) := hm 0
  induction k with
  | zero =>
    intro x c hx hd hp
    simp (disch := omega) only [wbX12_slope_8, I_lit, I_lt, I_in, true_and, I_cl, Int.reduceToNat, e0, I_le]
    exact ⟨fun _ => hp, fun q => ⟨fun _ => hp, fun q2 => by omega⟩⟩
  | succ k ih =>
    intro x c hx hd hp
    have e1 : sl (fy G n) (m 0) (fy G n p) d (k + 1) x c = if x < 0 ∨ m 0 ≤ x ∨ 2 * fy G n x < fy G n p then c else sl (fy G n) (m 0) (fy G n p) d k (x + d) (c + 1) := rfl
    rw [e1] at hp
    unfold wbX12_slope_8
    simp (disch := omega) only [I_lit, I_lt, I_in, true_and, I_cl, Int.reduceToNat, e0, I_le]
    refine ⟨fun q => by rw [if_pos (Or.inl q)] at hp; exact hp, fun q => ⟨fun q2 => by rw [if_pos (Or.inr (Or.inl q2))] at hp; exact hp, fun q2 => afy_ok hR hn (by omega) (afy_ok hR hn (by omega) ?_)⟩⟩
    have b := fy_in hG n x
    have b2 := fy_in hG n p
    rw [I_mul, I_lt (by omega)]
    simp only [fe, I_add]
    refine ⟨fun q3 => ?_, fun q3 => ?_⟩
    · rw [if_pos (by omega)] at hp; exact hp
    · rw [if_neg (by omega)] at hp
      exact ih (x + d) (c + 1) (by omega) (by omega) hp
theorem cslope_ok {σ : St} {G : GV} {o n : Nat} {M p d : Int} {post : Int32 → St → Prop} (B : Bk σ 0 G o) (hG : GB G) (hn : n < 16) (h9 : gI σ 9 0 = II M) (hM : 0 ≤ M ∧ M ≤ 61) (hp : 0 ≤ p ∧ p < M) (hd : d = 1 ∨ d = -1) (h : post (II (sl (fy G n) M (fy G n p) d 62 (p + d) 0)) σ) : wpX10_slope (II n) (II p) (II d) σ post := by
  unfold wpX10_slope
  refine cfy_ok B hn (by omega) ?_
  show ∃ m, wbX10_slope_11 post m (II n) (II p) (II d) (II (fy G n p)) (II 0) σ
  exact ⟨62 + 1, cslope1 B hG hn h9 hM hp _ (fy_in hG n p) 62 (p + d) 0 (by omega) (by omega) (by omega) h⟩
theorem slope_ok {σ : St} {G : GV} {m : MT} {n : Nat} {p d : Int} {post : Int32 → St → Prop} (hR : RG σ G) (hG : GB G) (hn : n < 16) (hm : RM σ m) (hM : 0 ≤ m 0 ∧ m 0 ≤ 61) (hp : 0 ≤ p ∧ p < m 0) (hd : d = 1 ∨ d = -1) (h : post (II (sl (fy G n) (m 0) (fy G n p) d 62 (p + d) 0)) σ) : wpX12_slope (II n) (II p) (II d) σ post := by
  unfold wpX12_slope
  simp only [fe, I_add]
  exact ⟨62 + 1, slope1 hR hG hn hm hM p (by omega) 62 (p + d) 0 (by omega) (by omega) h⟩
theorem shape_ok {σ : St} (h : Inv σ) (a b : Int32) : wpX11_shape a b σ (fun r τ => wpX12_shape a b τ (Q2 r)) := by
  obtain ⟨m, mi, U, T, hA, hB⟩ := id h
  obtain ⟨n, n1, n2, rfl⟩ := I_of a
  obtain ⟨k, k1, k2, rfl⟩ := I_of b
  have hM := hA.1
  have hW := hA.2.2.1
  have w0 := hW.1
  have w1 := hW.2.1
  have e9 := hB.2.2.1.1
  have hb := hB.2.2.2.2.1
  have hG : GB (run (KK m U T) (m 0).toNat) := GC_GB (run_GC (K := KK m U T) hW _).1
  have ref0 : ¬ ((0 ≤ n ∧ n < m 1) ∧ (0 ≤ k ∧ k ≤ 3)) → wpX12_shape (II n) (II k) σ (Q2 (II (-1))) := by
    intro hz
    unfold wpX12_shape
    refine isName_ok hM w1 (by omega) (fun q => t1 ?_) (fun q => t0 ⟨rfl, h⟩)
    exact in_ok (b := 0) (c := 3) (by omega) (fun q2 => absurd ⟨q, q2⟩ hz) (fun q2 => s0 ⟨rfl, h⟩)
  unfold wpX11_shape
  refine has_ok hB.1.1 w1 (by omega) (fun z => t1 ?_) (fun z => t0 (ref0 (fun q => z q.1)))
  refine wi_ok (b := 0) (c := 3) (by omega) (fun x => s1 ?_) (fun x => s0 (ref0 (fun q => x q.2)))
  obtain ⟨N, rfl⟩ : ∃ N : Nat, n = N := ⟨n.toNat, by omega⟩
  obtain ⟨G, eG⟩ : ∃ G, G = run (KK m U T) (m 0).toNat := ⟨_, rfl⟩
  have hpe := pe_in (fy G N) (m 0).toNat
  obtain ⟨p, ep⟩ : ∃ p, p = pe (fy G N) (m 0).toNat := ⟨_, rfl⟩
  rw [← ep] at hpe
  have ref : ∀ r : Int32, (p = -1 → r = II (-1)) → (p ≠ -1 → k = 0 → r = II p) → (p ≠ -1 → k = 1 → r = II (fy G N p)) → (p ≠ -1 → k = 2 → r = II (sl (fy G N) (m 0) (fy G N p) (-1) 62 (p + -1) 0)) → (p ≠ -1 → k = 3 → r = II (sl (fy G N) (m 0) (fy G N p) 1 62 (p + 1) 0)) → wpX12_shape (II N) (II k) σ (Q2 r) := by
    intro r r0 r1 r2 r3 r4
    unfold wpX12_shape
    refine isName_ok hM w1 (by omega) (fun _ => t1 ?_) (fun q => absurd z q)
    refine in_ok (b := 0) (c := 3) (by omega) (fun _ => s1 ?_) (fun q => absurd x q)
    refine runsAll_ok hA hB ?_
    intro τ tR tG tn
    have tA := SR_A hA tR
    have tI := SR_I h tR
    rw [← eG] at tG
    rw [← eG] at hG
    refine peak_ok tG hG (by omega) tA.1 w0 ?_
    rw [← ep]
    simp (disch := omega) only [I_lit, I_neg, I_eq, wbX12_shape_69]
    refine ⟨fun q => ⟨by rw [r0 q, q], tI⟩, fun q => ⟨fun q1 => ⟨fun q2 => ⟨fun q3 => ?_, fun q3 => ?_⟩, fun q2 => ?_⟩, fun q1 => ⟨r1 q q1, tI⟩⟩⟩
    · exact slope_ok tG hG (by omega) tA.1 w0 (by omega) (Or.inl rfl) ⟨r4 q (by omega), tI⟩
    · exact slope_ok tG hG (by omega) tA.1 w0 (by omega) (Or.inr rfl) ⟨r3 q q3, tI⟩
    · refine afy_ok tG (by omega) (by omega) ?_
      exact ⟨r2 q q2, tI⟩
  rw [← eG] at hG hb
  refine cpeak_ok hb hG (by omega) e9 w0 ?_
  rw [← ep]
  simp (disch := omega) only [I_lit, I_neg, I_eq, wbX11_shape_73]
  refine ⟨fun q => ?_, fun q => ⟨fun q1 => ⟨fun q2 => ⟨fun q3 => ?_, fun q3 => ?_⟩, fun q2 => ?_⟩, fun q1 => ?_⟩⟩
  · exact ref _ (fun _ => by rw [q]) (fun c => absurd q c) (fun c => absurd q c) (fun c => absurd q c) (fun c => absurd q c)
  · refine cslope_ok hb hG (by omega) e9 w0 (by omega) (Or.inl rfl) ?_
    exact ref _ (fun c => absurd c q) (fun _ => by omega) (fun _ => by omega) (fun _ => by omega) (fun _ _ => rfl)
  · refine cslope_ok hb hG (by omega) e9 w0 (by omega) (Or.inr rfl) ?_
    exact ref _ (fun c => absurd c q) (fun _ => by omega) (fun _ => by omega) (fun _ _ => rfl) (fun _ => by omega)
  · refine cfy_ok hb (by omega) (by omega) ?_
    exact ref _ (fun c => absurd c q) (fun _ => by omega) (fun _ _ => rfl) (fun _ => by omega) (fun _ => by omega)
  · exact ref _ (fun c => absurd c q) (fun _ _ => rfl) (fun _ => by omega) (fun _ => by omega) (fun _ => by omega)
