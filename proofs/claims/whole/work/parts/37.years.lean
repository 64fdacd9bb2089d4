/-! a year goes by -/
def yS (m : MT) : MT := fun j => if j = 0 then m 0 + 1 else if 1000 + 14 * (m 0).toNat ≤ j ∧ j < 1000 + 14 * (m 0).toNat + 12 then m (10 + (j - (1000 + 14 * (m 0).toNat))) else if j = 1000 + 14 * (m 0).toNat + 12 then m 7 else if j = 1000 + 14 * (m 0).toNat + 13 then m 8 else m j
theorem yS_0 (m : MT) : yS m 0 = m 0 + 1 := by unfold yS; rw [if_pos rfl]
theorem yS_ne {m : MT} {j : Nat} (h0 : j ≠ 0) (h : j < 1000 + 14 * (m 0).toNat ∨ 1000 + 14 * (m 0).toNat + 14 ≤ j) : yS m j = m j := by
  unfold yS; rw [if_neg h0, if_neg (by omega), if_neg (by omega), if_neg (by omega)]
theorem yS_c {m : MT} {c : Nat} (hc : c < 12) : yS m (1000 + 14 * (m 0).toNat + c) = m (10 + c) := by
  unfold yS; rw [if_neg (by omega), if_pos (by omega)]; congr 1; omega
theorem yS_s {m : MT} {s : Nat} (hs : s < 2) : yS m (1000 + 14 * (m 0).toNat + 12 + s) = m (7 + s) := by
  unfold yS
  rw [if_neg (by omega), if_neg (by omega)]
  by_cases e : s = 0
  · subst e; rw [if_pos (by omega)]
  · have : s = 1 := by omega
    subst this; rw [if_neg (by omega), if_pos (by omega)]
theorem yS_WF {m : MT} (h : WFm m) (hc : m 0 < 61) : WFm (yS m) := by
  obtain ⟨w0, w1, w2, w3, w4, w5, w6, w7, w8, w9, w10, w11, w12, w13⟩ := h
  refine ⟨by rw [yS_0]; omega, by rw [yS_ne (by omega) (by omega)]; exact w1, by rw [yS_ne (by omega) (by omega)]; exact w2, by rw [yS_ne (by omega) (by omega)]; exact w3, by rw [yS_ne (by omega) (by omega)]; exact w4, by rw [yS_ne (by omega) (by omega)]; exact w5, by rw [yS_ne (by omega) (by omega)]; exact w6, fun s hs => by rw [yS_ne (by omega) (by omega), yS_ne (by omega) (by omega)]; exact w7 s hs, fun c hc' => by rw [yS_ne (by omega) (by omega)]; exact w8 c hc', fun n hn => ?_, fun k hk => ?_, fun k hk => ?_, fun y hy => ?_, fun Y hY c hc' n hn => by rw [yS_ne (by omega) (by omega)]; exact w13 Y hY c hc' n hn⟩
  · rw [yS_ne (by omega) (by omega)] at hn
    rw [yS_ne (by omega) (by omega), yS_ne (by omega) (by omega), yS_0]
    have := w9 n hn
    omega
  · rw [yS_ne (by omega) (by omega)] at hk
    rw [yS_ne (by omega) (by omega), yS_ne (by omega) (by omega)]
    exact w10 k hk
  · rw [yS_ne (by omega) (by omega)] at hk
    rw [yS_ne (by omega) (by omega), yS_ne (by omega) (by omega), yS_ne (by omega) (by omega)]
    exact w11 k hk
  · rw [yS_0] at hy
    rw [yS_ne (show 4 ≠ 0 by omega) (by omega)]
    by_cases e : y = (m 0).toNat
    · subst e
      exact ⟨fun c hc' => by rw [yS_c hc']; exact w8 c hc', fun s hs => by rw [yS_s hs]; exact w7 s hs⟩
    · exact ⟨fun c hc' => by rw [yS_ne (by omega) (by omega)]; exact (w12 y (by omega)).1 c hc', fun s hs => by rw [yS_ne (by omega) (by omega)]; exact (w12 y (by omega)).2 s hs⟩
theorem yS_EB {m : MT} (h : WFm m) (hc : m 0 < 61) : ExB m (yS m) ∧ ExS m (yS m) := by
  obtain ⟨w0, w1, w2, w3, w4, w5, w6, w7, w8, w9, w10, w11, w12, w13⟩ := h
  refine ⟨⟨by rw [yS_0]; omega, by rw [yS_ne (by omega) (by omega)]; omega, by rw [yS_ne (by omega) (by omega)]; omega, by rw [yS_ne (by omega) (by omega)]; omega, by rw [yS_ne (by omega) (by omega)]; omega, by rw [yS_ne (by omega) (by omega)]; omega, fun n hn => ⟨by rw [yS_ne (by omega) (by omega)], by rw [yS_ne (by omega) (by omega)]⟩, fun n h1 h2 => ?_, fun k hk => ⟨by rw [yS_ne (by omega) (by omega)], by rw [yS_ne (by omega) (by omega)]⟩, fun n h1 h2 => ?_, fun k hk => ⟨by rw [yS_ne (by omega) (by omega)], by rw [yS_ne (by omega) (by omega)], by rw [yS_ne (by omega) (by omega)]⟩, fun n h1 h2 => ?_, fun y hy c hc' => by rw [yS_ne (by omega) (by omega)], fun k hk j hj => by rw [yS_ne (by omega) (by omega)], fun k hk => by rw [yS_ne (by omega) (by omega)]⟩, by rw [yS_ne (by omega) (by omega)], fun Y hY c hc' n hn => by rw [yS_ne (by omega) (by omega)]⟩
  · rw [yS_ne (by omega) (by omega)] at h2; omega
  · rw [yS_ne (by omega) (by omega)] at h2; omega
  · rw [yS_ne (by omega) (by omega)] at h2; omega
theorem yS_run {m : MT} {U : Nat → Nat} {T : TT} (h : WFm m) (hz : BZ m) (hc : m 0 < 61) : ∀ y, y ≤ (m 0).toNat + 1 → run (KK (yS m) U T) y = run (KK m U T) y ∧ (y < (m 0).toNat + 1 → nml (KK (yS m) U T) y = nml (KK m U T) y) := by
  obtain ⟨hE, hS⟩ := yS_EB h hc
  have w0 := h.1
  have w1 := h.2.1
  have w2 := h.2.2.1
  have w3 := h.2.2.2.1
  have hl : ∀ y k : Nat, (k : Int) ≤ m 2 → lsn (yS m) y k = lsn m y k := by
    intro y k
    induction k with
    | zero => intro _; rfl
    | succ k ih => intro hk; simp only [lsn]; rw [yS_ne (by omega) (by omega), yS_ne (by omega) (by omega), ih (by omega)]
  have e1 : yS m 1 = m 1 := yS_ne (by omega) (by omega)
  have e2 : yS m 2 = m 2 := yS_ne (by omega) (by omega)
  have e3 : yS m 3 = m 3 := yS_ne (by omega) (by omega)
  have hNE : NE (KK m U T) (KK (yS m) U T) := ⟨by show (m 1).toNat ≤ (yS m 1).toNat; rw [e1]; exact Nat.le_refl _, hS.1, rfl, fun _ _ => rfl, fun _ _ _ _ => rfl⟩
  refine run_ext hNE (by rw [kn_KB, kn_KB]; exact G0_ext hS hE hz w1.1 (show yS m 1 ≤ 16 by omega)) (fun y hy => ⟨fun c hc' => ?_, fun s hs => ?_, fun s hs hne => ⟨rfl, rfl, rfl, rfl⟩, fun n hn => ?_, fun n hn x hx => ?_, fun n a b => ?_⟩)
  · show (if y < (yS m 0).toNat then yS m (1000 + 14 * y + c) else yS m (10 + c)) = (if y < (m 0).toNat then m (1000 + 14 * y + c) else m (10 + c))
    rw [yS_0, if_pos (by omega)]
    by_cases e : y = (m 0).toNat
    · subst e; rw [yS_c hc', if_neg (by omega)]
    · rw [if_pos (by omega), yS_ne (by omega) (by omega)]
  · show (if ((-1 : Int)) ≠ -1 then -1 else if y < (yS m 0).toNat then yS m (1000 + 14 * y + 12 + s) else yS m (7 + s)) = (if ((-1 : Int)) ≠ -1 then -1 else if y < (m 0).toNat then m (1000 + 14 * y + 12 + s) else m (7 + s))
    rw [if_neg (show ¬ ((-1 : Int) ≠ -1) by omega), if_neg (show ¬ ((-1 : Int) ≠ -1) by omega), yS_0, if_pos (by omega)]
    by_cases e : y = (m 0).toNat
    · subst e; rw [yS_s hs, if_neg (by omega)]
    · rw [if_pos (by omega), yS_ne (by omega) (by omega)]
  · show flm (yS m) (-1) y n = flm m (-1) y n
    unfold flm
    rw [e3]
    exact sm_congr (fun k hk => by rw [yS_ne (by omega) (by omega), yS_ne (by omega) (by omega), yS_ne (by omega) (by omega)])
  · rw [kn_KB] at hn
    unfold ft
    show (decide (yS m (1900 + n) ≤ (y : Int)) && bit (yS m (30 + n)) x && (lsn (yS m) y (yS m 2).toNat == 0 || bit (lsn (yS m) y (yS m 2).toNat) n)) = (decide (m (1900 + n) ≤ (y : Int)) && bit (m (30 + n)) x && (lsn m y (m 2).toNat == 0 || bit (lsn m y (m 2).toNat) n))
    rw [e2, hl y _ (by omega), yS_ne (by omega) (by omega), yS_ne (by omega) (by omega)]
  · have a' : (m 1).toNat ≤ n := a
    have b' : n < (yS m 1).toNat := b
    rw [e1] at b'; omega
theorem yS_by {m : MT} {U : Nat → Nat} {T : TT} (h : WFm m) (hc : m 0 < 61) (t : Nat) (ht : (t : Int) < m 4) : run (KB (yS m) U T (-1) false t) 61 = run (KB m U T (-1) false t) 61 := by
  have w0 := h.1
  have w1 := h.2.1
  have w2 := h.2.2.1
  have w3 := h.2.2.2.1
  refine run_by_eq h (yS_ne (by omega) (by omega)) (yS_ne (by omega) (by omega)) (yS_ne (by omega) (by omega)) (yS_ne (by omega) (by omega)) (fun n hn => ⟨yS_ne (by omega) (by omega), yS_ne (by omega) (by omega)⟩) (fun k hk => ⟨yS_ne (by omega) (by omega), yS_ne (by omega) (by omega)⟩) (fun k hk => ⟨yS_ne (by omega) (by omega), yS_ne (by omega) (by omega), yS_ne (by omega) (by omega)⟩) (fun Y hY c hc' n hn => yS_ne (by omega) (by omega)) (fun y hy c hc' => ?_) (fun _ _ => ⟨rfl, rfl, rfl, rfl⟩) ht
  show (if y < (yS m 0).toNat then yS m (1000 + 14 * y + c) else yS m (10 + c)) = (if y < (m 0).toNat then m (1000 + 14 * y + c) else m (10 + c))
  rw [yS_0]
  by_cases e : y = (m 0).toNat
  · subst e; rw [if_pos (by omega), yS_c hc', if_neg (by omega)]
  · by_cases e2 : y < (m 0).toNat
    · rw [if_pos (by omega), if_pos e2, yS_ne (by omega) (by omega)]
    · rw [if_neg (by omega), if_neg e2, yS_ne (by omega) (by omega)]
def ys (m : MT) : Nat → MT
  | 0 => m
  | k + 1 => yS (ys m k)
theorem ys_0 (m : MT) (k : Nat) : ys m k 0 = m 0 + k := by
  induction k with
  | zero => simp [ys]
  | succ k ih => show yS (ys m k) 0 = _; rw [yS_0, ih]; omega
theorem ys_all {m : MT} {U : Nat → Nat} {T : TT} (h : WFm m) (hz : BZ m) (hp : PW m) : ∀ k : Nat, m 0 + k ≤ 61 → WFm (ys m k) ∧ BZ (ys m k) ∧ PW (ys m k) ∧ ExB m (ys m k) ∧ ExS m (ys m k) ∧ ys m k 4 = m 4 ∧ (∀ t : Nat, (t : Int) < m 4 → run (KB (ys m k) U T (-1) false t) 61 = run (KB m U T (-1) false t) 61) := by
  intro k
  induction k with
  | zero => intro _; exact ⟨h, hz, hp, ExB.refl m, ExS.refl m, rfl, fun _ _ => rfl⟩
  | succ k ih =>
    intro hk
    obtain ⟨i1, i2, i3, i4, i5, i6, i7⟩ := ih (by omega)
    have hc : ys m k 0 < 61 := by rw [ys_0]; omega
    obtain ⟨e1, e2⟩ := yS_EB i1 hc
    have w0 := i1.1
    have w1 := i1.2.1
    have w5 := i1.2.2.2.2.2.1
    have tr := Ex1.trans (a := m) ⟨i4, fun _ => i5⟩ ⟨e1, fun _ => e2⟩ (Or.inl e2)
    refine ⟨yS_WF i1 hc, fun Y hY c hc' n hn h1 => ?_, fun j hj => ?_, tr.1, ⟨e2.1.trans i5.1, fun Y hY c hc' n hn => (e2.2 Y hY c hc' n hn).trans (i5.2 Y hY c hc' n hn)⟩, ?_, fun t ht => ?_⟩
    · show yS (ys m k) _ = 0
      have h1' : yS (ys m k) 1 ≤ (n : Int) := h1
      rw [yS_ne (by omega) (by omega)] at h1'
      rw [yS_ne (by omega) (by omega)]; exact i2 Y hY c hc' n hn h1'
    · have hj' : (j : Int) < yS (ys m k) 5 := hj
      rw [yS_ne (by omega) (by omega)] at hj'
      have := i3 j hj'
      show (0 ≤ yS (ys m k) _ ∧ yS (ys m k) _ ≤ 60) ∧ (0 ≤ yS (ys m k) _ ∧ yS (ys m k) _ ≤ 2) ∧ (0 ≤ yS (ys m k) _ ∧ yS (ys m k) _ ≤ 1) ∧ (0 ≤ yS (ys m k) _ ∧ yS (ys m k) _ < yS (ys m k) 1) ∧ (0 ≤ yS (ys m k) _ ∧ yS (ys m k) _ ≤ 99) ∧ (0 ≤ yS (ys m k) _ ∧ yS (ys m k) _ ≤ 61)
      rw [yS_ne (m := ys m k) (j := 100 + 6 * j) (by omega) (by omega), yS_ne (m := ys m k) (j := 100 + 6 * j + 1) (by omega) (by omega), yS_ne (m := ys m k) (j := 100 + 6 * j + 2) (by omega) (by omega), yS_ne (m := ys m k) (j := 100 + 6 * j + 3) (by omega) (by omega), yS_ne (m := ys m k) (j := 100 + 6 * j + 4) (by omega) (by omega), yS_ne (m := ys m k) (j := 100 + 6 * j + 5) (by omega) (by omega), yS_ne (m := ys m k) (j := 1) (by omega) (by omega)]
      exact this
    · show yS (ys m k) 4 = _
      rw [yS_ne (by omega) (by omega)]; exact i6
    · show run (KB (yS (ys m k)) U T (-1) false t) 61 = _
      rw [yS_by i1 hc t (by omega), i7 t ht]
theorem years_cls {σ : St} {m mi : MT} {U : Nat → Nat} {T : TT} {n : Nat} {post : Int32 → St → Prop} (hA : IvA σ m mi U T) (hB : IvB σ m mi U T) (hn : 1 ≤ n) (hc : m 0 + n ≤ 61)
    (hp : ∀ τ, Eqx [9, 12, 14, 15, 21, 22, 23, 24, 47, 48, 49, 50] σ τ → CL τ (ys m n) → Bk τ 0 (run (KK (ys m n) U T) (ys m n 0).toNat) (min (ys m n 0).toNat 60) → (∀ y : Nat, (y : Int) < ys m n 0 → gI τ 15 y = II (nml (KK (ys m n) U T) y)) → gI τ 47 6 = II (-1) → gI τ 47 7 = II 0 → post (II (ys m n 0)) τ) : ∃ f, wbX11_years_28 post f (II n) (II 0) σ := by
  have hW := hA.2.2.1
  have w00 := hW.1
  have hzz := hA.2.2.2.2.1
  have hpw := hA.2.2.2.2.2.2.1
  have all := fun k hk => ys_all (U := U) (T := T) hW hzz hpw k hk
  obtain ⟨b1, b2, b3, b4, b5, b6, b7, b8, b9, b10, b11⟩ := id hB
  have key := up (P := fun f i => ∀ τ : St, Eqx [9, 12, 14, 15, 21, 22, 23, 24, 47, 48, 49, 50] σ τ → CL τ (ys m i) → Sums τ 0 (run (KK (ys m i) U T) (ys m i 0).toNat) (40 + (ys m i 0).toNat) → Rows τ 0 (run (KK (ys m i) U T) (ys m i 0).toNat) (ys m i 0).toNat → Lat τ 0 (run (KK (ys m i) U T) (ys m i 0).toNat) (40 + (ys m i 0).toNat) → (1 ≤ i → gI τ 21 3 = II (ys m i 0 - 1)) → (∀ y : Nat, (y : Int) < ys m i 0 → gI τ 15 y = II (nml (KK (ys m i) U T) y)) → gI τ 47 6 = II (-1) → gI τ 47 7 = II 0 → wbX11_years_28 post f (II n) (II i) τ) n ?_ ?_ 0 (by omega)
  · obtain ⟨f, hf⟩ := key
    have o : min (m 0).toNat 60 = (m 0).toNat := by omega
    rw [o] at b5
    have rG := run_GC (K := KK m U T) hW (m 0).toNat
    refine ⟨f, hf σ (Eqx.refl _ _) b3 (fun Y hY => b5.2.1 Y (by show Y ≤ 41 + (m 0).toNat; have : Y ≤ 40 + (m 0).toNat := hY; omega)) (fun y hy => b5.2.2.1 y (by have : y < (m 0).toNat := hy; omega)) (fun j hj => ?_) (fun z => absurd z (by omega)) b6 b9.1 b9.2⟩
    have := b5.2.2.2.1 j hj
    rw [show 41 + (m 0).toNat = 40 + (m 0).toNat + 1 by omega, lat_nil rG.2 j 1] at this
    exact this
  · intro f τ tE tC tS tR tL t3 t15 t6 t7
    obtain ⟨i1, i2, i3, i4, i5, i6, i7⟩ := all n hc
    have e0 := ys_0 m n
    have w0 := i1.1
    have rG := run_GC (K := KK (ys m n) U T) i1 (ys m n 0).toNat
    simp (disch := omega) only [wbX11_years_28, I_le]
    refine ⟨fun _ => ?_, fun z => absurd (by omega) z⟩
    rw [tC.1]
    by_cases c : ys m n 0 = 61
    · simp (disch := omega) only [wpX0_open, I_lit, I_lt, I_le]
      refine ⟨fun z => absurd z (by omega), fun _ => ⟨fun z => absurd z (by omega), fun _ => ?_⟩⟩
      rw [tC.1]
      refine hp τ tE tC ⟨by rw [show (21 + 4 * 0) = 21 by omega, t3 hn]; congr 1; omega, ?_, ?_, ?_, ?_, by omega⟩ t15 t6 t7
      · rw [show 41 + min (ys m n 0).toNat 60 = 40 + (ys m n 0).toNat by omega]; exact tS
      · rw [show min (ys m n 0).toNat 60 + 1 = (ys m n 0).toNat by omega]; exact tR
      · rw [show 41 + min (ys m n 0).toNat 60 = 40 + (ys m n 0).toNat by omega]; exact tL
      · rw [show 41 + min (ys m n 0).toNat 60 = 40 + (ys m n 0).toNat by omega]; exact rG.2
    · rw [show ys m n 0 = (((ys m n 0).toNat : Nat) : Int) by omega]
      refine open_ok tS tR tL rG.2 (by omega) ?_
      intro υ uB uE
      have uC : CL υ (ys m n) := CL_eq tC (fun q hq => (uE q ?_).symm)
      · rw [uC.1]
        refine hp υ (Eqx.trans tE (Eqx.mono uE (by simp))) uC (by rw [show min (ys m n 0).toNat 60 = (ys m n 0).toNat by omega]; exact uB) (fun y hy => by rw [Eqx_gI uE (by simp)]; exact t15 y hy) (by rw [Eqx_gI uE (by simp)]; exact t6) (by rw [Eqx_gI uE (by simp)]; exact t7)
      · simp only [CE, List.mem_cons, List.not_mem_nil, or_false] at hq; simp; omega
  · intro f i hi ih τ tE tC tS tR tL t3 t15 t6 t7
    obtain ⟨i1, i2, i3, i4, i5, i6, i7⟩ := all i (by omega)
    have e0 := ys_0 m i
    have w0 := i1.1
    have hc61 : ys m i 0 < 61 := by omega
    have rG := run_GC (K := KK (ys m i) U T) i1 (ys m i 0).toNat
    obtain ⟨c, hcc⟩ : ∃ c : Nat, ys m i 0 = c := ⟨(ys m i 0).toNat, by omega⟩
    have hct : (ys m i 0).toNat = c := by omega
    have tEc : ∀ q, (1 ≤ q ∧ q ≤ 8 ∨ q = 78 ∨ 30 ≤ q ∧ q ≤ 41) → τ q = σ q := fun q hq => (tE q (by simp; omega)).symm
    have C : CK τ (KK (ys m i) U T) := by
      refine ⟨NMs_CN i1 (NMs_c b1 (fun q p1 p2 => tEc q (by omega)) (tEc 78 (by omega)) ?_ (fun j hj => ⟨?_, ?_⟩)) T _ _ _, tC, i1, ?_, by show -1 ≤ (-1 : Int) ∧ (-1 : Int) < 8; omega, ?_⟩
      · have := i4.2.1
        have h1 : ∀ k, ys m k 1 = m 1 := by
          intro k
          induction k with
          | zero => rfl
          | succ k ih => show yS (ys m k) 1 = _; rw [yS_ne (by omega) (by omega), ih]
        exact h1 i
      · exact (i4.2.2.2.2.2.2.1 j hj).1
      · exact (i4.2.2.2.2.2.2.1 j hj).2
      · show CW τ T (ys m i 4)
        rw [i6]
        exact CW_eq hW.2.2.2.2.1.2 b4.1 (fun q p1 p2 => tEc q (by omega))
      · have := i1.2.2.2.2.1
        show -1 ≤ (-1 : Int) ∧ (-1 : Int) < ys m i 4
        omega
    simp (disch := omega) only [wbX11_years_28, I_le]
    refine ⟨fun z => absurd z (by omega), fun _ => ?_⟩
    rw [tC.1, hcc, I_lit, I_neg]
    rw [hct] at tS tR tL rG
    refine pass_ok (K := KK (ys m i) U T) (G := run (KK (ys m i) U T) c) C (by omega) tS tR tL rG.2 rG.1 (by omega) t6 t7 ?_
    intro υ uE uB u6 u7
    have uE' : Eqx [21, 22, 23, 24, 47, 48, 49, 50] τ υ := Eqx.mono uE (by simp [BM])
    have uC : CL υ (ys m i) := CL_eq tC (fun q hq => (uE' q ?_).symm)
    · have u11 := uC.2.2.2.2.2.1
      have u13 := uC.2.2.2.2.2.2.2.1
      have u0 : gI υ 9 0 = II (c : Int) := by rw [uC.1, hcc]
      have hrn := yS_run (U := U) (T := T) i1 i2 hc61
      have hmm : ys m (i + 1) = yS (ys m i) := rfl
      have z12 : (0 : Int32).toNatClampNeg = 0 := rfl
      have k12 : (12 : Int32).toNatClampNeg = 12 := rfl
      have k2 : (2 : Int32).toNatClampNeg = 2 := rfl
      have j1 : (II ((c : Int) * 12)).toNatClampNeg = c * 12 := by rw [I_cl (by omega)]; omega
      have j2 : (II ((c : Int) * 2)).toNatClampNeg = c * 2 := by rw [I_cl (by omega)]; omega
      have l1 : ∀ a : Int, 0 ≤ a ∧ a < 100000 → ¬ II a < 0 := fun a ha => by rw [I_lit, I_lt (by omega)]; omega
      have a1 : gI (sA υ 12 (va_cpy (υ 11).1 (υ 12).1 0 (c * 12) 12)) 9 0 = II (c : Int) := by rw [rA2 (by omega)]; exact u0
      have a2 : gI (sA (sA υ 12 (va_cpy (υ 11).1 (υ 12).1 0 (c * 12) 12)) 14 (va_cpy (sA υ 12 (va_cpy (υ 11).1 (υ 12).1 0 (c * 12) 12) 13).1 (sA υ 12 (va_cpy (υ 11).1 (υ 12).1 0 (c * 12) 12) 14).1 0 (c * 2) 2)) 9 0 = II (c : Int) := by rw [rA2 (by omega)]; exact a1
      unfold wpX4_closeYear
      have h60 : (II (c : Int) ≤ (60 : Int32)) = ((c : Int) ≤ 60) := I_le (a := c) (b := 60) (by omega)
      have m12 : II (c : Int) * (12 : Int32) = II ((c : Int) * 12) := I_mul c 12
      rw [u0, h60, m12, z12, k12, k2, j1]
      refine ⟨fun _ => ?_, fun z => absurd (by omega) z⟩
      refine ⟨by decide, l1 _ (by omega), by decide, by omega, by omega, ?_⟩
      simp only [fe]
      rw [a1]
      have e2 : (2 : Int32) = II 2 := rfl
      have l2 : ¬ (2 : Int32) < 0 := by decide
      refine ⟨by decide, ?_, by decide, by omega, ?_, ?_⟩
      · rw [e2, I_mul]; exact l1 _ (by omega)
      · rw [e2, I_mul, j2]; omega
      · rw [e2, I_mul, j2, a2]
        have i61 : vp_in (II (c : Int)) 61 := of_eq_true (I_in (by omega))
        refine ⟨i61, ?_⟩
        rw [I_cln (by omega), rI2 (by omega), a2, I_lit, I_add, I_add]
        have hY : yS (ys m i) 0 = ys m i 0 + 1 := yS_0 _
        have hYn : (yS (ys m i) 0).toNat = c + 1 := by omega
        refine ih _ ?_ ?_ ?_ ?_ ?_ ?_ ?_ ?_ ?_
        · refine Eqx_tI (Eqx_tI (Eqx_tA (Eqx_tA (Eqx.trans tE (Eqx.mono uE' (by simp))) (by simp)) (by simp)) (by simp)) (by simp)
        · rw [hmm]
          obtain ⟨d1, d2, d3, d4, d5, d6, d7, d8, d9, d10, d11⟩ := uC
          have w1' := i1.2.2.1
          have w2' := i1.2.2.2.1
          refine ⟨?_, ?_, ?_, ?_, fun Y p c' q n r => ?_, fun c' q => ?_, fun y p c' q => ?_, fun s q => ?_, fun y p s q => ?_, fun k p => ?_, fun k p => ?_⟩
          · rw [rI1, hY, hcc]
          · rw [rI3 (by omega), rI2 (by omega), rA2 (by omega), rA2 (by omega), yS_ne (by omega) (by omega)]; exact d2
          · rw [rI3 (by omega), rI2 (by omega), rA2 (by omega), rA2 (by omega), yS_ne (by omega) (by omega)]; exact d3
          · rw [rI3 (by omega), rI2 (by omega), rA2 (by omega), rA2 (by omega), yS_ne (by omega) (by omega)]; exact d4
          · rw [rI2 (by omega), rI2 (by omega), rA2 (by omega), rA2 (by omega), yS_ne (by omega) (by omega)]; exact d5 Y p c' q n r
          · rw [rI2 (by omega), rI2 (by omega), rA2 (by omega), rA2 (by omega), yS_ne (by omega) (by omega)]; exact d6 c' q
          · rw [rI2 (by omega), rI2 (by omega), rA2 (by omega), rA1]
            rw [hY] at p
            by_cases ey : y = c
            · rw [pk_cpy_in (by omega) (by omega), show 0 + (y * 12 + c' - c * 12) = c' by omega]
              have := yS_c (m := ys m i) q
              rw [hct, ← ey] at this
              rw [this]; exact d6 c' q
            · rw [pk_cpy_out (by omega), yS_ne (by omega) (by omega)]
              exact d7 y (by omega) c' q
          · rw [rI2 (by omega), rI2 (by omega), rA2 (by omega), rA2 (by omega), yS_ne (by omega) (by omega)]; exact d8 s q
          · rw [rI2 (by omega), rI2 (by omega), rA1, ce_sA _ _ _ _ (show (13 : Nat) ≠ 12 by omega), ce_sA _ _ _ _ (show (14 : Nat) ≠ 12 by omega)]
            rw [hY] at p
            by_cases ey : y = c
            · rw [pk_cpy_in (by omega) (by omega), show 0 + (y * 2 + s - c * 2) = s by omega]
              have := yS_s (m := ys m i) q
              rw [hct, ← ey] at this
              rw [this]; exact d8 s q
            · rw [pk_cpy_out (by omega), yS_ne (by omega) (by omega)]
              exact d9 y (by omega) s q
          · rw [yS_ne (by omega) (by omega)] at p
            rw [rI2 (by omega), rI2 (by omega), rA2 (by omega), rA2 (by omega), rI2 (by omega), rI2 (by omega), rA2 (by omega), rA2 (by omega), yS_ne (by omega) (by omega), yS_ne (by omega) (by omega)]
            exact d10 k p
          · rw [yS_ne (by omega) (by omega)] at p
            rw [rI2 (by omega), rI2 (by omega), rA2 (by omega), rA2 (by omega), rI2 (by omega), rI2 (by omega), rA2 (by omega), rA2 (by omega), rI2 (by omega), rI2 (by omega), rA2 (by omega), rA2 (by omega), yS_ne (by omega) (by omega), yS_ne (by omega) (by omega), yS_ne (by omega) (by omega)]
            exact d11 k p
        · rw [hmm, hYn, (hrn (c + 1) (by omega)).1]
          intro Y hY' g hg n hn'
          rw [rI2 (by omega), rI2 (by omega), rA2 (by omega), rA2 (by omega)]
          exact uB.2.1 Y (by omega) g hg n hn'
        · rw [hmm, hYn, (hrn (c + 1) (by omega)).1]
          intro y hy c' hc'
          rw [gL_sI, gL_sI, gL_sA, gL_sA]
          exact uB.2.2.1 y (by omega) c' hc'
        · rw [hmm, hYn, (hrn (c + 1) (by omega)).1]
          intro n hn'
          rw [rI2 (by omega), rI2 (by omega), rA2 (by omega), rA2 (by omega), show 40 + (c + 1) = 41 + c by omega]
          exact uB.2.2.2.1 n hn'
        · intro _
          rw [hmm, rI2 (by omega), rI2 (by omega), rA2 (by omega), rA2 (by omega), hY, show ys m i 0 + 1 - 1 = (c : Int) by omega]
          exact uB.1
        · intro y hy
          rw [hmm, hY] at hy
          rw [hmm, (hrn y (by omega)).2 (by omega), rI2 (by omega)]
          by_cases ey : y = c
          · subst ey; rw [rI1]; rfl
          · rw [rI3 ey, rA2 (by omega), rA2 (by omega), Eqx_gI uE' (by simp)]
            exact t15 y (by omega)
        · rw [rI2 (by omega), rI2 (by omega), rA2 (by omega), rA2 (by omega)]; exact u6
        · rw [rI2 (by omega), rI2 (by omega), rA2 (by omega), rA2 (by omega)]; exact u7
    · simp only [CE, List.mem_cons, List.not_mem_nil, or_false] at hq; simp; omega
