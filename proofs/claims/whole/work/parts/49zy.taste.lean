/-! taste: a taste more -/
def T1 (T : TT) (k nr ps : Nat) (cl : Cls) : TT := (fun t => if t = k then (nr : Int) else T.1 t, fun t => if t = k then (ps : Int) else T.2.1 t, fun t => if t = k then (fun w => woC w cl 0) else T.2.2.1 t, fun t => if t = k then (fun w => baC w cl false) else T.2.2.2 t)
theorem T1_n {T : TT} {k nr ps t : Nat} {cl : Cls} (h : t ≠ k) : nrT (T1 T k nr ps cl) t = nrT T t ∧ psT (T1 T k nr ps cl) t = psT T t ∧ woT (T1 T k nr ps cl) t = woT T t ∧ baT (T1 T k nr ps cl) t = baT T t := by
  unfold nrT psT T1
  refine ⟨if_neg h, if_neg h, ?_, ?_⟩
  · funext w; unfold woT; simp only; rw [if_neg h]
  · funext w; unfold baT; simp only; rw [if_neg h]
theorem T1_k {T : TT} {k nr ps : Nat} {cl : Cls} : nrT (T1 T k nr ps cl) k = nr ∧ psT (T1 T k nr ps cl) k = ps ∧ (∀ w, woT (T1 T k nr ps cl) k w = woC w cl 0) ∧ (∀ w, baT (T1 T k nr ps cl) k w = baC w cl false) := by
  unfold nrT psT T1
  refine ⟨if_pos rfl, if_pos rfl, fun w => ?_, fun w => ?_⟩
  · unfold woT; simp only; rw [if_pos trivial]
  · unfold baT; simp only; rw [if_pos trivial]
theorem RTs_we {σ τ : St} {t : Nat} {cl : Cls} (h : RTs σ t cl) (e : RWe t σ τ) : RTs τ t cl := by
  obtain ⟨h1, h2, h3, h4, h5, h6⟩ := h
  exact ⟨by rw [e.1]; exact h1, h2, h3, h4, fun i hi => by rw [(e.2.1 i (by omega)).1, (e.2.1 i (by omega)).2]; exact h5 i hi, fun j hj => by rw [(e.2.2 j (by omega)).1, (e.2.2 j (by omega)).2]; exact h6 j hj⟩
theorem RW_T1 {σ δ : St} {T : TT} {k nr ps : Nat} {cl : Cls} (hk6 : k < 6) (h : RW σ T (k : Int)) (hR : RTs δ k cl) (hg : GdC cl) (hold : ∀ t, t < k → RWe t σ δ) : RW δ (T1 T k nr ps cl) ((k : Int) + 1) := by
  intro t ht τ hτ w hw hc
  by_cases c : t = k
  · subst c
    have wb := woC_b hw cl 0 hg (by unfold bn9; omega)
    unfold bn9 at wb
    rw [T1_k.2.2.1 w, T1_k.2.2.2 w]
    exact ⟨by omega, fun post hp => rworth_ok (RTs_we hR hτ) hk6 hg hw hc hp, fun post hp => rbarred_ok (RTs_we hR hτ) hk6 hg hw hc hp⟩
  · have e := T1_n (T := T) (nr := nr) (ps := ps) (cl := cl) c
    rw [e.2.2.1, e.2.2.2]
    exact h t (by omega) τ (RWe_tr (hold t (by omega)) hτ) w hw hc
theorem CW_T1 {σ δ : St} {T : TT} {k nr ps : Nat} {cl : Cls} (hk6 : k < 6) (h : CW σ T (k : Int)) (e : ∀ q, 30 ≤ q → q ≤ 41 → q ≠ 30 + 2 * k → q ≠ 31 + 2 * k → δ q = σ q) (hg : GdC cl) (hnr : 1 ≤ nr ∧ nr ≤ 20) (hps : 1 ≤ ps ∧ ps ≤ 60) (hc2 : gI δ (30 + 2 * k) 2 = II nr) (hc3 : gI δ (30 + 2 * k) 3 = II ps) (hcd : CdC δ k (ccode cl)) (hcl : (ccode cl).length ≤ 300) : CW δ (T1 T k nr ps cl) ((k : Int) + 1) := by
  intro t ht
  by_cases c : t = k
  · subst c
    have tk := T1_k (T := T) (k := t) (nr := nr) (ps := ps) (cl := cl)
    rw [tk.1, tk.2.1]
    refine ⟨hc2, hc3, by omega, by omega, fun w hw => ?_, fun τ e1 e2 h5 w n f hw hn hh hf post hp => ?_⟩
    · rw [tk.2.2.1 w]
      have wb := woC_b hw cl 0 hg (by unfold bn9; omega)
      unfold bn9 at wb; omega
    · rw [tk.2.2.1 w, tk.2.2.2 w] at hp
      refine cweigh_ok (t := t) (cl := cl) (fb := f) ⟨h5, hk6, hn, ⟨by rw [gI_of e1]; exact hcd.1, fun j hj => ?_⟩, hcl, hw, hh⟩ hg hf hp
      rw [show 31 + 2 * t = 30 + 2 * t + 1 by omega, gI_of e2, show 30 + 2 * t + 1 = 31 + 2 * t by omega]
      exact hcd.2 j hj
  · have ee := T1_n (T := T) (nr := nr) (ps := ps) (cl := cl) c
    obtain ⟨h1, h2, h3, h4, h5, h6⟩ := h t (by omega)
    have e1 := e (30 + 2 * t) (by omega) (by omega) (by omega) (by omega)
    have e2 := e (30 + 2 * t + 1) (by omega) (by omega) (by omega) (by omega)
    rw [ee.1, ee.2.1, ee.2.2.1, ee.2.2.2]
    exact ⟨by rw [gI_of e1]; exact h1, by rw [gI_of e1]; exact h2, h3, h4, h5, fun υ a b => h6 υ (a.trans e1) (b.trans e2)⟩
theorem Inv_taste {σ δ : St} {m mi : MT} {U : Nat → Nat} {T : TT} {k nr ps : Nat} {cl : Cls} (hA : IvA σ m mi U T) (hB : IvB σ m mi U T) (hk : m 4 = (k : Int)) (hk6 : k < 6)
    (e : ∀ q, (1 ≤ q ∧ q ≤ 29 ∨ (30 ≤ q ∧ q ≤ 41 ∧ q ≠ 30 + 2 * k ∧ q ≠ 31 + 2 * k) ∨ 47 ≤ q ∧ q ≤ 74 ∨ 77 ≤ q ∧ q ≤ 78) → δ q = σ q)
    (h05 : gI δ 0 5 = II ((k : Int) + 1)) (hR : RTs δ k cl) (hg : GdC cl) (hold : ∀ t, t < k → RWe t σ δ ∧ gI δ 83 t = gI σ 83 t ∧ gI δ 84 t = gI σ 84 t) (h83 : gI δ 83 k = II nr) (h84 : gI δ 84 k = II ps) (hnr : 1 ≤ nr ∧ nr ≤ 20) (hps : 1 ≤ ps ∧ ps ≤ 60) (hc2 : gI δ (30 + 2 * k) 2 = II nr) (hc3 : gI δ (30 + 2 * k) 3 = II ps) (hcd : CdC δ k (ccode cl)) (hcl : (ccode cl).length ≤ 300)
    (h76 : ∀ i, i ≠ 4 → gI δ 76 i = gI σ 76 i) (h764 : gI δ 76 4 = II ((k : Int) + 1)) (hT : TPs δ) : Inv δ := by
  have hW := hA.2.2.1
  have hZ := hA.2.2.2.2.1
  have hPW := hA.2.2.2.2.2.2.1
  obtain ⟨b1, b2, b3, b4, b5, b6, b7, b8, b9, b10, b11⟩ := id hB
  have hTE : TE T (T1 T k nr ps cl) (m 4) := fun t ht => T1_n (by omega)
  have m4 : mu m 4 ((k : Int) + 1) 4 = (k : Int) + 1 := mu_eq _ _ _
  have hmn : ∀ t y c : Nat, c < 12 → mny (KB (mu m 4 ((k : Int) + 1)) U (T1 T k nr ps cl) (-1) false t) y c = mny (KB m U T (-1) false t) y c := by
    intro t y c hc
    show (if y < (mu m 4 ((k : Int) + 1) 0).toNat then mu m 4 ((k : Int) + 1) (1000 + 14 * y + c) else mu m 4 ((k : Int) + 1) (10 + c)) = (if y < (m 0).toNat then m (1000 + 14 * y + c) else m (10 + c))
    simp (disch := omega) only [mu_ne]
  rw [hk] at b2 b4
  refine Inv_step (m' := mu m 4 ((k : Int) + 1)) (U' := U) (T' := T1 T k nr ps cl) hA hB (mu_ne (by omega)) ⟨by simp (disch := omega) only [mu_ne]; exact Int.le_refl _, by simp (disch := omega) only [mu_ne]; exact Int.le_refl _, by simp (disch := omega) only [mu_ne]; exact Int.le_refl _, by simp (disch := omega) only [mu_ne]; exact Int.le_refl _, by rw [m4]; omega, by simp (disch := omega) only [mu_ne]; exact Int.le_refl _, fun n hn => ⟨by simp (disch := omega) only [mu_ne], by simp (disch := omega) only [mu_ne]⟩, fun n h1 h2 => by simp (disch := omega) only [mu_ne] at h2; omega, fun k hk => ⟨by simp (disch := omega) only [mu_ne], by simp (disch := omega) only [mu_ne]⟩, fun k h1 h2 => by simp (disch := omega) only [mu_ne] at h2; omega, fun k hk => ⟨by simp (disch := omega) only [mu_ne], by simp (disch := omega) only [mu_ne], by simp (disch := omega) only [mu_ne]⟩, fun k h1 h2 => by simp (disch := omega) only [mu_ne] at h2; omega, fun y hy c hc => by simp (disch := omega) only [mu_ne], fun k hk j hj => by simp (disch := omega) only [mu_ne], fun k hk => by simp (disch := omega) only [mu_ne]⟩ ⟨by simp (disch := omega) only [mu_ne], fun Y hY c hc n hn => by simp (disch := omega) only [mu_ne]⟩ ?_ (fun Y hY c hc n hn h1 => by simp (disch := omega) only [mu_ne] at h1; simp (disch := omega) only [mu_ne]; exact hZ Y hY c hc n hn h1) ?_ hTE (fun _ _ => rfl) ?_ (e 77 (by omega)) (NMs_c b1 (fun q p1 p2 => e q (by omega)) (e 78 (by omega)) (mu_ne (by omega)) (fun n hn => ⟨mu_ne (by omega), mu_ne (by omega)⟩)) ?_ ?_ ?_ ?_ ?_ (fun q p1 p2 => e q (by omega)) (e 15 (by omega)) (PRs_c b7 (fun q p1 p2 => e q (by omega)) (by rw [gI_of (e 64 (by omega))]) (by simp (disch := omega) only [mu_ne]) (fun k hk j hj => by simp (disch := omega) only [mu_ne])) (RUs_m b8 (by rw [gI_of (e 64 (by omega))]) (e 69 (by omega)) (by rw [m4]; omega) (fun t ht => run_by_eq hW (by simp (disch := omega) only [mu_ne]) (by simp (disch := omega) only [mu_ne]) (by simp (disch := omega) only [mu_ne]) (by simp (disch := omega) only [mu_ne]) (fun n hn => ⟨by simp (disch := omega) only [mu_ne], by simp (disch := omega) only [mu_ne]⟩) (fun k hk => ⟨by simp (disch := omega) only [mu_ne], by simp (disch := omega) only [mu_ne]⟩) (fun k hk => ⟨by simp (disch := omega) only [mu_ne], by simp (disch := omega) only [mu_ne], by simp (disch := omega) only [mu_ne]⟩) (fun Y hY c hc n hn => by simp (disch := omega) only [mu_ne]) (fun y hy c hc => hmn t y c hc) hTE ht)) ⟨by rw [gI_of (e 47 (by omega))], by rw [gI_of (e 47 (by omega))]⟩ hT (fun q p1 p2 => e q (by omega))
  · obtain ⟨w0, w1, w2, w3, w4, w5, w6, w7, w8, w9, w10, w11, w12, w13⟩ := hW
    refine ⟨by simp (disch := omega) only [mu_ne]; exact w0, by simp (disch := omega) only [mu_ne]; exact w1, by simp (disch := omega) only [mu_ne]; exact w2, by simp (disch := omega) only [mu_ne]; exact w3, by rw [m4]; omega, by simp (disch := omega) only [mu_ne]; exact w5, by simp (disch := omega) only [mu_ne]; exact w6, fun s hs => ?_, fun c hc => by simp (disch := omega) only [mu_ne]; exact w8 c hc, fun n hn => ?_, fun k hk => ?_, fun k hk => ?_, fun y hy => ?_, fun Y hY c hc n hn => by simp (disch := omega) only [mu_ne]; exact w13 Y hY c hc n hn⟩
    · rw [m4, mu_ne (by omega)]; have := w7 s hs; omega
    · rw [mu_ne (by omega)] at hn
      simp (disch := omega) only [mu_ne]; exact w9 n hn
    · rw [mu_ne (by omega)] at hk
      simp (disch := omega) only [mu_ne]; exact w10 k hk
    · rw [mu_ne (by omega)] at hk
      simp (disch := omega) only [mu_ne]; exact w11 k hk
    · rw [mu_ne (by omega)] at hy
      refine ⟨fun c hc => by simp (disch := omega) only [mu_ne]; exact (w12 y hy).1 c hc, fun s hs => ?_⟩
      rw [m4, mu_ne (by omega)]; have := (w12 y hy).2 s hs; omega
  · intro k hk
    rw [mu_ne (by omega)] at hk
    simp (disch := omega) only [mu_ne]; exact hPW k hk
  · intro i
    by_cases c : i = 4
    · rw [c, h764, m4]
    · rw [h76 i c, mu_ne c]; exact hA.1 i
  · rw [m4]
    intro t ht
    by_cases c : t = k
    · have tk := T1_k (T := T) (k := k) (nr := nr) (ps := ps) (cl := cl)
      rw [c, tk.1, tk.2.1]
      exact ⟨h83, h84, by omega, by omega, by omega, by omega⟩
    · have tn := T1_n (T := T) (nr := nr) (ps := ps) (cl := cl) c
      rw [tn.1, tn.2.1, (hold t (by omega)).2.1, (hold t (by omega)).2.2]
      exact b2.1 t (by omega)
  · rw [m4]
    exact RW_T1 hk6 b2.2 hR hg (fun t ht => (hold t ht).1)
  · refine CL_c b3 (fun q hq => e q ?_) (mu_ne (by omega)) (mu_ne (by omega)) (mu_ne (by omega)) (mu_ne (by omega)) (fun Y p c q n r => mu_ne (by omega)) (fun c q => mu_ne (by omega)) (fun y p c q => mu_ne (by omega)) (fun s q => mu_ne (by omega)) (fun k p => ⟨mu_ne (by omega), mu_ne (by omega)⟩) (fun k p => ⟨mu_ne (by omega), mu_ne (by omega), mu_ne (by omega)⟩)
    simp only [CE, List.mem_cons, List.not_mem_nil, or_false] at hq; omega
  · rw [m4]
    exact CW_T1 hk6 b4.1 (fun q p1 p2 p3 p4 => e q (by omega)) hg hnr hps hc2 hc3 hcd hcl
  · rw [m4]; exact h05
/-! the bounds of near and past, the length of the code -/
theorem np_all {K V : Nat → Nat} : ∀ f p cl nr ps r, (1 ≤ nr ∧ nr ≤ 20) → (1 ≤ ps ∧ ps ≤ 60) → pAll K V f p cl nr ps = .inl r → (1 ≤ r.2.1 ∧ r.2.1 ≤ 20) ∧ (1 ≤ r.2.2 ∧ r.2.2 ≤ 60) := by
  intro f
  induction f with
  | zero => intro p cl nr ps r _ _ h; exact absurd h (by simp [pAll])
  | succ f ih =>
    intro p cl nr ps r hn hp h
    simp only [pAll] at h
    split at h
    · rw [Sum.inl.injEq] at h; rw [← h]; exact ⟨hn, hp⟩
    split at h
    · exact absurd h (by simp)
    rename_i kk
    split at h
    · exact absurd h (by simp)
    split at h
    · exact absurd h (by simp)
    split at h
    · rename_i u hu
      have w : K p = 0 ∨ K p = 16 → 1 ≤ V (p + 1) ∧ V (p + 1) ≤ (if K p = 0 then 20 else 60) := fun c => by
        unfold pCl at hu
        rw [if_neg (by omega), if_neg (by omega)] at hu
        obtain ⟨a, b, h1, h2, h3⟩ := bd_inl (q := u.1) (c := u.2) hu
        unfold pWn at h1
        by_cases c1 : K (p + 1) = 36
        · rw [if_pos c1] at h1
          by_cases c2 : 1 ≤ V (p + 1) ∧ V (p + 1) ≤ (if K p = 0 then 20 else 60)
          · exact c2
          · rw [if_neg c2] at h1; exact absurd h1 (by simp)
        · rw [if_neg c1] at h1; exact absurd h1 (by simp)
      refine ih _ _ _ _ _ ?_ ?_ h
      · split
        · rename_i c; have := w (Or.inl c); rw [if_pos c] at this; exact this
        · exact hn
      · split
        · rename_i c; have := w (Or.inr c); rw [if_neg (by omega)] at this; exact this
        · exact hp
    · exact absurd h (by simp)
theorem ccode_len : ∀ cl : Cls, (ccode cl).length ≤ (ords cl).length := by
  intro cl
  induction cl with
  | nil => exact Nat.le_refl _
  | cons x l ih =>
    show (mk1 x ++ ccode l).length ≤ (roL x.2 ++ [(408, 0)] ++ ords l).length
    have : (mk1 x).length ≤ x.2.length + 1 := by unfold mk1; split <;> simp
    simp only [List.length_append, roL_len, List.length_singleton]
    omega
theorem Inv_fault {σ δ : St} {m mi : MT} {U : Nat → Nat} {T : TT} {k : Nat} (hA : IvA σ m mi U T) (hB : IvB σ m mi U T) (hk : m 4 = (k : Int)) (hk6 : k < 6)
    (e : ∀ q, (q ≤ 29 ∨ (30 ≤ q ∧ q ≤ 41 ∧ q ≠ 30 + 2 * k ∧ q ≠ 31 + 2 * k) ∨ 47 ≤ q ∧ q ≤ 74 ∨ 76 ≤ q ∧ q ≤ 86) → δ q = σ q) (hT : TPs δ) : Inv δ := by
  obtain ⟨b1, b2, b3, b4, b5, b6, b7, b8, b9, b10, b11⟩ := hB
  refine ⟨m, mi, U, T, ⟨fun j => by rw [gI_of (e 76 (by omega))]; exact hA.1 j, fun j => by rw [gI_of (e 77 (by omega))]; exact hA.2.1 j, hA.2.2⟩, NMs_c b1 (fun q p1 p2 => e q (by omega)) (e 78 (by omega)) rfl (fun _ _ => ⟨rfl, rfl⟩), ⟨NP_c b2.1 (e 83 (by omega)) (e 84 (by omega)), RW_eq b2.2 (fun q p1 p2 => e q (by omega))⟩, CL_eq b3 (fun q hq => e q ?_), ⟨fun t ht => ?_, by rw [gI_of (e 0 (by omega))]; exact b4.2⟩, Bk_eq b5 (fun q p1 p2 => e q (by omega)), fun y hy => by rw [gI_of (e 15 (by omega))]; exact b6 y hy, PRs_c b7 (fun q p1 p2 => e q (by omega)) (by rw [gI_of (e 64 (by omega))]) rfl (fun _ _ _ _ => rfl), RUs_c b8 (by rw [gI_of (e 64 (by omega))]) (e 69 (by omega)), ⟨by rw [gI_of (e 47 (by omega))]; exact b9.1, by rw [gI_of (e 47 (by omega))]; exact b9.2⟩, hT, IMs_c b11 (fun q p1 p2 => e q (by omega))⟩
  · simp only [CE, List.mem_cons, List.not_mem_nil, or_false] at hq; omega
  · obtain ⟨h1, h2, h3, h4, h5, h6⟩ := b4.1 t ht
    have e1 := e (30 + 2 * t) (by omega)
    have e2 := e (30 + 2 * t + 1) (by omega)
    exact ⟨by rw [gI_of e1]; exact h1, by rw [gI_of e1]; exact h2, h3, h4, h5, fun υ a b => h6 υ (a.trans e1) (b.trans e2)⟩
theorem taste_ok {σ : St} (h : Inv σ) : wpX11_taste σ (fun r τ => wpX12_taste τ (Q2 r)) := by
  obtain ⟨m, mi, U, T, hA, hB⟩ := id h
  have hW := hA.2.2.1
  have w4 := hW.2.2.2.2.1
  have h05 := hB.2.2.2.1.2
  have m4 : gI σ 76 4 = II (m 4) := hA.1 4
  obtain ⟨l, l3, t42, t75, tb, t5, t6⟩ := hB.2.2.2.2.2.2.2.2.2.1
  unfold wpX11_taste
  rw [h05, show (6 : Int32) = II 6 from rfl, I_le (by omega)]
  refine ⟨fun z => ?_, fun z => ?_⟩
  · have e6 : m 4 = 6 := by omega
    show wpX12_taste σ (Q2 (-1))
    unfold wpX12_taste
    rw [show (4 : Int32).toNatClampNeg = 4 from rfl, m4, e6]
    exact ⟨of_eq_true (I_in (a := 4) (by omega)), fun y => absurd rfl y, fun _ => ⟨rfl, h⟩⟩
  · obtain ⟨k, hk⟩ : ∃ k : Nat, m 4 = (k : Int) := ⟨(m 4).toNat, by omega⟩
    have hk6 : k < 6 := by omega
    rw [hk] at m4 h05 ⊢
    rw [I_cl (by omega), Int.toNat_natCast]
    refine ⟨of_eq_true (I_in (by omega)), ?_⟩
    obtain ⟨b, eb⟩ : ∃ b : Nat → Nat, b = fun j => (gI σ 43 j).toInt.toNat := ⟨_, rfl⟩
    have hb : ∀ j, j < l → gI σ 43 j = II (b j) ∧ b j < 256 ∧ gI σ 79 j = II (xb (b j)) := fun j hj => by
      obtain ⟨x, x1, x2, x3⟩ := tb j hj
      have ex : b j = x := by rw [eb]; simp only; rw [x2, I_toInt (by omega)]; omega
      rw [ex]
      exact ⟨x2, x1, by rw [x3, xb_ok x1]⟩
    clear eb tb
    obtain ⟨N, N1, N2, N3⟩ := tN_ex b l
    have hT := tk_Tk l3 N1 N2 N3
    have n3 := hT.2.1
    refine read_ok (K := tK b l) (V := tV b l) (S := tS b l) (N := N) hk6 hT (fun υ e43 e42 post hp => cut_ok (b := b) (l := l) ⟨l3, by rw [e42]; exact t42, fun j hj => by rw [gI_of e43]; exact ⟨(hb j hj).1, (hb j hj).2.1⟩⟩ N1 N2 N3 hp) (fun r hr τ tE u1 u2 u3 u4 u5 u6 => ?_) (fun e he τ tE u1 u2 u3 u4 => ?_)
    · have o0 : gI τ 0 5 = II k := by rw [Eqx_gI tE (by simp; omega)]; exact h05
      refine ⟨fun _ => ?_, fun y => absurd y (by decide)⟩
      simp only [fe]
      rw [rI1, o0, show (1 : Int32) = II 1 from rfl, I_add, I_sub, show (k : Int) + 1 - 1 = (k : Int) by omega]
      obtain ⟨ρ, eρ⟩ : ∃ ρ, ρ = sI τ 0 5 (II ((k : Int) + 1)) := ⟨_, rfl⟩
      rw [← eρ]
      have rE : Eqx [0] τ ρ := by rw [eρ]; exact Eqx_tI (Eqx.refl _ _) (by simp)
      have r05 : gI ρ 0 5 = II ((k : Int) + 1) := by rw [eρ, rI1]
      clear eρ
      have sr : ∀ q, 47 ≤ q → ρ q = σ q := fun q hq => by rw [← rE q (by simp; omega), ← tE q (by simp; omega)]
      have rb : ∀ j, j < l → gI ρ 79 j = II (xb (b j)) ∧ b j < 256 := fun j hj => by rw [gI_of (sr 79 (by omega))]; exact ⟨(hb j hj).2.2, (hb j hj).2.1⟩
      refine rtaste_ok l3 (by rw [gI_of (sr 75 (by omega))]; exact t75) rb N1 N2 N3 hk6 (by rw [gI_of (sr 76 (by omega))]; exact m4) (fun r2 hr2 hlen δ dE d1 d2 d3 d4 d5 d6 d7 d8 d9 => ?_) (fun e he => ?_)
      · rw [hr, Sum.inl.injEq] at hr2
        rw [← hr2] at d1 d3 d4 hlen
        refine ⟨rfl, ?_⟩
        have dr : ∀ q, q ≤ 74 → δ q = ρ q := fun q hq => (dE q (by simp [MC, TC]; omega)).symm
        have dt : ∀ q, 1 ≤ q → q ≤ 74 → δ q = τ q := fun q h1 h2 => by rw [dr q h2, ← rE q (by simp; omega)]
        obtain ⟨np1, np2⟩ := np_all _ _ _ _ _ _ (by omega) (by omega) hr
        refine Inv_taste (cl := r.1) (nr := r.2.1) (ps := r.2.2) hA hB hk hk6 (fun q hq => ?_) (by rw [gI_of (dr 0 (by omega))]; exact r05) d1 (GdC_all _ _ _ _ _ _ (fun x hx => absurd hx (by simp)) hr) (fun t ht => ?_) d3 d4 np1 np2 (by rw [gI_of (dt _ (by omega) (by omega))]; exact u4) (by rw [gI_of (dt _ (by omega) (by omega))]; exact u5) ⟨by rw [gI_of (dt _ (by omega) (by omega))]; exact u6.1, fun j hj => by rw [gI_of (dt _ (by omega) (by omega))]; exact u6.2 j hj⟩ (Nat.le_trans (ccode_len _) hlen) (fun i hi => by rw [d5 i hi, gI_of (sr 76 (by omega))]) d6 ⟨0, by omega, by rw [gI_of (dt 42 (by omega) (by omega))]; exact u1, d7, fun j hj => absurd hj (by omega), by rw [gI_of (dt 42 (by omega) (by omega)), u2, d8], by rw [gI_of (dt 42 (by omega) (by omega)), u3, d9]⟩
        · by_cases c : q ≤ 74
          · rw [dt q (by omega) c, ← tE q (by simp; omega)]
          · rw [← dE q (by simp [MC, TC]; omega)]; exact sr q (by omega)
        · obtain ⟨x1, x2, x3⟩ := d2 t ht
          exact ⟨RWe_tr (RWe_of (fun q a c => sr q (by omega))) x1, by rw [x2, gI_of (sr 83 (by omega))], by rw [x3, gI_of (sr 84 (by omega))]⟩
      · rw [hr] at he; exact absurd he (by simp)
    · refine ⟨fun y => absurd rfl y, fun _ => ?_⟩
      have sr : ∀ q, 47 ≤ q → τ q = σ q := fun q hq => (tE q (by simp; omega)).symm
      have rb : ∀ j, j < l → gI τ 79 j = II (xb (b j)) ∧ b j < 256 := fun j hj => by rw [gI_of (sr 79 (by omega))]; exact ⟨(hb j hj).2.2, (hb j hj).2.1⟩
      refine rtaste_ok l3 (by rw [gI_of (sr 75 (by omega))]; exact t75) rb N1 N2 N3 hk6 (by rw [gI_of (sr 76 (by omega))]; exact m4) (fun r hr => ?_) (fun e2 he2 δ dE d1 d2 d3 => ?_)
      · rw [he] at hr; exact absurd hr (by simp)
      · rw [he, Sum.inr.injEq] at he2
        rw [← he2] at d2 d3
        refine ⟨rfl, ?_⟩
        have dt : ∀ q, q ≤ 74 ∨ 76 ≤ q ∧ q ≤ 86 → δ q = τ q := fun q hq => (dE q (by simp [MC]; omega)).symm
        refine Inv_fault hA hB hk hk6 (fun q hq => ?_) ⟨0, by omega, by rw [gI_of (dt 42 (by omega))]; exact u1, d1, fun j hj => absurd hj (by omega), by rw [gI_of (dt 42 (by omega)), u2, d2], by rw [gI_of (dt 42 (by omega)), u3, d3]⟩
        rw [dt q (by omega), ← tE q (by simp; omega)]
