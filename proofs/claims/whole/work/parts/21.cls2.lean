theorem heard_ok {σ : St} {K : KT} {G : GV} {k0 t y p s x n i : Nat} {post : Int32 → St → Prop} (h : CN σ K) (hL : CL σ K.1) (hW : WFm K.1) (hJ : Jd σ K k0 t y p s x) (hB : Bk σ k0 G y) (hk0 : k0 < 2) (hp3 : p < 3) (hs : s < 2) (hn : n < kn K) (ht : t < 6) (hw : -1 ≤ kw K ∧ kw K < 8)
    (hnr : gI σ (30 + 2 * t) 2 = II (nrT (kT K) t)) (hps : gI σ (30 + 2 * t) 3 = II (psT (kT K) t)) (hnr2 : 1 ≤ nrT (kT K) t ∧ nrT (kT K) t ≤ 20) (hps2 : 1 ≤ psT (kT K) t ∧ psT (kT K) t ≤ 60) (hi : i < 14)
    (hp : post (II (wv K G (40 + y) p s n t i)) σ) : wpX3_heard (II i) (II n) σ post := by
  have w1 := hW.2.1
  have w6 := hW.2.2.2.2.2.2.1
  have kn16 : kn K ≤ 16 := by unfold kn; omega
  have hy : y ≤ 60 := hB.2.2.2.2.2
  have e96 := hL.2.1
  obtain ⟨j5, j8, j9, j10, j11, -, -, j6, j7⟩ := id hJ
  have h3 := (h.2.1 n hn).2.2.1
  unfold wpX3_heard
  refine ⟨t, j5, ht, ?_⟩
  have A0 : ((y : Int) - nrT (kT K) t + 1 + 40).toNat = (((40 + y : Nat) : Int) - nrT (kT K) t + 1).toNat := by omega
  have A1 : ((y : Int) + 41).toNat = 40 + y + 1 := by omega
  have A2 : ((y : Int) - K.1 6 + 1 + 40).toNat = (((40 + y : Nat) : Int) - K.1 6 + 1).toNat := by omega
  have A3 : ((y : Int) - psT (kT K) t + 41).toNat = (((40 + y : Nat) : Int) - psT (kT K) t + 1).toNat := by omega
  have bt : ∀ g : Nat, g < 7 → ∀ (f t : Int) (post : Int32 → St → Prop), -1000 ≤ f ∧ f ≤ 1000 → -1000 ≤ t ∧ t ≤ 1000 → post (II (rg (gy G g n) (f + 40).toNat (t + 41).toNat)) σ → wpX0_between k0 (II g) (II n) (II f) (II t) σ post := fun g hg f t post a b c => between_ok hB hg (by omega) a b c
  have b0 : ∀ post : Int32 → St → Prop, post (II (rg (gy G p n) (((40 + y : Nat) : Int) - nrT (kT K) t + 1).toNat (40 + y + 1))) σ → wpX0_between k0 (II (0 + p)) (II n) (II ((y : Int) - nrT (kT K) t + 1)) (II y) σ post := by
    intro post hh
    rw [show (0 + (p : Int)) = (p : Int) by omega]
    exact bt p (by omega) _ _ _ (by omega) (by omega) (by rw [A0, A1]; exact hh)
  have b6 : ∀ post : Int32 → St → Prop, post (II (rg (gy G 6 n) (((40 + y : Nat) : Int) - nrT (kT K) t + 1).toNat (40 + y + 1))) σ → wpX0_between k0 (II 6) (II n) (II ((y : Int) - nrT (kT K) t + 1)) (II y) σ post := fun post hh => bt 6 (by omega) _ _ _ (by omega) (by omega) (by rw [A0, A1]; exact hh)
  have b3 : ∀ post : Int32 → St → Prop, post (II (rg (gy G 3 n) (((40 + y : Nat) : Int) - nrT (kT K) t + 1).toNat (40 + y + 1))) σ → wpX0_between k0 (II 3) (II n) (II ((y : Int) - nrT (kT K) t + 1)) (II y) σ post := fun post hh => bt 3 (by omega) _ _ _ (by omega) (by omega) (by rw [A0, A1]; exact hh)
  have b3s : ∀ post : Int32 → St → Prop, post (II (rg (gy G (3 + s) n) (((40 + y : Nat) : Int) - nrT (kT K) t + 1).toNat (40 + y + 1))) σ → wpX0_between k0 (II (3 + s)) (II n) (II ((y : Int) - nrT (kT K) t + 1)) (II y) σ post := by
    intro post hh
    rw [show (3 + (s : Int)) = ((3 + s : Nat) : Int) by omega]
    exact bt (3 + s) (by omega) _ _ _ (by omega) (by omega) (by rw [A0, A1]; exact hh)
  have c5 : ∀ post : Int32 → St → Prop, post (II (rg (gy G 5 n) (((40 + y : Nat) : Int) - K.1 6 + 1).toNat (40 + y + 1))) σ → wpX0_between k0 (II 5) (II n) (II ((y : Int) - K.1 6 + 1)) (II y) σ post := fun post hh => bt 5 (by omega) _ _ _ (by omega) (by omega) (by rw [A2, A1]; exact hh)
  have c6 : ∀ post : Int32 → St → Prop, post (II (rg (gy G 6 n) (((40 + y : Nat) : Int) - K.1 6 + 1).toNat (40 + y + 1))) σ → wpX0_between k0 (II 6) (II n) (II ((y : Int) - K.1 6 + 1)) (II y) σ post := fun post hh => bt 6 (by omega) _ _ _ (by omega) (by omega) (by rw [A2, A1]; exact hh)
  have d6 : ∀ post : Int32 → St → Prop, post (II (rg (gy G 6 n) (((40 + y : Nat) : Int) - K.1 6 + 1).toNat (((40 + y : Nat) : Int) - psT (kT K) t + 1).toNat)) σ → wpX0_between k0 (II 6) (II n) (II ((y : Int) - K.1 6 + 1)) (II ((y : Int) - psT (kT K) t)) σ post := fun post hh => bt 6 (by omega) _ _ _ (by omega) (by omega) (by rw [A2, A3]; exact hh)
  have y1 : ∀ (d : Nat), d ≤ 2 → ∀ post : Int32 → St → Prop, post (II (gt G (40 + y - d) 6 n)) σ → wpX0_between k0 (II 6) (II n) (II ((y : Int) - d)) (II ((y : Int) - d)) σ post := by
    intro d hd post hh
    refine bt 6 (by omega) _ _ _ (by omega) (by omega) ?_
    rw [show ((y : Int) - d + 40).toNat = 40 + y - d by omega, show ((y : Int) - d + 41).toNat = 40 + y - d + 1 by omega, rg_one]
    exact hh
  clear A0 A1 A2 A3 bt
  rw [hnr, j9, e96, j10, j11, j6, j7]
  match i, hi with
  | 0, _ =>
    simp (disch := omega) only [fe, I_lit, I_sub, I_add, I_eq]
    exact ⟨fun _ => ⟨k0, j8, hk0, b0 _ hp⟩, fun z => absurd rfl z⟩
  | 1, _ =>
    simp (disch := omega) only [fe, I_lit, I_sub, I_add, I_eq]
    refine ⟨fun z => absurd z (by omega), fun _ => ⟨fun _ => ⟨k0, j8, hk0, b6 _ ⟨k0, j8, hk0, ?_⟩⟩, fun z => absurd rfl z⟩⟩
    rw [j9, j10, I_add]
    refine b0 _ ?_
    rw [I_sub]; exact hp
  | 2, _ =>
    simp (disch := omega) only [fe, I_lit, I_sub, I_add, I_eq]
    refine ⟨fun z => absurd z (by omega), fun _ => ⟨fun z => absurd z (by omega), fun _ => ⟨fun _ => ⟨fun c => ⟨k0, j8, hk0, b3 _ ?_⟩, fun c => ?_⟩, fun z => absurd rfl z⟩⟩⟩
    · simp only [wv] at hp
      rw [if_neg (by omega)] at hp; exact hp
    · simp only [wv] at hp
      rw [if_pos (by omega)] at hp; exact hp
  | 3, _ =>
    simp (disch := omega) only [fe, I_lit, I_sub, I_add, I_eq]
    exact ⟨fun z => absurd z (by omega), fun _ => ⟨fun z => absurd z (by omega), fun _ => ⟨fun z => absurd z (by omega), fun _ => ⟨fun _ => ⟨k0, j8, hk0, b3s _ hp⟩, fun z => absurd rfl z⟩⟩⟩⟩
  | 4, _ =>
    simp (disch := omega) only [fe, I_lit, I_sub, I_add, I_eq]
    exact ⟨fun z => absurd z (by omega), fun _ => ⟨fun z => absurd z (by omega), fun _ => ⟨fun z => absurd z (by omega), fun _ => ⟨fun z => absurd z (by omega), fun _ => ⟨fun _ => ⟨k0, j8, hk0, c5 _ hp⟩, fun z => absurd rfl z⟩⟩⟩⟩⟩
  | 5, _ =>
    simp (disch := omega) only [fe, I_lit, I_sub, I_add, I_eq]
    refine ⟨fun z => absurd z (by omega), fun _ => ⟨fun z => absurd z (by omega), fun _ => ⟨fun z => absurd z (by omega), fun _ => ⟨fun z => absurd z (by omega), fun _ => ⟨fun z => absurd z (by omega), fun _ => ⟨fun _ => ⟨k0, j8, hk0, c6 _ ⟨k0, j8, hk0, ?_⟩⟩, fun z => absurd rfl z⟩⟩⟩⟩⟩⟩
    rw [j9]
    refine c5 _ ?_
    rw [I_sub]; exact hp
  | 6, _ =>
    simp (disch := omega) only [fe, I_lit, I_sub, I_add, I_eq]
    refine ⟨fun z => absurd z (by omega), fun _ => ⟨fun z => absurd z (by omega), fun _ => ⟨fun z => absurd z (by omega), fun _ => ⟨fun z => absurd z (by omega), fun _ => ⟨fun z => absurd z (by omega), fun _ => ⟨fun z => absurd z (by omega), fun _ => ⟨fun _ => ⟨k0, j8, hk0, t, j5, ht, ?_⟩, fun z => absurd rfl z⟩⟩⟩⟩⟩⟩⟩
    rw [hps, I_sub]
    exact d6 _ hp
  | 7, _ =>
    simp (disch := omega) only [fe, I_lit, I_sub, I_add, I_eq]
    exact ⟨fun z => absurd z (by omega), fun _ => ⟨fun z => absurd z (by omega), fun _ => ⟨fun z => absurd z (by omega), fun _ => ⟨fun z => absurd z (by omega), fun _ => ⟨fun z => absurd z (by omega), fun _ => ⟨fun z => absurd z (by omega), fun _ => ⟨fun z => absurd z (by omega), fun _ => ⟨fun _ => ⟨k0, j8, hk0, c6 _ hp⟩, fun z => absurd rfl z⟩⟩⟩⟩⟩⟩⟩⟩
  | 8, _ =>
    simp (disch := omega) only [fe, I_lit, I_sub, I_add, I_eq]
    refine ⟨fun z => absurd z (by omega), fun _ => ⟨fun z => absurd z (by omega), fun _ => ⟨fun z => absurd z (by omega), fun _ => ⟨fun z => absurd z (by omega), fun _ => ⟨fun z => absurd z (by omega), fun _ => ⟨fun z => absurd z (by omega), fun _ => ⟨fun z => absurd z (by omega), fun _ => ⟨fun z => absurd z (by omega), fun _ => ⟨fun _ => ⟨k0, j8, hk0, since_ok hB (by omega) (by omega) ?_⟩, fun z => absurd rfl z⟩⟩⟩⟩⟩⟩⟩⟩⟩
    simp only [wv] at hp
    rw [show ((40 + y : Nat) : Int) - 40 = y by omega, show 40 + y + 1 = 41 + y by omega] at hp
    exact hp
  | 9, _ =>
    simp (disch := omega) only [fe, I_lit, I_sub, I_add, I_eq]
    refine ⟨fun z => absurd z (by omega), fun _ => ⟨fun z => absurd z (by omega), fun _ => ⟨fun z => absurd z (by omega), fun _ => ⟨fun z => absurd z (by omega), fun _ => ⟨fun z => absurd z (by omega), fun _ => ⟨fun z => absurd z (by omega), fun _ => ⟨fun z => absurd z (by omega), fun _ => ⟨fun z => absurd z (by omega), fun _ => ⟨fun z => absurd z (by omega), fun _ => ⟨fun _ => ⟨k0, j8, hk0, y1 1 (by omega) _ ⟨k0, j8, hk0, ?_⟩⟩, fun z => absurd rfl z⟩⟩⟩⟩⟩⟩⟩⟩⟩⟩
    rw [j9, I_sub]
    refine y1 2 (by omega) _ ?_
    rw [I_sub]; exact hp
  | 10, _ =>
    simp (disch := omega) only [fe, I_lit, I_sub, I_add, I_eq]
    refine ⟨fun z => absurd z (by omega), fun _ => ⟨fun z => absurd z (by omega), fun _ => ⟨fun z => absurd z (by omega), fun _ => ⟨fun z => absurd z (by omega), fun _ => ⟨fun z => absurd z (by omega), fun _ => ⟨fun z => absurd z (by omega), fun _ => ⟨fun z => absurd z (by omega), fun _ => ⟨fun z => absurd z (by omega), fun _ => ⟨fun z => absurd z (by omega), fun _ => ⟨fun z => absurd z (by omega), fun _ => ⟨fun _ => ?_, fun z => absurd rfl z⟩⟩⟩⟩⟩⟩⟩⟩⟩⟩⟩
    cases hq : kq K with
    | false => exact ⟨fun _ => heardOfEnding_ok h hW hJ hB hk0 hn hq hp, fun z => absurd rfl z⟩
    | true =>
      refine ⟨fun z => ?_, fun _ => ?_⟩
      · simp (disch := omega) only [if_true, I_eq] at z; omega
      · have : wv K G (40 + y) p s n t 10 = 0 := by show snd K G (40 + y) n = 0; unfold snd; rw [if_pos hq]
        rw [this] at hp; exact hp
  | 11, _ =>
    simp (disch := omega) only [fe, I_lit, I_sub, I_add, I_eq]
    refine ⟨fun z => absurd z (by omega), fun _ => ⟨fun z => absurd z (by omega), fun _ => ⟨fun z => absurd z (by omega), fun _ => ⟨fun z => absurd z (by omega), fun _ => ⟨fun z => absurd z (by omega), fun _ => ⟨fun z => absurd z (by omega), fun _ => ⟨fun z => absurd z (by omega), fun _ => ⟨fun z => absurd z (by omega), fun _ => ⟨fun z => absurd z (by omega), fun _ => ⟨fun z => absurd z (by omega), fun _ => ⟨fun z => absurd z (by omega), fun _ => ⟨fun _ => cfilmOf_ok hL hW (by omega) (by omega) hw ?_, fun z => absurd rfl z⟩⟩⟩⟩⟩⟩⟩⟩⟩⟩⟩⟩
    have : wv K G (40 + y) p s n t 11 = flm K.1 (kw K) y n := by show flm K.1 (kw K) (40 + y - 40) n = _; congr 1; omega
    rw [this] at hp; exact hp
  | 12, _ =>
    simp (disch := omega) only [fe, I_lit, I_sub, I_add, I_eq, I_in, true_and, I_cl, Int.toNat_natCast, h3]
    exact ⟨fun z => absurd z (by omega), fun _ => ⟨fun z => absurd z (by omega), fun _ => ⟨fun z => absurd z (by omega), fun _ => ⟨fun z => absurd z (by omega), fun _ => ⟨fun z => absurd z (by omega), fun _ => ⟨fun z => absurd z (by omega), fun _ => ⟨fun z => absurd z (by omega), fun _ => ⟨fun z => absurd z (by omega), fun _ => ⟨fun z => absurd z (by omega), fun _ => ⟨fun z => absurd z (by omega), fun _ => ⟨fun z => absurd z (by omega), fun _ => ⟨fun z => absurd z (by omega), fun _ => ⟨fun _ => hp, fun z => absurd rfl z⟩⟩⟩⟩⟩⟩⟩⟩⟩⟩⟩⟩⟩
  | 13, _ =>
    simp (disch := omega) only [fe, I_lit, I_sub, I_add, I_eq]
    have : wv K G (40 + y) p s n t 13 = y := by show ((40 + y : Nat) : Int) - 40 = y; omega
    rw [this] at hp
    exact ⟨fun z => absurd z (by omega), fun _ => ⟨fun z => absurd z (by omega), fun _ => ⟨fun z => absurd z (by omega), fun _ => ⟨fun z => absurd z (by omega), fun _ => ⟨fun z => absurd z (by omega), fun _ => ⟨fun z => absurd z (by omega), fun _ => ⟨fun z => absurd z (by omega), fun _ => ⟨fun z => absurd z (by omega), fun _ => ⟨fun z => absurd z (by omega), fun _ => ⟨fun z => absurd z (by omega), fun _ => ⟨fun z => absurd z (by omega), fun _ => ⟨fun z => absurd z (by omega), fun _ => ⟨fun z => absurd z (by omega), fun _ => ⟨fun _ => hp, fun z => absurd rfl z⟩⟩⟩⟩⟩⟩⟩⟩⟩⟩⟩⟩⟩⟩
