/-! taste: tokens, and the class's cutting -/
def sgl : List (Nat × Nat) := [(61, 26), (35, 27), (43, 28), (45, 29), (42, 30), (47, 31), (40, 32), (41, 33), (44, 34), (59, 35)]
def sgn (x : Nat) : Nat := if x = 61 then 26 else if x = 35 then 27 else if x = 43 then 28 else if x = 45 then 29 else if x = 42 then 30 else if x = 47 then 31 else if x = 40 then 32 else if x = 41 then 33 else if x = 44 then 34 else if x = 59 then 35 else 38
def wid (b : Nat → Nat) (l p : Nat) : Nat := if p + 1 < l ∧ b (p + 1) = 61 then 1 else 0
def edT (b : Nat → Nat) (l p : Nat) : Nat := if isLt (b p) = true then rE isLt b l (p + 1) else if isDi (b p) = true then rE isDi b l (p + 1) else if b p = 60 ∨ b p = 62 then p + 1 + wid b l p else p + 1
def kdT (b : Nat → Nat) (l p : Nat) : Nat := if isLt (b p) = true then wdK b p (edT b l p) else if isDi (b p) = true then 36 else if b p = 60 then 22 + wid b l p else if b p = 62 then 24 + wid b l p else sgn (b p)
def cv (b : Nat → Nat) (p : Nat) : Nat → Nat
  | 0 => 0
  | n + 1 => min (cv b p n * 10 + (b (p + n) - 48)) 10000
theorem wchar_ok {σ : St} {i : Nat} {post : Int32 → St → Prop} (hi : i < 110) (hp : post (II (wls.getD i 0 : Nat)) σ) : wpJ0_charAt_5068e 2 (II i) σ post := by
  have hd : ∀ i : Fin 110, (((((sByt.getD 2 []).getD i.val 0) &&& 255).toUInt32 % 65536).toInt32) = Int32.ofInt ((wls.getD i.val 0 : Nat) : Int) ∧ narrow .char (.int ((((((sByt.getD 2 []).getD i.val 0) &&& 255).toUInt32 % 65536).toInt32))) = .int ((((((sByt.getD 2 []).getD i.val 0) &&& 255).toUInt32 % 65536).toInt32)) := by decide +kernel
  have h := hd ⟨i, hi⟩
  have e26 : Int32.ofNat (sLen.getD 2 0) = II 110 := rfl
  have e26' : sLen.getD 2 0 = 110 := rfl
  unfold wpJ0_charAt_5068e
  refine latin_ok ⟨fun h => absurd h (by decide), fun _ => ?_⟩
  unfold wpJ1_charAt_3b067 wpJ0_checkIndex_df160
  rw [e26, e26']
  simp (disch := omega) only [I_lit, I_lt, I_in, true_and, I_cl, Int.toNat_natCast]
  refine ⟨by omega, by omega, ?_⟩
  have h1 := h.1
  have h2 := h.2
  rw [I_lit, I_lit] at h1 h2
  refine ⟨h2, ?_⟩
  rw [h1]
  exact hp
theorem wls_b : ∀ i, i < 110 → wls.getD i 0 < 128 := by decide
/-- bytes on the class's tape -/
def BC (υ : St) (b : Nat → Nat) (l : Nat) : Prop := l ≤ 300 ∧ gI υ 42 1 = II l ∧ ∀ j, j < l → gI υ 43 j = II (b j) ∧ b j < 256
theorem cisLt_ok {υ : St} {x : Nat} {post : Int32 → St → Prop} (hx : x < 256) (h1 : isLt x = true → post (II 1) υ) (h0 : isLt x = false → post (II 0) υ) : wpX8_isLetter (II x) υ post := by
  have f : ¬ ((97 ≤ x ∧ x ≤ 122) ∨ (65 ≤ x ∧ x ≤ 90)) → post (II 0) υ := fun z => h0 (by
    cases c : isLt x with
    | false => rfl
    | true => exact absurd ((isLt_iff x).mp c) z)
  have t : ((97 ≤ x ∧ x ≤ 122) ∨ (65 ≤ x ∧ x ≤ 90)) → post (II 1) υ := fun z => h1 ((isLt_iff x).mpr z)
  simp (disch := omega) only [wpX8_isLetter, wbX8_isLetter_12, I_lit, I_lt, I_le]
  exact ⟨fun z => ⟨fun z2 => f (by omega), fun z2 => ⟨fun z3 => f (by omega), fun z3 => t (by omega)⟩⟩, fun z => ⟨fun z2 => t (by omega), fun z2 => ⟨fun z3 => by omega, fun z3 => ⟨fun z4 => f (by omega), fun z4 => t (by omega)⟩⟩⟩⟩
theorem cisDi_ok {υ : St} {x : Nat} {post : Int32 → St → Prop} (hx : x < 256) (h1 : isDi x = true → post (II 1) υ) (h0 : isDi x = false → post (II 0) υ) : wpX8_isDigit (II x) υ post := by
  have f : ¬ (48 ≤ x ∧ x ≤ 57) → post (II 0) υ := fun z => h0 (by
    cases c : isDi x with
    | false => rfl
    | true => exact absurd ((isDi_iff x).mp c) z)
  have t : (48 ≤ x ∧ x ≤ 57) → post (II 1) υ := fun z => h1 ((isDi_iff x).mpr z)
  simp (disch := omega) only [wpX8_isDigit, I_lit, I_lt]
  exact ⟨fun z => f (by omega), fun z => ⟨fun z2 => f (by omega), fun z2 => t (by omega)⟩⟩
theorem cwordOf_ok {υ : St} {b : Nat → Nat} {l p q : Nat} {post : Int32 → St → Prop} (hb : BC υ b l) (hpq : p < q) (hq : q ≤ l) (hp : post (II (wdK b p q : Nat)) υ) : wpX8_wordOf (II p) (II q) υ post := by
  have l3 := hb.1
  unfold wdK at hp
  simp (disch := omega) only [wpX8_wordOf, I_sub, I_lit, I_le]
  refine ⟨fun z => ?_, fun z => by rw [if_pos (by omega)] at hp; exact hp⟩
  rw [if_neg (by omega)] at hp
  have key : ∀ n i, i + n = 22 → post (II (fm (cm b p q) n i : Nat)) υ → wbX8_wordOf_12 post (n + 1) (II p) (II q) (II i) υ := by
    intro n
    induction n with
    | zero =>
      intro i hi hpp
      simp (disch := omega) only [wbX8_wordOf_12, I_lit, I_le]
      exact ⟨fun _ => hpp, fun z => absurd (by omega) z⟩
    | succ n ih =>
      intro i hi hpp
      simp only [fm] at hpp
      generalize hm : n + 1 = m at ih
      simp (disch := omega) only [wbX8_wordOf_12, I_lit, I_le]
      refine ⟨fun z => by omega, fun _ => ?_⟩
      -- how many places are alike
      have ct : ∀ j, j ≤ 5 → ∃ s : Nat, s ≤ j ∧ (s = j ↔ ∀ x, x < j → wls.getD (5 * i + x) 0 = (if p + x < q then b (p + x) else 32)) := by
        intro j
        induction j with
        | zero => intro _; exact ⟨0, Nat.le_refl _, ⟨fun _ x hx => by omega, fun _ => rfl⟩⟩
        | succ j ihj =>
          intro hj
          obtain ⟨s, s1, s2⟩ := ihj (by omega)
          by_cases c : wls.getD (5 * i + j) 0 = (if p + j < q then b (p + j) else 32)
          · refine ⟨s + 1, by omega, ⟨fun e x hx => ?_, fun e => ?_⟩⟩
            · by_cases ex : x = j
              · rw [ex]; exact c
              · exact s2.mp (by omega) x (by omega)
            · have := s2.mpr (fun x hx => e x (by omega)); omega
          · exact ⟨s, by omega, ⟨fun e => by omega, fun e => absurd (e j (by omega)) c⟩⟩
      have k2 := up (P := fun f j => ∀ s : Nat, s ≤ j → (s = j ↔ ∀ x, x < j → wls.getD (5 * i + x) 0 = (if p + x < q then b (p + x) else 32)) → wbX8_wordOf_24 (wbX8_wordOf_12 post m) post f (II p) (II q) (II i) (II s) (II j) υ) 5 ?_ ?_ 0 (by omega)
      · obtain ⟨f, hf⟩ := k2
        exact ⟨f, hf 0 (Nat.le_refl _) ⟨fun _ x hx => by omega, fun _ => rfl⟩⟩
      · intro f s s1 s2
        simp (disch := omega) only [wbX8_wordOf_24, I_lit, I_le, I_eq, fe, I_add]
        refine ⟨fun _ => ⟨fun y => ?_, fun y => ?_⟩, fun z => absurd (by decide) z⟩
        · have : ¬ cm b p q i = true := fun w => y (by have := s2.mpr ((cm_iff b p q i).mp w); omega)
          rw [if_neg this] at hpp
          exact ih (i + 1) (by omega) hpp
        · have : cm b p q i = true := (cm_iff b p q i).mpr (s2.mp (by omega))
          rw [if_pos this] at hpp; exact hpp
      · intro f j hj ihj s s1 s2
        have w52 : ∀ v : Nat, v = (if p + j < q then b (p + j) else 32) → v < 256 → wbX8_wordOf_52 (wbX8_wordOf_24 (wbX8_wordOf_12 post m) post f) post (II p) (II q) (II i) (II s) (II j) (II v) υ := by
          intro v ev hv
          unfold wbX8_wordOf_52
          rw [show (5 : Int32) = II 5 from rfl, I_mul, I_add, show (i : Int) * 5 + (j : Int) = ((5 * i + j : Nat) : Int) by omega]
          refine wchar_ok (by omega) ?_
          have wb := wls_b (5 * i + j) (by omega)
          simp (disch := omega) only [I_lit, I_eq, fe, I_add]
          refine ⟨fun y => ?_, fun y => ?_⟩
          · refine ihj s (by omega) ⟨fun e => by omega, fun e => ?_⟩
            have := e j (by omega)
            rw [← ev] at this; omega
          · refine ihj (s + 1) (by omega) ⟨fun e x hx => ?_, fun e => ?_⟩
            · by_cases ex : x = j
              · rw [ex, ← ev]; omega
              · exact s2.mp (by omega) x (by omega)
            · have := s2.mpr (fun x hx => e x (by omega)); omega
        simp (disch := omega) only [wbX8_wordOf_24, I_lit, I_le, I_add]
        refine ⟨fun z => by omega, fun _ => ⟨fun y => w52 32 (by rw [if_neg (by omega)]) (by omega), fun y => ?_⟩⟩
        have := hb.2.2 (p + j) (by omega)
        rw [I_cl (by omega), show ((p : Int) + (j : Int)).toNat = p + j by omega, this.1]
        exact ⟨of_eq_true (I_in (by omega)), w52 (b (p + j)) (by rw [if_pos (by omega)]) this.2⟩
  exact ⟨23, key 22 0 rfl hp⟩
/-- one token is cut -/
def CO (υ τ : St) (b : Nat → Nat) (l p j : Nat) : Prop := Eqx [44, 46] υ τ ∧ gI τ 44 j = II (kdT b l p : Nat) ∧ (∀ i, i ≠ j → gI τ 44 i = gI υ 44 i) ∧ (kdT b l p = 36 → gI τ 46 j = II (cv b p (edT b l p - p) : Nat)) ∧ (∀ i, i ≠ j → gI τ 46 i = gI υ 46 i)
theorem CO1 {υ : St} {b : Nat → Nat} {l p j : Nat} (h : kdT b l p ≠ 36) : CO υ (sI υ 44 j (II (kdT b l p : Nat))) b l p j :=
  ⟨Eqx_tI (Eqx.refl _ _) (by simp), rI1, fun i hi => rI3 hi, fun z => absurd z h, fun i hi => rI2 (by omega)⟩
theorem cv_b (b : Nat → Nat) (p n : Nat) : cv b p n ≤ 10000 := by
  cases n with
  | zero => simp [cv]
  | succ n => simp only [cv]; omega
theorem sgn_b : ∀ x, sgn x ≤ 38 ∧ 26 ≤ sgn x ∧ sgn x ≠ 36 ∧ sgn x ≠ 37 := by
  intro x
  unfold sgn
  repeat' split
  all_goals omega
theorem wid_b (b : Nat → Nat) (l p : Nat) : wid b l p ≤ 1 := by unfold wid; split <;> omega
theorem sg_idx : ∀ x : Fin 256, isLt x.val = false → isDi x.val = false → x.val ≠ 60 → x.val ≠ 62 → (∀ i, i < 10 → (sByt.getD 3 []).getD i 0 = (II (x.val : Int)).toInt8.toInt32 → sgn x.val = 26 + i) ∧ ((∀ i, i < 10 → (sByt.getD 3 []).getD i 0 ≠ (II (x.val : Int)).toInt8.toInt32) → sgn x.val = 38) := by decide +kernel
theorem cutOne_ok {υ : St} {b : Nat → Nat} {l p j : Nat} {post : Int32 → St → Prop} (hb : BC υ b l) (hp : p < l) (hj : j ≤ 300) (hq : ∀ τ, CO υ τ b l p j → post (II (edT b l p : Nat)) τ) : wpX8_cutOne (II j) (II p) υ post := by
  have l3 := hb.1
  obtain ⟨bp, bl⟩ := hb.2.2 p hp
  unfold wpX8_cutOne
  rw [I_cl (by omega), Int.toNat_natCast, bp]
  refine ⟨of_eq_true (I_in (by omega)), ?_⟩
  simp only [fe]
  rw [show (1 : Int32) = II 1 from rfl, I_add, show (p : Int) + 1 = ((p + 1 : Nat) : Int) by omega]
  refine cisLt_ok bl (fun cl => ⟨fun z => absurd z i10, fun _ => ?_⟩) (fun cl => ⟨fun _ => ?_, fun z => absurd rfl z⟩)
  · -- a word
    have ee : edT b l p = rE isLt b l (p + 1) := by unfold edT; rw [if_pos cl]
    have ek : kdT b l p = wdK b p (edT b l p) := by unfold kdT; rw [if_pos cl]
    obtain ⟨r1, r2, r3, r4⟩ := rE_b (P := isLt) (b := b) (l := l) _ (p + 1) rfl (by omega)
    rw [← ee] at r1 r2 r3 r4
    have wk := (wdK_code (b := b) (p := p) (q := edT b l p) (by omega) (fun x h1 h2 => by
      by_cases e : x = p
      · rw [e]; exact cl
      · exact r4 x (by omega) h2)).2
    have n36 : kdT b l p ≠ 36 := by rw [ek]; omega
    have c47 : wbX8_cutOne_47 post (II j) (II p) (II (edT b l p : Nat)) υ := by
      unfold wbX8_cutOne_47
      refine cwordOf_ok hb (by omega) r2 ?_
      refine ⟨of_eq_true (I_in (by omega)), ?_⟩
      simp only [fe]
      rw [I_cl (by omega), Int.toNat_natCast]
      have := CO1 (υ := υ) (j := j) n36
      rw [ek] at this
      exact hq _ this
    have key := up (P := fun f i => p + 1 ≤ i → wbX8_cutOne_19 post f (II j) (II p) (II i) υ) (edT b l p) ?_ ?_ (p + 1) r1
    · obtain ⟨f, hf⟩ := key
      exact ⟨f, hf (Nat.le_refl _)⟩
    · intro f _
      by_cases e : edT b l p = l
      · simp (disch := omega) only [wbX8_cutOne_19, hb.2.1, I_le]
        exact ⟨fun _ => c47, fun z => absurd (by omega) z⟩
      · have c := hb.2.2 (edT b l p) (by omega)
        simp (disch := omega) only [wbX8_cutOne_19, hb.2.1, I_le, I_in, true_and, I_cl, Int.toNat_natCast, c.1]
        refine ⟨fun _ => c47, fun z => cisLt_ok c.2 (fun y => ?_) (fun y => ⟨fun _ => c47, fun w => absurd rfl w⟩)⟩
        rw [r3 (by omega)] at y; exact absurd y (by decide)
    · intro f i hi ih hle
      have c := hb.2.2 i (by omega)
      simp (disch := omega) only [wbX8_cutOne_19, hb.2.1, I_le, I_in, true_and, I_cl, Int.toNat_natCast, c.1, fe, I_lit, I_add]
      refine ⟨fun z => by omega, fun _ => cisLt_ok c.2 (fun y => ⟨fun w => absurd w i10, fun _ => ih (by omega)⟩) (fun y => ?_)⟩
      rw [r4 i hle hi] at y; exact absurd y (by decide)
  · refine cisDi_ok bl (fun cd => ⟨fun z => absurd z i10, fun _ => ?_⟩) (fun cd => ⟨fun _ => ?_, fun z => absurd rfl z⟩)
    · -- a number
      have ee : edT b l p = rE isDi b l (p + 1) := by unfold edT; rw [if_neg (by rw [cl]; decide), if_pos cd]
      have ek : kdT b l p = 36 := by unfold kdT; rw [if_neg (by rw [cl]; decide), if_pos cd]
      have d0 := (isDi_iff _).mp cd
      obtain ⟨r1, r2, r3, r4⟩ := rE_b (P := isDi) (b := b) (l := l) _ (p + 1) rfl (by omega)
      rw [← ee] at r1 r2 r3 r4
      have c128 : wbX8_cutOne_128 post (II j) (II (edT b l p : Nat)) (II (cv b p (edT b l p - p) : Nat)) υ := by
        unfold wbX8_cutOne_128
        refine ⟨of_eq_true (I_in (by omega)), ?_⟩
        simp only [fe]
        refine ⟨of_eq_true (I_in (by omega)), ?_⟩
        rw [I_cl (by omega), Int.toNat_natCast]
        refine hq _ ⟨Eqx_tI (Eqx_tI (Eqx.refl _ _) (by simp)) (by simp), ?_, fun i hi => ?_, fun _ => rI1, fun i hi => ?_⟩
        · rw [rI2 (by omega), rI1, ek]; rfl
        · rw [rI2 (by omega), rI3 hi]
        · rw [rI3 hi, rI2 (by omega)]
      have key := up (P := fun f i => p + 1 ≤ i → wbX8_cutOne_76 post f (II j) (II i) (II (cv b p (i - p) : Nat)) υ) (edT b l p) ?_ ?_ (p + 1) r1
      · obtain ⟨f, hf⟩ := key
        have e1 : cv b p (p + 1 - p) = b p - 48 := by
          rw [show p + 1 - p = 0 + 1 by omega]
          simp only [cv, Nat.add_zero]; omega
        have := hf (Nat.le_refl _)
        rw [e1, show ((b p - 48 : Nat) : Int) = (b p : Int) - 48 by omega] at this
        refine ⟨f, ?_⟩
        rw [show (48 : Int32) = II 48 from rfl, I_sub]
        exact this
      · intro f _
        by_cases e : edT b l p = l
        · simp (disch := omega) only [wbX8_cutOne_76, hb.2.1, I_le]
          exact ⟨fun _ => c128, fun z => absurd (by omega) z⟩
        · have c := hb.2.2 (edT b l p) (by omega)
          simp (disch := omega) only [wbX8_cutOne_76, hb.2.1, I_le, I_in, true_and, I_cl, Int.toNat_natCast, c.1]
          refine ⟨fun _ => c128, fun z => cisDi_ok c.2 (fun y => ?_) (fun y => ⟨fun _ => c128, fun w => absurd rfl w⟩)⟩
          rw [r3 (by omega)] at y; exact absurd y (by decide)
      · intro f i hi ih hle
        have c := hb.2.2 i (by omega)
        have cb := cv_b b p (i - p)
        have di := (isDi_iff _).mp (r4 i hle hi)
        have ec : cv b p (i + 1 - p) = min (cv b p (i - p) * 10 + (b i - 48)) 10000 := by
          rw [show i + 1 - p = (i - p) + 1 by omega]
          simp only [cv]
          rw [show p + (i - p) = i by omega]
        have ih := ih (by omega)
        rw [ec] at ih
        simp (disch := omega) only [wbX8_cutOne_76, hb.2.1, I_le, I_in, true_and, I_cl, Int.toNat_natCast, c.1]
        refine ⟨fun z => by omega, fun _ => cisDi_ok c.2 (fun y => ⟨fun w => absurd w i10, fun _ => ?_⟩) (fun y => ?_)⟩
        · simp (disch := omega) only [fe, c.1, I_lit, I_mul, I_add, I_sub, I_lt]
          by_cases g : 10000 < (cv b p (i - p) : Int) * 10 + (b i : Int) - 48
          · rw [if_pos g]
            rw [show min (cv b p (i - p) * 10 + (b i - 48)) 10000 = 10000 by omega] at ih
            exact ih
          · rw [if_neg g]
            rw [show ((min (cv b p (i - p) * 10 + (b i - 48)) 10000 : Nat) : Int) = (cv b p (i - p) : Int) * 10 + (b i : Int) - 48 by omega] at ih
            exact ih
        · rw [r4 i hle hi] at y; exact absurd y (by decide)
    · -- a sign
      have wb := wid_b b l p
      have c159 : (b p = 60 ∨ b p = 62) → wbX8_cutOne_159 post (II j) (II (b p)) (II ((p + 1 : Nat) : Int)) υ := by
        intro z
        have ee : edT b l p = p + 1 + wid b l p := by unfold edT; rw [if_neg (by rw [cl]; decide), if_neg (by rw [cd]; decide), if_pos z]
        have ek : kdT b l p = (if b p = 60 then 22 else 24) + wid b l p := by
          unfold kdT; rw [if_neg (by rw [cl]; decide), if_neg (by rw [cd]; decide)]
          rcases z with z | z
          · rw [if_pos z, if_pos z]
          · rw [if_neg (by omega), if_pos z, if_neg (by omega)]
        have n36 : kdT b l p ≠ 36 := by rw [ek]; split <;> omega
        have fin : ∀ w : Nat, w = wid b l p → wbX8_cutOne_185 post (II j) (II (b p)) (II ((p + 1 : Nat) : Int)) (II w) υ := by
          intro w ew
          have co := CO1 (υ := υ) (j := j) n36
          have hqq := hq _ co
          rw [ek, ee] at hqq
          have c205 : ∀ k0 : Nat, k0 = (if b p = 60 then 22 else 24) → wbX8_cutOne_205 post (II ((p + 1 : Nat) : Int)) (II w) (II k0) (II j) υ := by
            intro k0 ek0
            have c215 : wbX8_cutOne_215 post (II ((p + 1 : Nat) : Int)) (II w) (II w) (II k0) (II j) υ := by
              unfold wbX8_cutOne_215
              refine ⟨of_eq_true (I_in (by omega)), ?_⟩
              simp only [fe]
              rw [I_cl (by omega), Int.toNat_natCast, I_add, show (k0 : Int) + (w : Int) = ((k0 + w : Nat) : Int) by omega, ek0, ew]
              simp (disch := omega) only [I_lit, I_eq, I_add]
              refine ⟨fun y => ?_, fun y => ?_⟩
              · rw [show ((p + 1 : Nat) : Int) + 0 = ((p + 1 + wid b l p : Nat) : Int) by omega]; exact hqq
              · rw [show ((p + 1 : Nat) : Int) + 1 = ((p + 1 + wid b l p : Nat) : Int) by omega]; exact hqq
            unfold wbX8_cutOne_205
            simp (disch := omega) only [I_lit, I_eq]
            refine ⟨fun y => ?_, fun y => ?_⟩
            · have : w = 0 := by omega
              rw [this] at c215 ⊢; exact c215
            · have : w = 1 := by omega
              rw [this] at c215 ⊢; exact c215
          unfold wbX8_cutOne_185
          simp (disch := omega) only [I_lit, I_eq]
          exact ⟨fun y => c205 24 (by rw [if_neg (by omega)]), fun y => c205 22 (by rw [if_pos (by omega)])⟩
        unfold wbX8_cutOne_159
        rw [hb.2.1, I_le (by omega)]
        refine ⟨fun y => fin 0 (by unfold wid; rw [if_neg (by omega)]), fun y => ?_⟩
        have c := hb.2.2 (p + 1) (by omega)
        rw [I_cl (by omega), Int.toNat_natCast, c.1]
        refine ⟨of_eq_true (I_in (by omega)), ?_⟩
        rw [show (61 : Int32) = II 61 from rfl, I_eq (by omega)]
        exact ⟨fun w => fin 0 (by unfold wid; rw [if_neg (by omega)]), fun w => fin 1 (by unfold wid; rw [if_pos (by omega)])⟩
      rw [show (60 : Int32) = II 60 from rfl, I_eq (by omega), show (62 : Int32) = II 62 from rfl, I_eq (by omega)]
      refine ⟨fun z => c159 (by omega), fun z => ⟨fun z2 => ?_, fun z2 => c159 (by omega)⟩⟩
      have ee : edT b l p = p + 1 := by unfold edT; rw [if_neg (by rw [cl]; decide), if_neg (by rw [cd]; decide), if_neg (by omega)]
      have ek : kdT b l p = sgn (b p) := by unfold kdT; rw [if_neg (by rw [cl]; decide), if_neg (by rw [cd]; decide), if_neg (by omega), if_neg (by omega)]
      have sb := sgn_b (b p)
      have n36 : kdT b l p ≠ 36 := by rw [ek]; exact sb.2.2.1
      have co := hq _ (CO1 (υ := υ) (j := j) n36)
      rw [ek, ee] at co
      have sx := sg_idx ⟨b p, bl⟩ cl cd (by simp only; omega) (by simp only; omega)
      have nar : ((II (b p : Int)).toUInt32 % 65536).toInt32 = II (b p : Int) := by
        have : ∀ x : Fin 256, ((Int32.ofInt (x.val : Int)).toUInt32 % 65536).toInt32 = Int32.ofInt (x.val : Int) := by decide +kernel
        exact this ⟨b p, bl⟩
      rw [nar]
      refine idx_ok (N := 10) rfl (by omega) bl (fun i hi e => ?_) (fun e => ?_)
      · have es := sx.1 i hi e
        simp only at es
        simp (disch := omega) only [I_lit, I_le, fe, I_add]
        refine ⟨fun _ => ⟨of_eq_true (I_in (by omega)), ?_⟩, fun y => by omega⟩
        rw [I_cl (by omega), Int.toNat_natCast, show (26 : Int) + (i : Int) = ((sgn (b p) : Nat) : Int) by omega]
        exact co
      · have es := sx.2 e
        simp only at es
        simp (disch := omega) only [I_lit, I_le, fe]
        refine ⟨fun y => by omega, fun _ => ⟨of_eq_true (I_in (by omega)), ?_⟩⟩
        rw [I_cl (by omega), Int.toNat_natCast]
        rw [es] at co
        exact co
