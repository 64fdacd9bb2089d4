/-! taste: the reference's next -/
def xb (x : Nat) : Int := if x < 128 then (x : Int) else (x : Int) - 256
theorem xb_ok {x : Nat} (h : x < 256) : (II (x : Int)).toInt8.toInt32 = II (xb x) := by
  have : ∀ x : Fin 256, (Int32.ofInt (x.val : Int)).toInt8.toInt32 = Int32.ofInt (xb x.val) := by decide +kernel
  exact this ⟨x, h⟩
theorem xb_b {x : Nat} (h : x < 256) : -128 ≤ xb x ∧ xb x < 128 ∧ (∀ y : Nat, y < 128 → (xb x = (y : Int) ↔ x = y)) ∧ (x < 128 → xb x = x) ∧ (128 ≤ x → xb x < 0) := by
  unfold xb
  by_cases c : x < 128
  · rw [if_pos c]; exact ⟨by omega, by omega, fun y hy => by omega, fun _ => rfl, fun z => by omega⟩
  · rw [if_neg c]; exact ⟨by omega, by omega, fun y hy => by omega, fun z => absurd z c, fun z => by omega⟩
def BR (υ : St) (b : Nat → Nat) (l : Nat) : Prop := l ≤ 300 ∧ gI υ 75 14 = II l ∧ ∀ j, j < l → gI υ 79 j = II (xb (b j)) ∧ b j < 256
def rv (b : Nat → Nat) (p : Nat) : Nat → Nat
  | 0 => 0
  | n + 1 => if rv b p n ≤ 99999 then 10 * rv b p n + (b (p + n) - 48) else rv b p n
theorem rv_b {b : Nat → Nat} {p : Nat} : ∀ n, (∀ i, i < n → b (p + i) - 48 ≤ 9) → rv b p n < 1000000 ∧ cv b p n = min (rv b p n) 10000 := by
  intro n
  induction n with
  | zero => intro _; exact ⟨by simp [rv], by simp [rv, cv]⟩
  | succ n ih =>
    intro h
    obtain ⟨i1, i2⟩ := ih (fun i hi => h i (by omega))
    have d := h n (by omega)
    simp only [rv, cv]
    rw [i2]
    split <;> omega
theorem risLt_ok {υ : St} {x : Nat} {post : Int32 → St → Prop} (hx : x < 256) (h1 : isLt x = true → post (II 1) υ) (h0 : isLt x = false → post (II 0) υ) : wpX12_isLetter (II (xb x)) υ post := by
  have b := xb_b hx
  have f : ¬ ((97 ≤ x ∧ x ≤ 122) ∨ (65 ≤ x ∧ x ≤ 90)) → post (II 0) υ := fun z => h0 (by
    cases c : isLt x with
    | false => rfl
    | true => exact absurd ((isLt_iff x).mp c) z)
  have t : ((97 ≤ x ∧ x ≤ 122) ∨ (65 ≤ x ∧ x ≤ 90)) → post (II 1) υ := fun z => h1 ((isLt_iff x).mpr z)
  have e : (97 ≤ xb x ∧ xb x ≤ 122 ↔ 97 ≤ x ∧ x ≤ 122) ∧ (65 ≤ xb x ∧ xb x ≤ 90 ↔ 65 ≤ x ∧ x ≤ 90) := by
    by_cases c : x < 128
    · rw [b.2.2.2.1 c]; omega
    · have := b.2.2.2.2 (by omega); omega
  unfold wpX12_isLetter
  refine in_ok (b := 97) (c := 122) (by omega) (fun z => ⟨fun _ => t (Or.inl (e.1.mp z)), fun w => absurd w i10⟩) (fun z => ⟨fun w => absurd rfl w, fun _ => ?_⟩)
  exact in_ok (b := 65) (c := 90) (by omega) (fun z2 => ⟨fun w => absurd w i10, fun _ => t (Or.inr (e.2.mp z2))⟩) (fun z2 => ⟨fun _ => f (fun y => by rcases y with y | y; exact z (e.1.mpr y); exact z2 (e.2.mpr y)), fun w => absurd rfl w⟩)
theorem rin_ok {υ : St} {x : Nat} {post : Int32 → St → Prop} (hx : x < 256) (h1 : isDi x = true → post (II 1) υ) (h0 : isDi x = false → post (II 0) υ) : wpX12_in (II (xb x)) 48 57 υ post := by
  have b := xb_b hx
  have f : ¬ (48 ≤ x ∧ x ≤ 57) → post (II 0) υ := fun z => h0 (by
    cases c : isDi x with
    | false => rfl
    | true => exact absurd ((isDi_iff x).mp c) z)
  have t : (48 ≤ x ∧ x ≤ 57) → post (II 1) υ := fun z => h1 ((isDi_iff x).mpr z)
  have e : (48 ≤ xb x ∧ xb x ≤ 57 ↔ 48 ≤ x ∧ x ≤ 57) := by
    by_cases c : x < 128
    · rw [b.2.2.2.1 c]; omega
    · have := b.2.2.2.2 (by omega); omega
  exact in_ok (b := 48) (c := 57) (by omega) (fun z => t (e.mp z)) (fun z => f (fun y => z (e.mpr y)))
/-- where it stands behind next -/
def TQ (τ : St) (b : Nat → Nat) (l s : Nat) : Prop := gI τ 75 16 = II s ∧ (s < l → gI τ 75 17 = II (sO (kdT b l s) : Nat) ∧ (kdT b l s < 36 → gI τ 75 18 = II (tO (kdT b l s) : Nat)) ∧ (kdT b l s = 36 → ∃ r : Nat, r < 1000000 ∧ gI τ 75 18 = II r ∧ cv b s (edT b l s - s) = min r 10000) ∧ gI τ 75 15 = II (edT b l s : Nat)) ∧ (s = l → gI τ 75 17 = II 0 ∧ gI τ 75 15 = II l)
def Nf (υ τ : St) : Prop := Eqx [75] υ τ ∧ ∀ f, f < 15 ∨ 18 < f → gI τ 75 f = gI υ 75 f
theorem Nf_s {υ τ : St} {f : Nat} {v : Int32} (h : Nf υ τ) (hf : 15 ≤ f ∧ f ≤ 18) : Nf υ (sI τ 75 f v) := ⟨Eqx_tI h.1 (by simp), fun g hg => by rw [rI3 (by omega)]; exact h.2 g hg⟩
theorem Nf_B {υ τ : St} {b : Nat → Nat} {l : Nat} (h : Nf υ τ) (hb : BR υ b l) : BR τ b l := ⟨hb.1, by rw [h.2 14 (by omega)]; exact hb.2.1, fun j hj => by rw [Eqx_gI h.1 (by simp)]; exact hb.2.2 j hj⟩
theorem sg_ref : ∀ x : Fin 256, isLt x.val = false → isDi x.val = false → x.val ≠ 60 → x.val ≠ 62 → ((x.val = 59 ∨ x.val = 61 ∨ (40 ≤ x.val ∧ x.val ≤ 45) ∨ x.val = 47 ∨ x.val = 35) → sgn x.val < 36 ∧ sO (sgn x.val) = 3 ∧ tO (sgn x.val) = x.val) ∧ (¬ (x.val = 59 ∨ x.val = 61 ∨ (40 ≤ x.val ∧ x.val ≤ 45) ∨ x.val = 47 ∨ x.val = 35) → sgn x.val = 38) := by decide +kernel
theorem n52_ok {υ τ : St} {b : Nat → Nat} {l s : Nat} {post : St → Prop} (hb : BR υ b l) (hN : Nf υ τ) (h15 : gI τ 75 15 = II s) (hs : s ≤ l) (hq : ∀ ρ, Nf υ ρ → TQ ρ b l s → post ρ) : wbX12_next_52 post τ := by
  have l3 := hb.1
  have bτ := Nf_B hN hb
  unfold wbX12_next_52
  simp only [fe]
  rw [h15]
  obtain ⟨ρ, eρ⟩ : ∃ ρ, ρ = sI τ 75 16 (II s) := ⟨_, rfl⟩
  rw [← eρ]
  have rN : Nf υ ρ := by rw [eρ]; exact Nf_s hN (by omega)
  have rB := Nf_B rN hb
  have r16 : gI ρ 75 16 = II s := by rw [eρ, rI1]
  have r15 : gI ρ 75 15 = II s := by rw [eρ, rI3 (by omega)]; exact h15
  clear eρ
  rw [r15, rB.2.1, I_eq (by omega)]
  refine ⟨fun z => ?_, fun z => ?_⟩
  · have hsl : s < l := by omega
    obtain ⟨bs, bl⟩ := rB.2.2 s hsl
    have xbb := xb_b bl
    rw [I_cl (by omega), Int.toNat_natCast, bs]
    refine ⟨of_eq_true (I_in (by omega)), ?_⟩
    refine risLt_ok bl (fun cl => ⟨fun w => absurd w i10, fun _ => ?_⟩) (fun cl => ⟨fun _ => ?_, fun w => absurd rfl w⟩)
    · -- a word
      have ee : edT b l s = rE isLt b l (s + 1) := by unfold edT; rw [if_pos cl]
      have ek : kdT b l s = wdK b s (edT b l s) := by unfold kdT; rw [if_pos cl]
      obtain ⟨r1, r2, r3, r4⟩ := rE_b (P := isLt) (b := b) (l := l) _ (s + 1) rfl (by omega)
      rw [← ee] at r1 r2 r3 r4
      have allL : ∀ x, s ≤ x → x < edT b l s → isLt (b x) = true := fun x h1 h2 => by
        by_cases e : x = s
        · rw [e]; exact cl
        · exact r4 x (by omega) h2
      obtain ⟨wk1, wk2⟩ := wdK_code (b := b) (p := s) (q := edT b l s) (by omega) allL
      have lt : ∀ x, s ≤ x → x < edT b l s → 65 ≤ b x ∧ b x ≤ 122 := fun x h1 h2 => by have := (isLt_iff _).mp (allL x h1 h2); omega
      -- the end of the word
      have c189 : ∀ α, Nf υ α → gI α 75 16 = II s → gI α 75 15 = II (edT b l s : Nat) → ∀ r : Int, (kdT b l s < 22 → r = ((tO (kdT b l s) : Nat) : Int)) → (kdT b l s = 38 → r = -1) → wbX12_next_189 post (II r) α := by
        intro α aN a16 a15 r h1 h2
        unfold wbX12_next_189
        simp only [fe]
        have tb : kdT b l s < 22 → tO (kdT b l s) < 302 := fun y => tO_b _ (by omega)
        rw [rI1, show (0 : Int32) = II 0 from rfl]
        rcases wk2 with w | w
        · rw [← ek] at w
          have er := h1 w
          have := tb w
          rw [I_le (by omega)]
          refine ⟨fun _ => hq _ (Nf_s (Nf_s aN (by omega)) (by omega)) ⟨by rw [rI3 (by omega), rI3 (by omega)]; exact a16, fun _ => ⟨?_, fun _ => ?_, fun y => by omega, ?_⟩, fun y => by omega⟩, fun y => by omega⟩
          · rw [rI1, wd_one _ w]; rfl
          · rw [rI3 (by omega), rI1, er]
          · rw [rI3 (by omega), rI3 (by omega)]; exact a15
        · rw [← ek] at w
          have er := h2 w
          rw [I_le (by omega)]
          refine ⟨fun y => by omega, fun _ => hq _ (Nf_s (Nf_s aN (by omega)) (by omega)) ⟨by rw [rI3 (by omega), rI3 (by omega)]; exact a16, fun _ => ⟨?_, fun y => by omega, fun y => by omega, ?_⟩, fun y => by omega⟩⟩
          · rw [rI1, w]; rfl
          · rw [rI3 (by omega), rI3 (by omega)]; exact a15
      have key := up (P := fun f i => s ≤ i → ∀ α, Nf υ α → gI α 75 16 = II s → gI α 75 15 = II i → wbX12_next_99 post f (LL (cdN (fun x => b (s + x) - 64) (min (i - s) 8) : Nat)) (II ((i : Int) - s)) α) (edT b l s) ?_ ?_ s (by omega)
      · obtain ⟨f, hf⟩ := key
        have := hf (Nat.le_refl _) ρ rN r16 r15
        rw [show min (s - s) 8 = 0 by omega, Int.sub_self] at this
        exact ⟨f, this⟩
      · intro f _ α aN a16 a15
        have aB := Nf_B aN hb
        have c173 : wbX12_next_173 post (LL (cdN (fun x => b (s + x) - 64) (min (edT b l s - s) 8) : Nat)) (II ((edT b l s : Int) - s)) α := by
          unfold wbX12_next_173
          rw [show (7 : Int32) = II 7 from rfl, I_le (by omega)]
          refine ⟨fun y => ?_, fun y => ?_⟩
          · rw [show min (edT b l s - s) 8 = edT b l s - s by omega]
            have cl' := cd_lt (g := fun x => b (s + x) - 64) (edT b l s - s) (fun x hx => by have := lt (s + x) (by omega) (by omega); omega)
            have p7 : 64 ^ (edT b l s - s) ≤ 64 ^ 7 := Nat.pow_le_pow_right (by decide) (by omega)
            refine rwordOf_ok (W := wdK b s (edT b l s)) (by omega) wk1 wk2 (fun w => ?_) (fun w => ?_)
            · exact c189 α aN a16 a15 _ (fun _ => by rw [ek]) (fun v => by rw [ek] at v; omega)
            · exact c189 α aN a16 a15 _ (fun v => by rw [ek] at v; omega) (fun _ => rfl)
          · have w38 : kdT b l s = 38 := by rw [ek]; unfold wdK; rw [if_pos (by omega)]
            exact c189 α aN a16 a15 (-1) (fun v => by omega) (fun _ => rfl)
        unfold wbX12_next_99
        rw [a15, aB.2.1, I_le (by omega)]
        refine ⟨fun _ => c173, fun y => ?_⟩
        have c := aB.2.2 (edT b l s) (by omega)
        rw [I_cl (by omega), Int.toNat_natCast, c.1]
        refine ⟨of_eq_true (I_in (by omega)), risLt_ok c.2 (fun w => ?_) (fun w => ⟨fun _ => c173, fun v => absurd rfl v⟩)⟩
        rw [r3 (by omega)] at w; exact absurd w (by decide)
      · intro f i hi ih hle α aN a16 a15
        have aB := Nf_B aN hb
        have c := aB.2.2 i (by omega)
        have li := lt i hle hi
        have xi := (xb_b c.2).2.2.2.1 (by omega)
        have nx : ∀ v : Nat, v = cdN (fun x => b (s + x) - 64) (min (i + 1 - s) 8) → wbX12_next_156 (wbX12_next_99 post f) post (II ((i : Int) - s)) (LL (v : Int)) α := by
          intro v ev
          unfold wbX12_next_156
          simp only [fe]
          rw [show (1 : Int32) = II 1 from rfl, I_add, a15, I_add, ev, show (i : Int) - (s : Int) + 1 = ((i + 1 : Nat) : Int) - (s : Int) by omega]
          exact ih (by omega) _ (Nf_s aN (by omega)) (by rw [rI3 (by omega)]; exact a16) rI1
        unfold wbX12_next_99
        rw [a15, aB.2.1, I_le (by omega)]
        refine ⟨fun y => by omega, fun _ => ?_⟩
        rw [I_cl (by omega), Int.toNat_natCast, c.1]
        refine ⟨of_eq_true (I_in (by omega)), risLt_ok c.2 (fun w => ⟨fun v => absurd v i10, fun _ => ?_⟩) (fun w => ?_)⟩
        · rw [show (8 : Int32) = II 8 from rfl, I_le (by omega)]
          refine ⟨fun v => nx _ (by rw [show min (i + 1 - s) 8 = min (i - s) 8 by omega]), fun v => ?_⟩
          rw [a15, I_cl (by omega), Int.toNat_natCast, c.1, xi, I_wide (by omega), L_lit, L_mul, L_add, L_sub]
          refine ⟨of_eq_true (I_in (by omega)), ?_⟩
          have es : cdN (fun x => b (s + x) - 64) (min (i + 1 - s) 8) = 64 * cdN (fun x => b (s + x) - 64) (min (i - s) 8) + (b i - 64) := by
            rw [show min (i + 1 - s) 8 = (i - s) + 1 by omega, show min (i - s) 8 = i - s by omega]
            simp only [cdN]
            rw [show s + (i - s) = i by omega]
          rw [show (64 : Int) * ((cdN (fun x => b (s + x) - 64) (min (i - s) 8) : Nat) : Int) + (b i : Int) - 64 = ((cdN (fun x => b (s + x) - 64) (min (i + 1 - s) 8) : Nat) : Int) by rw [es]; omega]
          exact nx _ rfl
        · rw [allL i hle hi] at w; exact absurd w (by decide)
    · refine rin_ok bl (fun cd => ⟨fun w => absurd w i10, fun _ => ?_⟩) (fun cd => ⟨fun _ => ?_, fun w => absurd rfl w⟩)
      · -- a number
        have ee : edT b l s = rE isDi b l (s + 1) := by unfold edT; rw [if_neg (by rw [cl]; decide), if_pos cd]
        have ek : kdT b l s = 36 := by unfold kdT; rw [if_neg (by rw [cl]; decide), if_pos cd]
        obtain ⟨r1, r2, r3, r4⟩ := rE_b (P := isDi) (b := b) (l := l) _ (s + 1) rfl (by omega)
        rw [← ee] at r1 r2 r3 r4
        have allD : ∀ x, s ≤ x → x < edT b l s → isDi (b x) = true := fun x h1 h2 => by
          by_cases e : x = s
          · rw [e]; exact cd
          · exact r4 x (by omega) h2
        have dg : ∀ n, n ≤ edT b l s - s → ∀ i, i < n → b (s + i) - 48 ≤ 9 := fun n hn i hi => by have := (isDi_iff _).mp (allD (s + i) (by omega) (by omega)); omega
        have fin : ∀ α, Nf υ α → gI α 75 16 = II s → gI α 75 17 = II 2 → gI α 75 15 = II (edT b l s : Nat) → gI α 75 18 = II (rv b s (edT b l s - s) : Nat) → post α := by
          intro α aN a16 a17 a15 a18
          have rb := rv_b (b := b) (p := s) (edT b l s - s) (dg _ (Nat.le_refl _))
          refine hq α aN ⟨a16, fun _ => ⟨by rw [ek]; exact a17, fun y => by omega, fun _ => ⟨_, rb.1, a18, rb.2⟩, a15⟩, fun y => by omega⟩
        have key := up (P := fun f i => s ≤ i → ∀ α, Nf υ α → gI α 75 16 = II s → gI α 75 17 = II 2 → gI α 75 15 = II i → gI α 75 18 = II (rv b s (i - s) : Nat) → wbX12_next_232 post f α) (edT b l s) ?_ ?_ s (by omega)
        · obtain ⟨f, hf⟩ := key
          refine ⟨f, hf (Nat.le_refl _) _ (Nf_s (Nf_s rN (by omega)) (by omega)) ?_ ?_ ?_ ?_⟩
          · rw [rI3 (by omega), rI3 (by omega)]; exact r16
          · rw [rI3 (by omega), rI1]; rfl
          · rw [rI3 (by omega), rI3 (by omega)]; exact r15
          · rw [rI1, Nat.sub_self]; rfl
        · intro f _ α aN a16 a17 a15 a18
          have aB := Nf_B aN hb
          have hf := fin α aN a16 a17 a15 a18
          unfold wbX12_next_232
          rw [a15, aB.2.1, I_le (by omega)]
          refine ⟨fun _ => hf, fun y => ?_⟩
          have c := aB.2.2 (edT b l s) (by omega)
          rw [I_cl (by omega), Int.toNat_natCast, c.1]
          refine ⟨of_eq_true (I_in (by omega)), rin_ok c.2 (fun w => ?_) (fun w => ⟨fun _ => hf, fun v => absurd rfl v⟩)⟩
          rw [r3 (by omega)] at w; exact absurd w (by decide)
        · intro f i hi ih hle α aN a16 a17 a15 a18
          have aB := Nf_B aN hb
          have c := aB.2.2 i (by omega)
          have di := (isDi_iff _).mp (allD i hle hi)
          have xi := (xb_b c.2).2.2.2.1 (by omega)
          have rb := (rv_b (b := b) (p := s) (i - s) (dg _ (by omega))).1
          have ev : rv b s (i + 1 - s) = if rv b s (i - s) ≤ 99999 then 10 * rv b s (i - s) + (b i - 48) else rv b s (i - s) := by
            rw [show i + 1 - s = (i - s) + 1 by omega]
            simp only [rv]
            rw [show s + (i - s) = i by omega]
          have nx : ∀ v : Nat, v = rv b s (i + 1 - s) → wbX12_next_300 (wbX12_next_232 post f) post (II (v : Int)) α := by
            intro v hv
            unfold wbX12_next_300
            simp only [fe]
            rw [rI3 (by omega), a15, show (1 : Int32) = II 1 from rfl, I_add, hv]
            refine ih (by omega) _ (Nf_s (Nf_s aN (by omega)) (by omega)) ?_ ?_ rI1 ?_
            · rw [rI3 (by omega), rI3 (by omega)]; exact a16
            · rw [rI3 (by omega), rI3 (by omega)]; exact a17
            · rw [rI3 (by omega), rI1]
          unfold wbX12_next_232
          rw [a15, aB.2.1, I_le (by omega)]
          refine ⟨fun y => by omega, fun _ => ?_⟩
          rw [I_cl (by omega), Int.toNat_natCast, c.1]
          refine ⟨of_eq_true (I_in (by omega)), rin_ok c.2 (fun w => ⟨fun v => absurd v i10, fun _ => ?_⟩) (fun w => ?_)⟩
          · rw [a18, show (99999 : Int32) = II 99999 from rfl, I_le (by omega)]
            refine ⟨fun v => ?_, fun v => nx _ (by rw [ev, if_neg (by omega)])⟩
            rw [a15, I_cl (by omega), Int.toNat_natCast, c.1, xi]
            refine ⟨of_eq_true (I_in (by omega)), ?_⟩
            rw [show (10 : Int32) = II 10 from rfl, I_mul, I_add, show (48 : Int32) = II 48 from rfl, I_sub, show (10 : Int) * ((rv b s (i - s) : Nat) : Int) + (b i : Int) - 48 = ((10 * rv b s (i - s) + (b i - 48) : Nat) : Int) by omega]
            exact nx _ (by rw [ev, if_pos (by omega)])
          · rw [allD i hle hi] at w; exact absurd w (by decide)
      · -- a sign
        obtain ⟨α, eα⟩ : ∃ α, α = sI (sI ρ 75 15 (gI ρ 75 15 + 1)) 75 18 (II (xb (b s))) := ⟨_, rfl⟩
        rw [← eα]
        have aN : Nf υ α := by rw [eα]; exact Nf_s (Nf_s rN (by omega)) (by omega)
        have aB := Nf_B aN hb
        have a16 : gI α 75 16 = II s := by rw [eα, rI3 (by omega), rI3 (by omega)]; exact r16
        have a15 : gI α 75 15 = II ((s + 1 : Nat) : Int) := by rw [eα, rI3 (by omega), rI1, r15, show (1 : Int32) = II 1 from rfl, I_add]; rfl
        have a18 : gI α 75 18 = II (xb (b s)) := by rw [eα, rI1]
        clear eα
        have wb := wid_b b l s
        -- with its sort
        have c371 : ∀ k0 : Nat, ((b s = 60 ∨ b s = 62) → k0 = 3) → (¬ (b s = 60 ∨ b s = 62) → k0 = sO (sgn (b s)) ∧ (sgn (b s) < 36 → xb (b s) = ((tO (sgn (b s)) : Nat) : Int))) → k0 ≤ 4 → wbX12_next_371 post (II (xb (b s))) (II k0) α := by
          intro k0 h1 h2 hk0
          unfold wbX12_next_371
          simp only [fe]
          have xe : ∀ y : Nat, y < 128 → ((II (xb (b s)) = II (y : Int)) ↔ b s = y) := fun y hy => by rw [I_eq (by omega)]; exact xbb.2.2.1 y hy
          have c386 : (b s = 60 ∨ b s = 62) → wbX12_next_386 post (II (xb (b s))) (sI α 75 17 (II k0)) := by
            intro w
            have ee : edT b l s = s + 1 + wid b l s := by unfold edT; rw [if_neg (by rw [cl]; decide), if_neg (by rw [cd]; decide), if_pos w]
            have ek : kdT b l s = (if b s = 60 then 22 else 24) + wid b l s := by
              unfold kdT; rw [if_neg (by rw [cl]; decide), if_neg (by rw [cd]; decide)]
              rcases w with w | w
              · rw [if_pos w, if_pos w]
              · rw [if_neg (by omega), if_pos w, if_neg (by omega)]
            have ek3 := h1 w
            have e15 : gI (sI α 75 17 (II k0)) 75 15 = II ((s + 1 : Nat) : Int) := by rw [rI3 (by omega)]; exact a15
            have e14 : gI (sI α 75 17 (II k0)) 75 14 = II l := by rw [rI3 (by omega)]; exact aB.2.1
            have narrow : wid b l s = 0 → post (sI α 75 17 (II k0)) := fun w0 => by
              refine hq _ (Nf_s aN (by omega)) ⟨by rw [rI3 (by omega)]; exact a16, fun _ => ⟨?_, fun _ => ?_, fun y => by rw [ek] at y; split at y <;> omega, ?_⟩, fun y => by omega⟩
              · rw [rI1, ek, w0, ek3]
                rcases w with w | w
                · rw [if_pos w]; rfl
                · rw [if_neg (by omega)]; rfl
              · rw [rI3 (by omega), a18, ek, w0]
                rcases w with w | w
                · rw [if_pos w, w]; rfl
                · rw [if_neg (by omega), w]; rfl
              · rw [rI3 (by omega), a15, ee, w0]
            unfold wbX12_next_386
            rw [e15, e14, I_le (by omega)]
            refine ⟨fun y => narrow (by unfold wid; rw [if_neg (by omega)]), fun y => ?_⟩
            have c := aB.2.2 (s + 1) (by omega)
            rw [I_cl (by omega), Int.toNat_natCast, rI2 (by omega), c.1]
            refine ⟨of_eq_true (I_in (by omega)), ?_⟩
            have x1 := (xb_b c.2).2.2.1 61 (by omega)
            have x2 := xb_b c.2
            rw [show (61 : Int32) = II ((61 : Nat) : Int) from rfl, I_eq (by omega)]
            refine ⟨fun v => narrow (by unfold wid; rw [if_neg (fun u => v (x1.mpr u.2))]), fun v => ?_⟩
            have w1 : wid b l s = 1 := by unfold wid; rw [if_pos ⟨by omega, x1.mp v⟩]
            have c427 : ∀ t : Nat, t = tO (kdT b l s) → wbX12_next_427 post (II t) (sI α 75 17 (II k0)) := by
              intro t et
              unfold wbX12_next_427
              simp only [fe]
              rw [rI3 (by omega), rI3 (by omega), a15, show (1 : Int32) = II 1 from rfl, I_add, show ((s + 1 : Nat) : Int) + 1 = ((edT b l s : Nat) : Int) by rw [ee, w1]; omega]
              refine hq _ (Nf_s (Nf_s (Nf_s aN (by omega)) (by omega)) (by omega)) ⟨?_, fun _ => ⟨?_, fun _ => ?_, fun y => by rw [ek] at y; split at y <;> omega, rI1⟩, fun y => by omega⟩
              · rw [rI3 (by omega), rI3 (by omega), rI3 (by omega)]; exact a16
              · rw [rI3 (by omega), rI3 (by omega), rI1, ek, w1, ek3]
                rcases w with w | w
                · rw [if_pos w]; rfl
                · rw [if_neg (by omega)]; rfl
              · rw [rI3 (by omega), rI1, et]
            rw [show (60 : Int32) = II ((60 : Nat) : Int) from rfl, xe 60 (by omega)]
            refine ⟨fun u => c427 301 ?_, fun u => c427 300 ?_⟩
            · rw [ek, w1, if_neg u]; rfl
            · rw [ek, w1, if_pos u]; rfl
          rw [show (60 : Int32) = II ((60 : Nat) : Int) from rfl, xe 60 (by omega), show (62 : Int32) = II ((62 : Nat) : Int) from rfl, xe 62 (by omega)]
          refine ⟨fun w => c386 (Or.inl w), fun w => ⟨fun w2 => ?_, fun w2 => c386 (Or.inr w2)⟩⟩
          have nn : ¬ (b s = 60 ∨ b s = 62) := by omega
          obtain ⟨g1, g2⟩ := h2 nn
          have ee : edT b l s = s + 1 := by unfold edT; rw [if_neg (by rw [cl]; decide), if_neg (by rw [cd]; decide), if_neg nn]
          have ek : kdT b l s = sgn (b s) := by unfold kdT; rw [if_neg (by rw [cl]; decide), if_neg (by rw [cd]; decide), if_neg (by omega), if_neg (by omega)]
          have sb := sgn_b (b s)
          refine hq _ (Nf_s aN (by omega)) ⟨by rw [rI3 (by omega)]; exact a16, fun _ => ⟨by rw [rI1, ek, g1], fun y => ?_, fun y => by rw [ek] at y; omega, by rw [rI3 (by omega), a15, ee]⟩, fun y => by omega⟩
          rw [rI3 (by omega), a18, ek, g2 (by rw [← ek]; exact y)]
        have sr := sg_ref ⟨b s, bl⟩ cl cd
        have yes3 : (b s = 59 ∨ b s = 60 ∨ b s = 61 ∨ b s = 62 ∨ (40 ≤ b s ∧ b s ≤ 45) ∨ b s = 47 ∨ b s = 35) → wbX12_next_371 post (II (xb (b s))) 3 α := by
          intro w
          refine c371 3 (fun _ => rfl) (fun nn => ?_) (by omega)
          have := (sr (by simp only; omega) (by simp only; omega)).1 (by simp only; omega)
          simp only at this
          refine ⟨by rw [this.2.1], fun _ => ?_⟩
          rw [this.2.2]; exact xbb.2.2.2.1 (by omega)
        have no4 : ¬ (b s = 59 ∨ b s = 60 ∨ b s = 61 ∨ b s = 62 ∨ (40 ≤ b s ∧ b s ≤ 45) ∨ b s = 47 ∨ b s = 35) → wbX12_next_371 post (II (xb (b s))) 4 α := by
          intro w
          refine c371 4 (fun y => by omega) (fun nn => ?_) (by omega)
          have := (sr (by simp only; omega) (by simp only; omega)).2 (by simp only; omega)
          simp only at this
          refine ⟨by rw [this]; rfl, fun y => by omega⟩
        have e1 : (59 ≤ xb (b s) ∧ xb (b s) ≤ 62 ↔ 59 ≤ b s ∧ b s ≤ 62) ∧ (40 ≤ xb (b s) ∧ xb (b s) ≤ 45 ↔ 40 ≤ b s ∧ b s ≤ 45) := by
          by_cases c : b s < 128
          · rw [xbb.2.2.2.1 c]; omega
          · have := xbb.2.2.2.2 (by omega); omega
        refine in_ok (b := 59) (c := 62) (by omega) (fun w => ⟨fun _ => yes3 (by have := e1.1.mp w; omega), fun v => absurd v i10⟩) (fun w => ⟨fun v => absurd rfl v, fun _ => ?_⟩)
        refine in_ok (b := 40) (c := 45) (by omega) (fun w2 => ⟨fun _ => yes3 (by have := e1.2.mp w2; omega), fun v => absurd v i10⟩) (fun w2 => ⟨fun v => absurd rfl v, fun _ => ?_⟩)
        have x47 := xbb.2.2.1 47 (by omega)
        have x35 := xbb.2.2.1 35 (by omega)
        rw [show (47 : Int32) = II ((47 : Nat) : Int) from rfl, I_eq (by omega), show (35 : Int32) = II ((35 : Nat) : Int) from rfl, I_eq (by omega)]
        have n1 : ¬ (59 ≤ b s ∧ b s ≤ 62) := fun y => w (e1.1.mpr y)
        have n2 : ¬ (40 ≤ b s ∧ b s ≤ 45) := fun y => w2 (e1.2.mpr y)
        exact ⟨fun v => yes3 (by have := x47.mp v; omega), fun v => ⟨fun u => no4 (fun y => by
          have a : b s ≠ 47 := fun e => v (x47.mpr e)
          have c : b s ≠ 35 := fun e => u (x35.mpr e)
          omega), fun u => yes3 (by have := x35.mp u; omega)⟩⟩
  · skip
    refine hq _ (Nf_s rN (by omega)) ⟨by rw [rI3 (by omega)]; exact r16, fun y => by omega, fun _ => ⟨rI1, by rw [rI3 (by omega), r15]; congr 1⟩⟩
