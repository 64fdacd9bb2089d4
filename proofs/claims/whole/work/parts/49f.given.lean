/-! given -/
theorem isOrAll_ok {σ : St} {a b : Int} {post : Int32 → St → Prop} (h : -2147483648 ≤ a ∧ a < 2147483648 ∧ -2147483648 ≤ b ∧ b < 2147483648) (h1 : a = -1 ∨ a = b → post (II 1) σ) (h0 : ¬ (a = -1 ∨ a = b) → post (II 0) σ) : wpX11_isOrAll (II a) (II b) σ post := by
  simp (disch := omega) only [wpX11_isOrAll, I_lit, I_neg, I_eq]
  exact ⟨fun q => h1 (Or.inl q), fun q => ⟨fun q2 => h0 (by omega), fun q2 => h1 (Or.inr q2)⟩⟩
theorem isPart_ok {σ : St} {a b : Int} {post : Int32 → St → Prop} (h : -2147483648 ≤ a ∧ a < 2147483648 ∧ 0 ≤ b ∧ b < 2147483648) (h1 : -1 ≤ a ∧ a ≤ b → post (II 1) σ) (h0 : ¬ (-1 ≤ a ∧ a ≤ b) → post (II 0) σ) : wpX12_isPart (II a) (II b) σ post := by
  simp (disch := omega) only [wpX12_isPart, I_lit, I_neg, I_eq]
  refine ⟨fun q => h1 (by omega), fun q => in_ok (b := 0) (by omega) (fun q2 => ?_) (fun q2 => ?_)⟩
  · exact ⟨fun z => absurd z (by decide), fun _ => h1 (by omega)⟩
  · exact ⟨fun _ => h0 (by omega), fun z => absurd rfl z⟩
def selC (p s x : Int) (c : Nat) : Prop := (p = -1 ∨ p = (c : Int) / 4) ∧ (s = -1 ∨ s = (c : Int) / 2 - (c : Int) / 2 / 2 * 2) ∧ (x = -1 ∨ x = (c : Int) - (c : Int) / 2 * 2)
noncomputable def inG (G : GV) (Y : Nat) (a : Int) (c N : Nat) : Int := sm (fun n => if a = -1 ∨ a = (n : Int) then G Y c n else 0) N
theorem cgiven_in {σ : St} {m : MT} {G : GV} {y p s x a t : Int} {c : Nat} {b : Bool} {K : Int32 → Int32 → Int32 → Int32 → Int32 → Int32 → Int32 → St → Prop} {post : Int32 → St → Prop} (h1 : gI σ 1 0 = II (m 1)) (w1 : 0 ≤ m 1 ∧ m 1 ≤ 16) (hG : GC G) (hy : -40 ≤ y ∧ y ≤ 60) (ha : -1 ≤ a ∧ a ≤ 16) (hc : c < 12)
    (hr : 0 ≤ y → Rows σ 0 G (y.toNat + 1)) (hg : y < 0 → ∀ n : Nat, (n : Int) < m 1 → gI σ 10 (((y + 40).toNat * 12 + c) * 16 + n) = II (G (y + 40).toNat c n))
    (hk : K (II y) (II p) (II s) (II x) (II a) (II (t + if b then inG G (y + 40).toNat a c (m 1).toNat else 0)) (II ((c : Int) + 1)) σ) :
    ∃ f, wbX11_given_128 K post f (II y) (II p) (II s) (II x) (II a) (II t) (II c) (II (bI b)) 0 σ := by
  cases b with
  | false =>
    refine ⟨1, ?_⟩
    rw [show (if false = true then inG G (y + 40).toNat a c (m 1).toNat else 0) = 0 from rfl, Int.add_zero] at hk
    unfold wbX11_given_128
    simp (disch := omega) only [h1, I_lit, I_le, fe, I_add]
    exact ⟨fun _ => hk, fun _ => ⟨fun _ => hk, fun z => absurd rfl z⟩⟩
  | true =>
    rw [show (if true = true then inG G (y + 40).toNat a c (m 1).toNat else 0) = inG G (y + 40).toNat a c (m 1).toNat from rfl] at hk
    have key := up (P := fun f n => wbX11_given_128 K post f (II y) (II p) (II s) (II x) (II a) (II (t + inG G (y + 40).toNat a c n)) (II c) (II (bI true)) (II n) σ) (m 1).toNat ?_ ?_ 0 (by omega)
    · obtain ⟨f, hf⟩ := key
      rw [show inG G (y + 40).toNat a c 0 = 0 from rfl, Int.add_zero] at hf
      exact ⟨f, hf⟩
    · intro f
      unfold wbX11_given_128
      simp (disch := omega) only [h1, I_lit, I_le, fe, I_add]
      exact ⟨fun _ => hk, fun z => absurd (by omega) z⟩
    · intro f n hn ih
      have es : inG G (y + 40).toNat a c (n + 1) = inG G (y + 40).toNat a c n + (if a = -1 ∨ a = (n : Int) then G (y + 40).toNat c n else 0) := rfl
      rw [es, ← Int.add_assoc] at ih
      unfold wbX11_given_128
      simp (disch := omega) only [h1, I_le]
      refine ⟨fun q => absurd q (by omega), fun _ => ⟨fun q => absurd q (by decide), fun _ => ?_⟩⟩
      refine isOrAll_ok (by omega) (fun q => ?_) (fun q => ?_)
      · refine ⟨fun z => absurd z (by decide), fun _ => ?_⟩
        rw [if_pos q] at ih
        simp (disch := omega) only [I_lit, I_le, fe, I_add]
        refine ⟨fun q2 => ?_, fun q2 => ?_⟩
        · obtain ⟨Y, rfl⟩ : ∃ Y : Nat, y = Y := ⟨y.toNat, by omega⟩
          refine inRow_ok (hr q2) hG (by omega) (by omega) hc (by omega) ?_
          rw [I_add, show 40 + Y = ((Y : Int) + 40).toNat by omega]
          exact ih
        · have e10 := hg (by omega) n (by omega)
          have j : (((y + 40) * 12 + (c : Int)) * 16 + (n : Int)).toNat = ((y + 40).toNat * 12 + c) * 16 + n := by omega
          simp (disch := omega) only [wpX4_toldCell, I_lit, I_neg, I_sub, I_mul, I_add]
          rw [show (y - -40) = y + 40 by omega]
          simp (disch := omega) only [I_in, true_and, I_cl, j, e10, I_add]
          exact ih
      · refine ⟨fun _ => ?_, fun z => absurd rfl z⟩
        rw [if_neg q, Int.add_zero] at ih
        simp only [fe, I_lit, I_add]
        exact ih
theorem rgiven_in {σ : St} {m : MT} {G : GV} {y p s x a t : Int} {c : Nat} {b : Bool} {K : Int32 → Int32 → Int32 → Int32 → Int32 → Int32 → Int32 → St → Prop} {post : Int32 → St → Prop} (hR : RG σ G) (hm : RM σ m) (w1 : 0 ≤ m 1 ∧ m 1 ≤ 16) (hy : -40 ≤ y ∧ y ≤ 60) (ha : -1 ≤ a ∧ a ≤ 16) (hc : c < 12)
    (hk : K (II y) (II p) (II s) (II x) (II a) (II (t + if b then inG G (y + 40).toNat a c (m 1).toNat else 0)) (II ((c : Int) + 1)) σ) :
    ∃ f, wbX12_sumOf_66 K post f (II y) (II p) (II s) (II x) (II a) (II t) (II c) (II (bI b)) (II 0) σ := by
  have e1 : gI σ 76 1 = II (m 1) := hm 1
  cases b with
  | false =>
    refine ⟨1, ?_⟩
    rw [show (if false = true then inG G (y + 40).toNat a c (m 1).toNat else 0) = 0 from rfl, Int.add_zero] at hk
    unfold wbX12_sumOf_66
    simp (disch := omega) only [e1, I_lit, I_in, true_and, I_cl, Int.reduceToNat, I_le, fe, I_add]
    exact ⟨fun _ => hk, fun _ => ⟨fun _ => hk, fun z => absurd rfl z⟩⟩
  | true =>
    rw [show (if true = true then inG G (y + 40).toNat a c (m 1).toNat else 0) = inG G (y + 40).toNat a c (m 1).toNat from rfl] at hk
    have key := up (P := fun f n => wbX12_sumOf_66 K post f (II y) (II p) (II s) (II x) (II a) (II (t + inG G (y + 40).toNat a c n)) (II c) (II (bI true)) (II n) σ) (m 1).toNat ?_ ?_ 0 (by omega)
    · obtain ⟨f, hf⟩ := key
      rw [show inG G (y + 40).toNat a c 0 = 0 from rfl, Int.add_zero] at hf
      exact ⟨f, hf⟩
    · intro f
      unfold wbX12_sumOf_66
      simp (disch := omega) only [e1, I_lit, I_in, true_and, I_cl, Int.reduceToNat, I_le, fe, I_add]
      exact ⟨fun _ => hk, fun z => absurd (by omega) z⟩
    · intro f n hn ih
      have es : inG G (y + 40).toNat a c (n + 1) = inG G (y + 40).toNat a c n + (if a = -1 ∨ a = (n : Int) then G (y + 40).toNat c n else 0) := rfl
      rw [es, ← Int.add_assoc] at ih
      have r := hR.1 (y + 40).toNat (by omega) c hc n (by omega)
      have j : (192 * (y + 40) + 16 * (c : Int) + (n : Int)).toNat = 192 * (y + 40).toNat + 16 * c + n := by omega
      have go : (a = -1 ∨ a = (n : Int)) → wbX12_sumOf_97 (wbX12_sumOf_66 K post f) post (II y) (II p) (II s) (II x) (II a) (II c) (II (bI true)) (II n) (II (t + inG G (y + 40).toNat a c n)) σ := by
        intro q
        rw [if_pos q] at ih
        unfold wbX12_sumOf_97
        simp (disch := omega) only [I_lit, I_add, I_mul, I_in, true_and, I_cl, j, r, fe]
        exact ih
      unfold wbX12_sumOf_66
      simp (disch := omega) only [e1, I_lit, I_neg, I_in, true_and, I_cl, Int.reduceToNat, I_le, fe, I_add, I_eq]
      refine ⟨fun q => absurd q (by omega), fun _ => ⟨fun q => absurd q (by decide), fun _ => ⟨fun q => go (Or.inl q), fun q => ⟨fun q2 => ?_, fun q2 => go (Or.inr q2)⟩⟩⟩⟩
      rw [if_neg (by omega)] at ih
      exact ih
