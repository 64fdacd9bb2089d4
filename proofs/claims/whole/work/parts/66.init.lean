/-! the states behind the constructors, and what holds there -/
def ini_z : CS := (fun _ => 0, fun _ => 0, fun _ => none)
def s11 : St := fun q =>
  if q = 9 then (fun k => if k = 1 then 60 else 0, fun _ => 0, fun _ => none)
  else if q = 13 then (upd (upd (fun _ => 0) (0 : Int32).toNatClampNeg (-1)) (1 : Int32).toNatClampNeg (-1), fun _ => 0, fun _ => none)
  else if q = 24 then (fun k => if k < 16 then (-1000) else 0, fun _ => 0, fun _ => none)
  else if q = 28 then (fun k => if k < 16 then (-1000) else 0, fun _ => 0, fun _ => none)
  else if q = 42 then (fun k => if k = 2 then (-1) else if k = 3 then (-1) else 0, fun _ => 0, fun k => if k = 9 then some 30 else none)
  else if q = 47 then (fun k => if k = 6 then (-1) else 0, fun _ => 0, fun k => if k = 5 then some 30 else if k = 8 then some 21 else none)
  else ini_z
def s12 (τ : St) : St := fun q =>
  if q < 75 then τ q
  else if q = 75 then (fun k => if k = 5 then (-1) else if k = 6 then (-1) else 0, fun _ => 0, fun _ => none)
  else if q = 76 then (upd (upd (upd (fun _ => 0) (6 : Int32).toNatClampNeg 60) (7 : Int32).toNatClampNeg (-1)) (8 : Int32).toNatClampNeg (-1), fun _ => 0, fun _ => none)
  else ini_z
def ini_m : MT := fun k => if k = 6 then 60 else if k = 7 then -1 else if k = 8 then -1 else 0
def ini_T : TT := (fun _ => 0, fun _ => 0, fun _ _ => 0, fun _ _ => false)
def ini_U : Nat → Nat := fun _ => 0
theorem ini_ge {k : Nat} (h : 9 ≤ k) : ini_m k = 0 := by
  unfold ini_m
  rw [if_neg (show ¬ k = 6 by omega), if_neg (show ¬ k = 7 by omega), if_neg (show ¬ k = 8 by omega)]
theorem ini_no {P : Prop} {k : Nat} (h : (k : Int) < 0) : P := absurd h (by omega)
theorem ini_G : G0 ini_m (ini_m 1).toNat = fun _ _ _ => 0 := by
  funext Y c n
  unfold G0
  have e : (ini_m 1).toNat = 0 := rfl
  exact if_neg (by omega)
theorem ini_gt (Y g n : Nat) : gt (fun _ _ _ => 0) Y g n = 0 := by
  unfold gt
  exact sm_zero (fun c _ => by split <;> rfl)
theorem ini_gy (g n Y : Nat) : sm (gy (fun _ _ _ => 0) g n) Y = 0 := sm_zero (fun k _ => ini_gt k g n)
theorem ini_pk : pk (fun _ => 0) = 0 := by
  unfold pk
  exact sm_zero (fun k _ => Int.zero_mul _)
theorem ini_lat (n : Nat) : ∀ N, lat (fun _ _ _ => 0) n N = -1000 := by
  intro N
  induction N with
  | zero => rfl
  | succ N ih =>
    show (if 0 < gt (fun _ _ _ => 0) N 6 n then (N : Int) - 40 else lat (fun _ _ _ => 0) n N) = -1000
    rw [ini_gt, if_neg (by omega), ih]
theorem ini_CL : CL s11 ini_m := by
  refine ⟨rfl, rfl, rfl, rfl, fun Y _ c _ n _ => ?_, fun c _ => ?_, fun y hy => ini_no hy, fun s hs => ?_, fun y hy => ini_no hy, fun k hk => ini_no hk, fun k hk => ini_no hk⟩
  · rw [ini_ge (by omega)]; rfl
  · rw [ini_ge (by omega)]; rfl
  · rcases (show s = 0 ∨ s = 1 by omega) with e | e <;> subst e <;> decide +kernel
theorem ini_WF : WFm ini_m := by
  refine ⟨by decide, by decide, by decide, by decide, by decide, by decide, by decide, fun s hs => ?_, fun c _ => ?_, fun n hn => ini_no hn, fun n hn => ini_no hn, fun n hn => ini_no hn, fun n hn => ini_no hn, fun Y _ c _ n _ => ?_⟩
  · rcases (show s = 0 ∨ s = 1 by omega) with e | e <;> subst e <;> decide
  · rw [ini_ge (by omega)]; decide
  · rw [ini_ge (by omega)]; decide
theorem ini_BZ : BZ ini_m := fun Y _ c _ n _ _ => ini_ge (by omega)
theorem ini_PW : PW ini_m := fun k hk => ini_no hk
theorem ini_keep : wpX2_keep 0 s11 (fun τ => Eqx [70, 71, 72, 73, 74] s11 τ ∧ IMs τ ini_m) := by
  obtain ⟨d1, d2, d3, d4, d5, d6, d7, d8, d9, d10, d11⟩ := ini_CL
  have z0 : (0 : Int32).toNatClampNeg = 0 := rfl
  have k12 : (12 : Int32).toNatClampNeg = 12 := rfl
  have k2 : (2 : Int32).toNatClampNeg = 2 := rfl
  have k3 : (7680 : Int32).toNatClampNeg = 7680 := rfl
  have k4 : (4592 : Int32).toNatClampNeg = 4592 := rfl
  have q0 : gI s11 70 0 = II (ini_m 1) := rfl
  have q1 : gI s11 70 1 = II (ini_m 4) := rfl
  have q2 : gI s11 70 2 = II (ini_m 5) := rfl
  have hS : ∀ Y, Y ≤ 40 → ∀ g, g < 7 → ∀ n, n < 16 → gI s11 23 (Y * 112 + (g * 16 + n)) = II (sm (gy (G0 ini_m (ini_m 1).toNat) g n) Y) := by
    intro Y _ g _ n _
    rw [ini_G, ini_gy]; rfl
  generalize s11 = σ at *
  unfold wpX2_keep
  simp only [fe, z0, k12, k2, k3, k4]
  refine ⟨by decide, by decide, by decide, by omega, by omega, by decide, by decide, by decide, by omega, by omega, by decide, by decide, by decide, by omega, by omega, by decide, by decide, by decide, by omega, by omega, ?_⟩
  refine ⟨?_, ?_⟩
  · exact Eqx_tA (Eqx_tA (Eqx_tA (Eqx_tA (Eqx_tI (Eqx_tI (Eqx_tI (Eqx_tI (Eqx.refl _ _) (by simp)) (by simp)) (by simp)) (by simp)) (by simp)) (by simp)) (by simp)) (by simp)
  · unfold IMs
    simp (disch := omega) only [rI1, rI2, rI3, rA1, rA2, ce_sI, ce_sA, ne_eq, sb_cpy0]
    refine ⟨q0, q1, q2, d1, d2, d3, d4, fun c hc => ?_, fun s hs => ?_, fun Y hY c hc n hn => ?_, fun Y hY g hg n hn => ?_⟩
    · rw [sb_cpy0 hc]; exact d6 c hc
    · rw [sb_cpy0 hs]; exact d8 s hs
    · rw [sb_cpy0 (by omega)]; exact d5 Y hY c hc n hn
    · rw [sb_cpy0 (by omega)]; exact hS Y hY g hg n hn
theorem ini_RM (τ : St) : RM (s12 τ) ini_m := by
  intro k
  have c6 : (6 : Int32).toNatClampNeg = 6 := rfl
  have c7 : (7 : Int32).toNatClampNeg = 7 := rfl
  have c8 : (8 : Int32).toNatClampNeg = 8 := rfl
  show upd (upd (upd (fun _ => 0) (6 : Int32).toNatClampNeg 60) (7 : Int32).toNatClampNeg (-1)) (8 : Int32).toNatClampNeg (-1) k = II (ini_m k)
  rw [c6, c7, c8]
  unfold upd ini_m
  by_cases h8 : k = 8
  · subst h8; rfl
  · by_cases h7 : k = 7
    · subst h7; rfl
    · by_cases h6 : k = 6
      · subst h6; rfl
      · simp only [h8, h7, h6, if_false]; rfl
theorem ini_inv {τ : St} (hE : Eqx [70, 71, 72, 73, 74] s11 τ) (hI : IMs τ ini_m) : wpX12_copies 1 (s12 τ) Inv := by
  show wpX12_copies (II 1) (s12 τ) Inv
  refine copies_ok (a := ini_m) (b := fun _ => 0) (out := 1) (ini_RM τ) (fun k => rfl) (Or.inr rfl) (fun k hk => ini_ge (by omega)) ?_
  intro ρ rE r76 r77
  rw [if_neg (by omega)] at r76
  simp only [show ¬ ((1 : Int) = 0) by omega, if_false] at r77
  have f : ∀ q, q < 70 → ρ q = s11 q := fun q hq => by
    rw [← rE q (by simp; omega), show s12 τ q = τ q from if_pos (by omega), ← hE q (by simp; omega)]
  have g : ∀ q, 70 ≤ q → q ≤ 74 → ρ q = τ q := fun q h1 h2 => by
    rw [← rE q (by simp; omega), show s12 τ q = τ q from if_pos (by omega)]
  have h75 : ρ 75 = s12 τ 75 := (rE 75 (by simp)).symm
  have hr : run (KK ini_m ini_U ini_T) 0 = fun _ _ _ => 0 := ini_G
  refine ⟨ini_m, ini_m, ini_U, ini_T, ⟨r76, r77, ini_WF, ini_WF, ini_BZ, ini_BZ, ini_PW, ini_PW, Ex1.refl ini_m⟩, ?_⟩
  refine ⟨⟨?_, fun n hn => ini_no hn⟩, ⟨fun t ht => ini_no ht, fun t ht => ini_no ht⟩, CL_eq ini_CL (fun q hq => f q ?_), ⟨fun t ht => ini_no ht, ?_⟩, ?_, fun y hy => ini_no hy, ⟨?_, fun k hk => ini_no hk⟩, RUs_0 ?_, ⟨?_, ?_⟩, ⟨0, by omega, ?_, ?_, fun j hj => absurd hj (by omega), ?_, ?_⟩, IMs_c hI g⟩
  · rw [gI_of (f 1 (by omega))]; rfl
  · simp only [CE, List.mem_cons, List.not_mem_nil, or_false] at hq; omega
  · rw [gI_of (f 0 (by omega))]; rfl
  · show Bk ρ 0 (run (KK ini_m ini_U ini_T) 0) 0
    rw [hr]
    refine ⟨?_, fun Y _ g _ n _ => ?_, fun y _ c _ => ?_, fun n hn => ?_, fun _ _ _ _ _ => rfl, by omega⟩
    · rw [gI_of (f (21 + 4 * 0) (by omega))]; rfl
    · rw [gI_of (f (21 + 4 * 0 + 2) (by omega)), ini_gy]; rfl
    · rw [gL_of (f (21 + 4 * 0 + 1) (by omega)), ini_pk]; rfl
    · rw [gI_of (f (21 + 4 * 0 + 3) (by omega)), ini_lat]
      show (if n < 16 then (-1000 : Int32) else 0) = II (-1000)
      rw [if_pos hn]; rfl
  · rw [gI_of (f 64 (by omega))]; rfl
  · rw [gI_of (f 64 (by omega))]; rfl
  · rw [gI_of (f 47 (by omega))]; rfl
  · rw [gI_of (f 47 (by omega))]; rfl
  · rw [gI_of (f 42 (by omega))]; rfl
  · rw [gI_of h75]; rfl
  · rw [gI_of (f 42 (by omega)), gI_of h75]; rfl
  · rw [gI_of (f 42 (by omega)), gI_of h75]; rfl
