/-! the law: all calls, one after another -/
theorem law_ok {L : Nat} {xs : Nat → Int32} (hL : L ≤ 3584) : ∀ σ, Inv σ → ∃ f, wbL_law_18 L xs f (II 0) σ := by
  intro σ0 h0
  have eL : Int32.ofNat L = II (L : Int) := I_nI L
  have key := up (P := fun f i => ∀ σ, Inv σ → wbL_law_18 L xs f (II ((7 * i : Nat) : Int)) σ) (L / 7) ?_ ?_ 0 (by omega)
  · obtain ⟨f, hf⟩ := key
    exact ⟨f, hf σ0 h0⟩
  · intro f σ _
    unfold wbL_law_18
    rw [eL, show (7 : Int32) = II 7 from rfl, I_sub, I_lt (by omega)]
    exact ⟨fun _ => trivial, fun z => absurd (show (L : Int) - 7 < ((7 * (L / 7) : Nat) : Int) by omega) z⟩
  · intro f i hi ih σ inv
    obtain ⟨v3, e3⟩ : ∃ v3, v3 = II ((7 * i : Nat) : Int) := ⟨_, rfl⟩
    have e7 : v3 + 7 = II ((7 * (i + 1) : Nat) : Int) := by rw [e3, show (7 : Int32) = II 7 from rfl, I_add]; congr 1
    have hv0 : vp_in v3 L := by rw [e3]; exact of_eq_true (I_in (by omega))
    have hv1 : vp_in (v3 + 1) L := by rw [e3, show (1 : Int32) = II 1 from rfl, I_add]; exact of_eq_true (I_in (by omega))
    have hv2 : vp_in (v3 + 2) L := by rw [e3, show (2 : Int32) = II 2 from rfl, I_add]; exact of_eq_true (I_in (by omega))
    have hv3 : vp_in (v3 + 3) L := by rw [e3, show (3 : Int32) = II 3 from rfl, I_add]; exact of_eq_true (I_in (by omega))
    have hv4 : vp_in (v3 + 4) L := by rw [e3, show (4 : Int32) = II 4 from rfl, I_add]; exact of_eq_true (I_in (by omega))
    have hv5 : vp_in (v3 + 5) L := by rw [e3, show (5 : Int32) = II 5 from rfl, I_add]; exact of_eq_true (I_in (by omega))
    have hv6 : vp_in (v3 + 6) L := by rw [e3, show (6 : Int32) = II 6 from rfl, I_add]; exact of_eq_true (I_in (by omega))
    have hlt : ¬ (Int32.ofNat L - 7 < v3) := by rw [e3, eL, show (7 : Int32) = II 7 from rfl, I_sub, I_lt (by omega)]; omega
    have fin : ∀ (r r2 : Int32) (τ : St), Q2 r r2 τ → ((r = r2 → ∀ v : Int32, v = v3 + 7 → wbL_law_18 L xs f v τ) ∧ (¬ r = r2 → False)) := fun r r2 τ q => ⟨fun _ v ev => by rw [ev, e7]; exact ih τ q.2, fun n => n q.1⟩
    rw [← e3]
    unfold wbL_law_18
    refine ⟨fun z => absurd z hlt, fun _ => ⟨hv0, fun x _ => ?_⟩⟩
    clear hlt eL
    refine ⟨fun _ => ?_, fun _ => ?_⟩
    · exact ⟨hv1, hv2, hv3, mn_wpX11_name (fun r τ h => ⟨hv1, hv2, hv3, mn_wpX12_name (fun r2 τ2 h2 => fin r r2 τ2 h2) h⟩) (name_ok inv _ _)⟩
    refine ⟨fun _ => ?_, fun _ => ?_⟩
    · exact ⟨hv1, hv2, mn_wpX11_of (fun r τ h => ⟨hv1, hv2, mn_wpX12_of (fun r2 τ2 h2 => fin r r2 τ2 h2) h⟩) (of_ok inv _ _)⟩
    refine ⟨fun _ => ?_, fun _ => ?_⟩
    · exact ⟨hv1, hv2, mn_wpX11_alike (fun r τ h => ⟨hv1, hv2, mn_wpX12_alike (fun r2 τ2 h2 => fin r r2 τ2 h2) h⟩) (alike_ok inv _ _)⟩
    refine ⟨fun _ => ?_, fun _ => ?_⟩
    · exact ⟨hv1, hv2, hv3, hv4, hv5, hv6, mn_wpX11_born (fun r τ h => ⟨hv1, hv2, hv3, hv4, hv5, hv6, mn_wpX12_born (fun r2 τ2 h2 => fin r r2 τ2 h2) h⟩) (born_ok inv _ _ _ _ _ _)⟩
    refine ⟨fun _ => ?_, fun _ => ?_⟩
    · exact ⟨hv1, mn_wpX11_life (fun r τ h => ⟨hv1, mn_wpX12_life (fun r2 τ2 h2 => fin r r2 τ2 h2) h⟩) (life_ok inv _)⟩
    refine ⟨fun _ => ?_, fun _ => ?_⟩
    · exact ⟨hv1, hv2, hv3, hv4, mn_wpX11_cradles (fun r τ h => ⟨hv1, hv2, hv3, hv4, mn_wpX12_cradles (fun r2 τ2 h2 => fin r r2 τ2 h2) h⟩) (cradles_ok inv _ _ _ _)⟩
    refine ⟨fun _ => ?_, fun _ => ?_⟩
    · exact ⟨hv1, hv2, mn_wpX11_list (fun r τ h => ⟨hv1, hv2, mn_wpX12_list (fun r2 τ2 h2 => fin r r2 τ2 h2) h⟩) (list_ok inv _ _)⟩
    refine ⟨fun _ => ?_, fun _ => ?_⟩
    · exact ⟨hv1, hv2, hv3, mn_wpX11_film (fun r τ h => ⟨hv1, hv2, hv3, mn_wpX12_film (fun r2 τ2 h2 => fin r r2 τ2 h2) h⟩) (film_ok inv _ _ _)⟩
    refine ⟨fun _ => ?_, fun _ => ?_⟩
    · exact ⟨hv1, hv2, hv3, hv4, hv5, mn_wpX11_feed (fun r τ h => ⟨hv1, hv2, hv3, hv4, hv5, mn_wpX12_feed (fun r2 τ2 h2 => fin r r2 τ2 h2) h⟩) (feed_ok inv _ _ _ _ _)⟩
    refine ⟨fun _ => ?_, fun _ => ?_⟩
    · exact ⟨hv1, mn_wpX11_end (fun r τ h => ⟨hv1, mn_wpX12_end (fun r2 τ2 h2 => fin r r2 τ2 h2) h⟩) (end_ok inv _)⟩
    refine ⟨fun _ => ?_, fun _ => ?_⟩
    · exact mn_wpX11_taste (fun r τ h => mn_wpX12_taste (fun r2 τ2 h2 => fin r r2 τ2 h2) h) (taste_ok inv)
    refine ⟨fun _ => ?_, fun _ => ?_⟩
    · exact ⟨hv1, mn_wpX11_fault (fun r τ h => ⟨hv1, mn_wpX12_fault (fun r2 τ2 h2 => fin r r2 τ2 h2) h⟩) (fault_ok inv _)⟩
    refine ⟨fun _ => ?_, fun _ => ?_⟩
    · exact ⟨hv1, hv2, mn_wpX11_by (fun r τ h => ⟨hv1, hv2, mn_wpX12_by (fun r2 τ2 h2 => fin r r2 τ2 h2) h⟩) (by_ok inv _ _)⟩
    refine ⟨fun _ => ?_, fun _ => ?_⟩
    · exact ⟨hv1, mn_wpX11_years (fun r τ h => ⟨hv1, mn_wpX12_years (fun r2 τ2 h2 => fin r r2 τ2 h2) h⟩) (years_ok inv _)⟩
    refine ⟨fun _ => ?_, fun _ => ?_⟩
    · exact ⟨hv1, hv2, hv3, hv4, hv5, mn_wpX11_given (fun r τ h => ⟨hv1, hv2, hv3, hv4, hv5, mn_wpX12_given (fun r2 τ2 h2 => fin r r2 τ2 h2) h⟩) (given_ok inv _ _ _ _ _)⟩
    refine ⟨fun _ => ?_, fun _ => ?_⟩
    · exact ⟨hv1, mn_wpX11_unnamed (fun r τ h => ⟨hv1, mn_wpX12_unnamed (fun r2 τ2 h2 => fin r r2 τ2 h2) h⟩) (unnamed_ok inv _)⟩
    refine ⟨fun _ => ?_, fun _ => ?_⟩
    · exact ⟨hv1, hv2, hv3, hv4, mn_wpX11_now (fun r τ h => ⟨hv1, hv2, hv3, hv4, mn_wpX12_now (fun r2 τ2 h2 => fin r r2 τ2 h2) h⟩) (now_ok inv _ _ _ _)⟩
    refine ⟨fun _ => ?_, fun _ => ?_⟩
    · exact ⟨hv1, hv2, mn_wpX11_shape (fun r τ h => ⟨hv1, hv2, mn_wpX12_shape (fun r2 τ2 h2 => fin r r2 τ2 h2) h⟩) (shape_ok inv _ _)⟩
    refine ⟨fun _ => ?_, fun _ => ?_⟩
    · exact ⟨hv1, mn_wpX11_shapes (fun r τ h => ⟨hv1, mn_wpX12_shapes (fun r2 τ2 h2 => fin r r2 τ2 h2) h⟩) (shapes_ok inv _)⟩
    refine ⟨fun _ => ?_, fun _ => ?_⟩
    · exact ⟨hv1, mn_wpX11_lag (fun r τ h => ⟨hv1, mn_wpX12_lag (fun r2 τ2 h2 => fin r r2 τ2 h2) h⟩) (lag_ok inv _)⟩
    refine ⟨fun _ => ?_, fun _ => ?_⟩
    · exact ⟨hv1, hv2, mn_wpX11_together (fun r τ h => ⟨hv1, hv2, mn_wpX12_together (fun r2 τ2 h2 => fin r r2 τ2 h2) h⟩) (together_ok inv _ _)⟩
    refine ⟨fun _ => ?_, fun _ => ?_⟩
    · exact ⟨hv1, hv2, hv3, mn_wpX11_took (fun r τ h => ⟨hv1, hv2, hv3, mn_wpX12_took (fun r2 τ2 h2 => fin r r2 τ2 h2) h⟩) (took_ok inv _ _ _)⟩
    refine ⟨fun _ => ?_, fun _ => ?_⟩
    · exact ⟨hv1, hv2, mn_wpX11_sound (fun r τ h => ⟨hv1, hv2, mn_wpX12_sound (fun r2 τ2 h2 => fin r r2 τ2 h2) h⟩) (sound_ok inv _ _)⟩
    refine ⟨fun _ => ?_, fun _ => ?_⟩
    · exact ⟨hv1, hv2, mn_wpX11_crossed (fun r τ h => ⟨hv1, hv2, mn_wpX12_crossed (fun r2 τ2 h2 => fin r r2 τ2 h2) h⟩) (crossed_ok inv _ _)⟩
    refine ⟨fun _ => ?_, fun _ => ?_⟩
    · exact ⟨hv1, hv2, hv3, mn_wpX11_returned (fun r τ h => ⟨hv1, hv2, hv3, mn_wpX12_returned (fun r2 τ2 h2 => fin r r2 τ2 h2) h⟩) (returned_ok inv _ _ _)⟩
    refine ⟨fun _ => ?_, fun _ => ?_⟩
    · refine ⟨hv1, hv2, hv3, hv4, fun c => ?_, fun c => ?_⟩
      · exact mn_wpX11_room (fun r τ h => ⟨hv1, hv2, hv3, hv4, fun _ => mn_wpX12_room (fun r2 τ2 h2 => fin r r2 τ2 h2) h, fun n => absurd c n⟩) (room_ok inv _ _ _ _)
      · exact mn_wpX11_room (fun r τ h => ⟨hv1, hv2, hv3, hv4, fun n => absurd n c, fun _ => mn_wpX12_room (fun r2 τ2 h2 => fin r r2 τ2 h2) h⟩) (room_ok inv _ _ _ _)
    refine ⟨fun _ => ?_, fun _ => ?_⟩
    · exact ⟨hv1, hv2, hv3, hv4, mn_wpX11_best (fun r τ h => ⟨hv1, hv2, hv3, hv4, mn_wpX12_best (fun r2 τ2 h2 => fin r r2 τ2 h2) h⟩) (best_ok inv _ _ _ _)⟩
    refine ⟨fun _ => ?_, fun _ => ?_⟩
    · exact ⟨hv1, hv2, hv3, mn_wpX11_age (fun r τ h => ⟨hv1, hv2, hv3, mn_wpX12_age (fun r2 τ2 h2 => fin r r2 τ2 h2) h⟩) (age_ok inv _ _ _)⟩
    refine ⟨fun _ => ?_, fun _ => ?_⟩
    · exact ⟨hv1, mn_wpX11_guess (fun r τ h => ⟨hv1, mn_wpX12_guess (fun r2 τ2 h2 => fin r r2 τ2 h2) h⟩) (guess_ok inv _)⟩
    refine ⟨fun _ => ?_, fun _ => ?_⟩
    · exact ⟨hv1, hv2, hv3, mn_wpX11_chance (fun r τ h => ⟨hv1, hv2, hv3, mn_wpX12_chance (fun r2 τ2 h2 => fin r r2 τ2 h2) h⟩) (chance_ok inv _ _ _)⟩
    refine ⟨fun _ => ?_, fun _ => ?_⟩
    · exact ⟨hv1, hv2, mn_wpX11_turnover (fun r τ h => ⟨hv1, hv2, mn_wpX12_turnover (fun r2 τ2 h2 => fin r r2 τ2 h2) h⟩) (turnover_ok inv _ _)⟩
    refine ⟨fun _ => ?_, fun _ => ?_⟩
    · exact ⟨hv1, hv2, hv3, hv4, hv5, mn_wpX11_print (fun r τ h => ⟨hv1, hv2, hv3, hv4, hv5, mn_wpX12_print (fun r2 τ2 h2 => fin r r2 τ2 h2) h⟩) (print_ok inv _ _ _ _ _)⟩
    refine ⟨fun _ => ?_, fun _ => ?_⟩
    · exact ⟨hv1, hv2, mn_wpX11_let (fun r τ h => ⟨hv1, hv2, mn_wpX12_let (fun r2 τ2 h2 => fin r r2 τ2 h2) h⟩) (let_ok inv _ _)⟩
    refine ⟨fun _ => ?_, fun _ => ?_⟩
    · refine ⟨hv1, hv2, hv3, hv4, hv5, fun c => ?_, fun c => ?_⟩
      · exact mn_wpX11_span (fun r τ h => ⟨hv1, hv2, hv3, hv4, hv5, fun _ => mn_wpX12_span (fun r2 τ2 h2 => fin r r2 τ2 h2) h, fun n => absurd c n⟩) (span_ok inv _ _ _ _ _)
      · exact mn_wpX11_span (fun r τ h => ⟨hv1, hv2, hv3, hv4, hv5, fun n => absurd n c, fun _ => mn_wpX12_span (fun r2 τ2 h2 => fin r r2 τ2 h2) h⟩) (span_ok inv _ _ _ _ _)
    refine ⟨fun _ => ?_, fun _ => ?_⟩
    · exact ⟨hv1, hv2, mn_wpX11_parts (fun r τ h => ⟨hv1, hv2, mn_wpX12_parts (fun r2 τ2 h2 => fin r r2 τ2 h2) h⟩) (parts_ok inv _ _)⟩
    refine ⟨fun _ => ?_, fun _ => ?_⟩
    · exact mn_wpX11_image (fun r τ h => mn_wpX12_image (fun r2 τ2 h2 => fin r r2 τ2 h2) h) (image_ok inv)
    refine ⟨fun _ => ?_, fun _ => ?_⟩
    · exact mn_wpX11_back (fun r τ h => mn_wpX12_back (fun r2 τ2 h2 => fin r r2 τ2 h2) h) (back_ok inv)
    refine ⟨fun _ => ?_, fun _ => ?_⟩
    · exact ⟨hv1, mn_wpX11_about (fun r τ h => ⟨hv1, mn_wpX12_about (fun r2 τ2 h2 => fin r r2 τ2 h2) h⟩) (about_ok inv _)⟩
    intro v ev
    rw [ev, e7]; exact ih σ inv
