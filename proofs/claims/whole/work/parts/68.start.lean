/-! the law's walk: two constructors, then the loop -/
theorem gr_go {p : Program} {l : Launch} {e : Env} {R : Room} {s : State} {m : MethodId} {args : Array Value} {below : List Frame} {meth : Method} {c : Code} {nL : Nat} {A : Nat → Prop} {Q : State → Prop} {B : BT} {cc : ByteArray} {own : String} {ad : Nat → Nat} {N kc ks pc : Nat} {h : Nat → va_E} {lv : List (Nat × Value)} {st : List Value} {σ : St} (C : CyR (p, l, e, R, s, m, args, below, meth, c, nL, A, Q) B cc own) (hw : ∀ j, j < N → h j = wcc (gB B ad N) j (σ j))
    (k : Cx (p, l, e, R, s, m, args, below, meth, c, nL, A, Q, kc, ks) (gB B ad N) cc own → Go (p, l, e, R, s, m, args, below, meth, c, nL, A, Q, kc, ks) (gB B ad N) pc lv st σ) : Gr (p, l, e, R, s, m, args, below, meth, c, nL, A, Q) B ad N h kc ks pc lv st := by
  have e0 : wr ad N h = wl (gB B ad N) σ := List.map_congr_left (fun j hj => by rw [hw j (List.mem_range.mp hj)])
  intro H locs ls hP hD hS hl
  rw [e0] at hP hD
  exact k ⟨C.1, C.2.1, C.2.2.1, C.2.2.2.1, C.2.2.2.2.1, C.2.2.2.2.2.1, C.2.2.2.2.2.2.1, C.2.2.2.2.2.2.2.1, fun τ => wl_D hD τ, C.2.2.2.2.2.2.2.2.1⟩ H locs ls hP hS hl
theorem w_29 {B : BT} {ad : Nat → Nat} {a : Nat} {x : CS} : wcc (gB B ad 75) 29 x = wcc (gB B (va_up ad 75 a) 75) 29 x := by
  show (Sum.inl (B.2.1 4, 6, .inr (.inr (.inr (.inr fun i => some (ad (30 + 2 * i)))))) : va_E) = Sum.inl (B.2.1 4, 6, .inr (.inr (.inr (.inr fun i => some (va_up ad 75 a (30 + 2 * i))))))
  have e : (fun i => some (va_up ad 75 a (30 + 2 * i))) = fun i => some (ad (30 + 2 * i)) := funext fun i => by rw [vu_ne (by omega)]
  rw [e]
theorem wcc_up {B : BT} {ad : Nat → Nat} {a : Nat} {τ : St} {h : Nat → va_E} (h42 : (τ 42).2.2 9 = some 30) (h475 : (τ 47).2.2 5 = some 30) (h478 : (τ 47).2.2 8 = some 21) (h0 : ∀ q, q < 75 → h q = wcc (gB B ad 75) q (τ q)) : ∀ q, q < 75 → h q = wcc (gB B (va_up ad 75 a) 75) q (τ q) :=
  c75 (h0 0 (by decide)) (h0 1 (by decide)) (h0 2 (by decide)) (h0 3 (by decide)) (h0 4 (by decide)) (h0 5 (by decide)) (h0 6 (by decide)) (h0 7 (by decide)) (h0 8 (by decide)) (h0 9 (by decide)) (h0 10 (by decide)) (h0 11 (by decide)) (h0 12 (by decide)) (h0 13 (by decide)) (h0 14 (by decide)) (h0 15 (by decide)) (h0 16 (by decide)) (h0 17 (by decide)) (h0 18 (by decide)) (h0 19 (by decide)) (h0 20 (by decide)) (h0 21 (by decide)) (h0 22 (by decide)) (h0 23 (by decide)) (h0 24 (by decide)) (h0 25 (by decide)) (h0 26 (by decide)) (h0 27 (by decide)) (h0 28 (by decide)) ((h0 29 (by decide)).trans w_29) (h0 30 (by decide)) (h0 31 (by decide)) (h0 32 (by decide)) (h0 33 (by decide)) (h0 34 (by decide)) (h0 35 (by decide)) (h0 36 (by decide)) (h0 37 (by decide)) (h0 38 (by decide)) (h0 39 (by decide)) (h0 40 (by decide)) (h0 41 (by decide)) ((h0 42 (by decide)).trans (w_42 h42 (fun q hq => vu_ne (by omega)))) (h0 43 (by decide)) (h0 44 (by decide)) (h0 45 (by decide)) (h0 46 (by decide)) ((h0 47 (by decide)).trans (w_47 h475 h478 (fun q hq => vu_ne (by omega)))) (h0 48 (by decide)) (h0 49 (by decide)) (h0 50 (by decide)) (h0 51 (by decide)) (h0 52 (by decide)) (h0 53 (by decide)) (h0 54 (by decide)) (h0 55 (by decide)) (h0 56 (by decide)) (h0 57 (by decide)) (h0 58 (by decide)) (h0 59 (by decide)) (h0 60 (by decide)) (h0 61 (by decide)) (h0 62 (by decide)) (h0 63 (by decide)) (h0 64 (by decide)) (h0 65 (by decide)) (h0 66 (by decide)) (h0 67 (by decide)) (h0 68 (by decide)) (h0 69 (by decide)) (h0 70 (by decide)) (h0 71 (by decide)) (h0 72 (by decide)) (h0 73 (by decide)) (h0 74 (by decide))
set_option maxRecDepth 100000 in
set_option maxHeartbeats 8000000 in
theorem ent_walk {p : Program} {e : Env} {s : State} {m : MethodId} {below : List Frame} {meth : Method} {c : Code} (l : Launch) {b L : Nat} {xs : Nat → Int32} (hL : L ≤ 3584) {B : BT} (C : CyR (p, l, e, room_1, s, m, #[Value.ref b], below, meth, c, 4, (fun q : Nat => s.heap.size ≤ q), lw_Z below #[Value.ref b] s) B cL_law RLw) (hr : meth.sig.returnType = ret) (hX : va_X b L xs s s.heap) (hbl : b < s.heap.size) :
    Gr (p, l, e, room_1, s, m, #[Value.ref b], below, meth, c, 4, (fun q : Nat => s.heap.size ≤ q), lw_Z below #[Value.ref b] s) B (fun q => q) 0 (fun _ => .inr (0, [])) 0 0 0 [(0, .ref b)] [] := by
  have hR : Ry (p, l, e, room_1, s, m, #[Value.ref b], below, meth, c, 4, (fun q : Nat => s.heap.size ≤ q), lw_Z below #[Value.ref b] s) l 100 600000 7302250 := ⟨rfl, by decide, by decide, Nat.le_refl _, Nat.le_refl _⟩
  refine gz_new (fs := (Value.null :: Value.null :: Value.null :: Value.null :: Value.null :: Value.int 0 :: Value.null :: Value.null :: Value.null :: Value.null :: Value.null :: Value.null :: Value.null :: [])) C hR (ci := 11) rfl inX11 tyX11 tyX11_ok clL_7 in_X11 iz_X11 (by decide +kernel) (by decide) (by decide) dL_law_0 (fun a0 => ?_)
  refine gz_dup C rfl dL_law_3 ?_
  refine gz_callI (d' := 3) (mc := 74) (ms := 53659) (as := []) C hR cwL_9 (by decide) (by decide) (by decide) (by decide) rfl rfl (Nat.le_of_ble_eq_true rfl) dL_law_4 (ci_X11_0 (ad := va_up (fun q => q) 0 a0) ini_keep rfl) (fun qs1 h1 hp => ?_)
  obtain ⟨τ, ⟨tE, tI⟩, hw1⟩ := hp
  have h42 : (τ 42).2.2 9 = some 30 := by rw [← tE 42 (by simp)]; rfl
  have h475 : (τ 47).2.2 5 = some 30 := by rw [← tE 47 (by simp)]; rfl
  have h478 : (τ 47).2.2 8 = some 21 := by rw [← tE 47 (by simp)]; rfl
  refine gz_astore_n (lv2 := [(1, .ref a0), (0, .ref b)]) C rfl (show 1 < 4 by decide) rfl dL_law_7 ?_
  refine gz_new (fs := (Value.null :: Value.null :: Value.null :: Value.null :: Value.int 0 :: Value.int 0 :: Value.int 0 :: Value.null :: Value.null :: Value.null :: Value.null :: Value.null :: Value.null :: Value.null :: Value.int 0 :: Value.int 0 :: Value.int 0 :: Value.int 0 :: Value.int 0 :: Value.int 0 :: Value.int 0 :: Value.int 0 :: Value.int 0 :: Value.null :: Value.null :: Value.null :: Value.int 0 :: Value.null :: Value.null :: Value.int 0 :: Value.int 0 :: Value.int 0 :: Value.int 0 :: Value.null :: Value.null :: Value.int 0 :: Value.null :: Value.null :: Value.null :: Value.null :: Value.null :: Value.null :: Value.null :: Value.null :: Value.null :: Value.null :: Value.null :: Value.null :: Value.null :: Value.null :: Value.null :: Value.null :: Value.null :: Value.null :: Value.null :: Value.int 0 :: Value.int 0 :: Value.long 0 :: Value.null :: Value.null :: Value.null :: Value.null :: Value.null :: Value.null :: [])) C hR (ci := 12) rfl inX12 tyX12 tyX12_ok clL_10 in_X12 iz_X12 (by decide +kernel) (by decide) (by decide) dL_law_8 (fun a75 => ?_)
  refine gz_dup C rfl dL_law_11 ?_
  refine gz_callI (d' := 2) (mc := 43) (ms := 61297) (as := []) C hR cwL_12 (by decide) (by decide) (by decide) (by decide) rfl rfl (Nat.le_of_ble_eq_true rfl) dL_law_12 (ci_X12_75 (ad := va_up (va_ext (va_up (fun q => q) 0 a0) 1 qs1) 75 a75) (τ := τ) (ini_inv tE tI) (fun q hq => (if_neg (show ¬ q = 75 by omega)).trans (wcc_up h42 h475 h478 hw1 q hq)) h42 h475 h478 rfl) (fun qs2 h2 hp => ?_)
  obtain ⟨ρ, hI, hw2⟩ := hp
  refine gz_astore_n (lv2 := [(2, .ref a75), (1, .ref a0), (0, .ref b)]) C rfl (show 2 < 4 by decide) rfl dL_law_15 ?_
  refine gz_iconst (v := II 0) C rfl dL_law_16 ?_
  refine gz_istore_n (lv2 := [(3, .int (II 0)), (2, .ref a75), (1, .ref a0), (0, .ref b)]) C rfl (show 3 < 4 by decide) rfl dL_law_17 ?_
  refine gz_sub (lv2 := [(0, .ref b), (1, .ref a0), (2, .ref a75), (3, .int (II 0))]) [3, 2, 1, 0] rfl ?_
  obtain ⟨f, hf⟩ := law_ok (L := L) (xs := xs) hL ρ hI
  refine gr_go C hw2 (fun C2 => ?_)
  exact gbL_law_18 (d := 100) (l := l) (b := b) C2 ⟨rfl, rfl, hr, rfl, Nat.le_of_ble_eq_true rfl, Nat.le_of_ble_eq_true rfl, fun q h => h⟩ ⟨rfl, by decide, by decide, Nat.le_of_ble_eq_true rfl, Nat.le_of_ble_eq_true rfl⟩ rfl (by decide) (Nat.le_refl _) ⟨hX, hbl, Nat.not_le.mpr hbl⟩ f (II 0) ρ hf
theorem whole_start {p : Program} {e : Env} {s : State} {m : MethodId} {below : List Frame} {meth : Method} {c : Code} (l : Launch) {b L : Nat} {xs : Nat → Int32} (hL : L ≤ 3584) (C0 : lw_At p s m meth c b L xs) : W p l e room_1 s m #[Value.ref b] below meth c s.heap [] 0 0 (lw_Z below #[Value.ref b] s) (entryFrame m ([Value.ref b] : List Value).toArray 4) := by
  obtain ⟨hx, hb, hr, hml, hown, hts, hX, hbl, hlocks, hgv⟩ := id C0
  have htu : ∀ w ∈ uW, w.before #[Value.ref b] s = true := fun w hw => hts w (List.mem_filter.mp hw).1
  have hAO : va_AO "CradleNames$Taste" s := va_AO.of (hts _ ent_ao)
  obtain ⟨D, aC, hK⟩ := ent_K htu hAO
  obtain ⟨adK, adV, hE⟩ := ent_Ex (A := fun q : Nat => s.heap.size ≤ q) hts hgv (fun a h => Nat.not_le.mpr h)
  have C : CyR (p, l, e, room_1, s, m, #[Value.ref b], below, meth, c, 4, (fun q : Nat => s.heap.size ≤ q), lw_Z below #[Value.ref b] s) (D, aC, adK, adV) cL_law RLw := ⟨hx, hb, hml, hown, htu, hlocks, hK, fun _ h => h, hE D aC, hAO⟩
  have hl := lv_entry ([.ref b]) (n := 4) (Nat.le_of_ble_eq_true rfl)
  rw [lg_entry_eq]
  exact ent_walk l hL C hr hX hbl s.heap [] _ (fun k q h => by simp [wr] at h) ⟨fun i j p q h => by simp [wr] at h, fun k q h => by simp [wr] at h⟩ va_S.rf hl
