/-! 69: image, undo, joined -/
theorem Sc_cp {h H : Sto} {B k B' k' : Nat} {σ : Gh} (S : Sc h B k σ) (c1 : ∀ j, j < 3 → H (B' + 1) j = h (B + 1) j) (c9 : ∀ j, j < 3 → H (B' + 9) j = h (B + 9) j) (c4 : H B' 4 = h B 4) (ct : ∀ j i, 3 ≤ j → j < 9 → i < σ 0 0 → H (B' + j) i = h (B + j) i) (cw : ∀ j w, 10 ≤ j → j < 14 → w < σ 0 2 → H (B' + j) w = h (B + j) w) (cs : ∀ i, i < 10 → H (B' + 24) i = h (B + 24) i) (ck : ∀ j, j < 1214 → H k' j = h k j) : Sc H B' k' σ := by
  obtain ⟨⟨⟨a1, a2, a3⟩, ⟨b1, b2, b3⟩, ⟨d1, d2, d3⟩, e1, e2⟩, T, ⟨s1, s2⟩, ⟨w1, w2⟩, P⟩ := S
  refine ⟨⟨⟨a1, (c1 0 (by omega)).trans a2, (ck 0 (by omega)).trans a3⟩, ⟨b1, (c9 0 (by omega)).trans b2, (ck 1 (by omega)).trans b3⟩, ⟨d1, (c9 1 (by omega)).trans d2, (ck 2 (by omega)).trans d3⟩, ?_, ?_⟩, fun i hi => ?_, ⟨(c1 1 (by omega)).trans s1, (c1 2 (by omega)).trans s2⟩, ⟨fun w hw => ?_, w2⟩, fun i hi => ?_⟩
  · rw [c9 2 (by omega), ck 3 (by omega)]; exact e1
  · rw [c4, ck 5 (by omega)]; exact e2
  · rw [ct 3 i (by omega) (by omega) hi, ct 4 i (by omega) (by omega) hi, ct 5 i (by omega) (by omega) hi, ct 6 i (by omega) (by omega) hi, ct 7 i (by omega) (by omega) hi, ct 8 i (by omega) (by omega) hi, ck (6 + 8 * i) (by omega), ck (6 + 8 * i + 1) (by omega), ck (6 + 8 * i + 2) (by omega), ck (6 + 8 * i + 3) (by omega), ck (6 + 8 * i + 4) (by omega), ck (6 + 8 * i + 5) (by omega), ck (6 + 8 * i + 6) (by omega), ck (6 + 8 * i + 7) (by omega)]
    exact T i hi
  · rw [cw 10 w (by omega) (by omega) hw, cw 11 w (by omega) (by omega) hw, cw 12 w (by omega) (by omega) hw, cw 13 w (by omega) (by omega) hw, ck (118 + 3 * w) (by omega), ck (118 + 3 * w + 1) (by omega), ck (118 + 3 * w + 2) (by omega)]
    exact w1 w hw
  · rw [cs i hi, ck (1204 + i) (by omega)]; exact P i hi
theorem TxR_cp {b b' : Nat → Int32} {n : Int32} {s s' : Nat → Int32} (hb : ∀ N, N ≤ 80 → n = nI N → ∀ j, j < N → b' j = b j) (hs : ∀ j, j < 81 → s' j = s j) (T : TxR b n s) : TxR b' n s' := by
  obtain ⟨cs, N, e1, e2, e3, e4, e5, e6, e7⟩ := T
  refine ⟨cs, N, e1, e2, e3, by rw [hs 0 (by omega)]; exact e4, fun j hj => by rw [hs _ (by omega)]; exact e5 j hj, e6, fun R => ?_⟩
  obtain ⟨v, e8, e9⟩ := e7 R
  exact ⟨v, e8, fun h p h1 h2 h3 h4 h5 => e9 h p h1 h2 h3 (fun j hj => (h4 j hj).trans (hb N e2 e1 j hj)) h5⟩
theorem TxS_cp {h H : Sto} {B k B' k' T : Nat} (X : TxS h B k T) (c15 : H (B' + 15) 0 = h (B + 15) 0) (ct : ∀ t, t < T → H (B' + 23) t = h (B + 23) t ∧ ∀ n, n ≤ 80 → h (B + 23) t = nI n → ∀ j, j < n → H (B' + 17 + t) j = h (B + 17 + t) j) (ck : ∀ j, j < 1214 → H k' j = h k j) : TxS H B' k' T := by
  obtain ⟨x1, x2, x3, x4⟩ := X
  refine ⟨x1, c15.trans x2, (ck 4 (by omega)).trans x3, fun t ht => ?_⟩
  obtain ⟨q1, q2⟩ := ct t ht
  rw [q1]
  exact TxR_cp q2 (fun j hj => ck _ (by omega)) (x4 t ht)
theorem mImg (g : Sto) : ∃ V, lp (fun s : Int32 × Sto => fX9_image_b2 s.1 s.2) FUEL (nI 0, g) = some V ∧ ((∀ j, j < 1214 → V 85 j = g 84 j) ∧ ∀ c, c ≠ 85 → V c = g c) := by
  refine lp_I (f := fun s : Int32 × Sto => fX9_image_b2 s.1 s.2) (fun i s => s.1 = nI i ∧ (∀ j, j < i → s.2 85 j = g 84 j) ∧ ∀ c, c ≠ 85 → s.2 c = g c) _ 1214 (nI 0, g) ⟨rfl, fun j hj => absurd hj (Nat.not_lt_zero _), fun _ _ => rfl⟩ (by omega) ?_ ?_
  · rintro i ⟨k, s⟩ hi ⟨rfl, a1, a2⟩
    dsimp only at *
    have e84 := a2 84 (by omega)
    have hi' : ¬ 1214 ≤ i := by omega
    refine ⟨(nI (i + 1), su s 85 i (g 84 i)), ?_, rfl, fun j hj => ?_, fun c hc => (su_c _ _ _ hc).trans (a2 c hc)⟩
    · show fX9_image_b2 (nI i) s = _
      unfold fX9_image_b2
      simp (disch := omega) [n_lit, n_eq, n_lt, n_le, n_mul, n_add, n_cl, grd_t, grd_T, su_c, su_s, su_k, wi_in, n_m1', n_m1, hi', n_in, e84]
    · show su s 85 i (g 84 i) 85 j = _
      by_cases z : j = i
      · subst z; rw [su_s]
      · rw [su_k _ _ _ z]; exact a1 j (by omega)
  · rintro ⟨k, s⟩ ⟨rfl, a1, a2⟩
    dsimp only at *
    refine ⟨s, ?_, a1, a2⟩
    show fX9_image_b2 (nI 1214) s = _
    unfold fX9_image_b2
    simp (disch := omega) [n_lit, n_eq, n_lt, n_le, n_mul, n_add, n_cl, grd_t, grd_T, su_c, su_s, su_k, wi_in, n_m1', n_m1]
theorem mUnd (g : Sto) : ∃ V, lp (fun s : Int32 × Sto => fX9_undo_b16 s.1 s.2) FUEL (nI 0, g) = some V ∧ ((∀ j, j < 1214 → V 84 j = g 85 j) ∧ ∀ c, c ≠ 84 → V c = g c) := by
  refine lp_I (f := fun s : Int32 × Sto => fX9_undo_b16 s.1 s.2) (fun i s => s.1 = nI i ∧ (∀ j, j < i → s.2 84 j = g 85 j) ∧ ∀ c, c ≠ 84 → s.2 c = g c) _ 1214 (nI 0, g) ⟨rfl, fun j hj => absurd hj (Nat.not_lt_zero _), fun _ _ => rfl⟩ (by omega) ?_ ?_
  · rintro i ⟨k, s⟩ hi ⟨rfl, a1, a2⟩
    dsimp only at *
    have e85 := a2 85 (by omega)
    have hi' : ¬ 1214 ≤ i := by omega
    refine ⟨(nI (i + 1), su s 84 i (g 85 i)), ?_, rfl, fun j hj => ?_, fun c hc => (su_c _ _ _ hc).trans (a2 c hc)⟩
    · show fX9_undo_b16 (nI i) s = _
      unfold fX9_undo_b16
      simp (disch := omega) [n_lit, n_eq, n_lt, n_le, n_mul, n_add, n_cl, grd_t, grd_T, su_c, su_s, su_k, wi_in, n_m1', n_m1, hi', n_in, e85]
    · show su s 84 i (g 85 i) 84 j = _
      by_cases z : j = i
      · subst z; rw [su_s]
      · rw [su_k _ _ _ z]; exact a1 j (by omega)
  · rintro ⟨k, s⟩ ⟨rfl, a1, a2⟩
    dsimp only at *
    refine ⟨s, ?_, a1, a2⟩
    show fX9_undo_b16 (nI 1214) s = _
    unfold fX9_undo_b16
    simp (disch := omega) [n_lit, n_eq, n_lt, n_le, n_mul, n_add, n_cl, grd_t, grd_T, su_c, su_s, su_k, wi_in, n_m1', n_m1]
theorem st_image (h : Sto) (I : Inv h) : Agr fX8_image fX9_image h := by
  obtain ⟨σ, S⟩ := I.1
  obtain ⟨T, X⟩ := I.2.1
  obtain ⟨H, a1, a2, a3, a4, a5, a6, a7, a8, a9, a10⟩ := bS S X
  obtain ⟨V, b1, b2, b3⟩ := mImg (su H 0 2 (nI 1))
  have v84 : V 84 = h 84 := by rw [b3 84 (by omega), su_c _ _ _ (by omega)]; exact a10 84 (by omega)
  have v85 : ∀ j, j < 1214 → V 85 j = h 84 j := fun j hj => by rw [b2 j hj, su_c _ _ _ (by omega), a10 84 (by omega)]
  have vc : ∀ c, c ≠ 0 → c ≠ 83 → c ≠ 85 → su V 83 2 (nI 1) c = H c := fun c c1 c2 c3 => by rw [su_c _ _ _ c2, b3 c c3, su_c _ _ _ c1]
  have vh : ∀ c, c ≠ 0 → c ≠ 83 → c ≠ 85 → (c < 26 ∨ 50 < c) → su V 83 2 (nI 1) c = h c := fun c c1 c2 c3 c4 => by rw [vc c c1 c2 c3]; exact a10 c c4
  have k85 : ∀ j, j < 1214 → su V 83 2 (nI 1) 85 j = h 84 j := fun j hj => by rw [su_c _ _ _ (by omega)]; exact v85 j hj
  have S2 : Sc (su V 83 2 (nI 1)) 1 84 σ := Sc_cells S (fun c c1 c2 => vh c (by omega) (by omega) (by omega) (by omega)) (vh 84 (by omega) (by omega) (by omega) (by omega))
  refine agr (nI 1) (su H 0 2 (nI 1)) (su V 83 2 (nI 1)) ?_ ?_ ⟨⟨σ, S2⟩, Tx_cells I.2.1 (fun c c1 c2 => vh c (by omega) (by omega) (by omega) (by omega)) (vh 84 (by omega) (by omega) (by omega) (by omega)), Or.inr ⟨?_, su_s _ _ _ _, σ, T, ?_, ?_⟩, Tp_congr ?_ ?_ (vh 51 (by omega) (by omega) (by omega) (by omega)) (vh 88 (by omega) (by omega) (by omega) (by omega)) I.2.2.2.1, Shs_congr (fun c c1 c2 => vh c (by omega) (by omega) (by omega) (by omega)) (vh 93 (by omega) (by omega) (by omega) (by omega)) (vh 94 (by omega) (by omega) (by omega) (by omega)) (vh 95 (by omega) (by omega) (by omega) (by omega)) I.2.2.2.2.1, fun i hi => ?_⟩
  · unfold fX8_image
    rw [a1]
    rfl
  · unfold fX9_image
    rw [show ((0 : Int32), su H 0 2 (nI 1)) = (nI 0, su H 0 2 (nI 1)) from rfl, b1]
    rfl
  · rw [su_c _ _ _ (by omega), b3 0 (by omega), su_s]; rfl
  · refine Sc_cp S (fun j hj => ?_) (fun j hj => ?_) ?_ (fun j i h1 h2 h3 => ?_) (fun j w h1 h2 h3 => ?_) (fun i hi => ?_) k85
    · rw [vc (26 + 1) (by omega) (by omega) (by omega)]; exact a2 j hj
    · rw [vc (26 + 9) (by omega) (by omega) (by omega)]; exact a3 j hj
    · rw [vc 26 (by omega) (by omega) (by omega)]; exact a4
    · rw [vc (26 + j) (by omega) (by omega) (by omega)]; exact a5 j i h1 h2 h3
    · rw [vc (26 + j) (by omega) (by omega) (by omega)]; exact a6 j w h1 h2 h3
    · rw [vc (26 + 24) (by omega) (by omega) (by omega)]; exact a7 i hi
  · refine TxS_cp X ?_ (fun t ht => ?_) k85
    · rw [vc (26 + 15) (by omega) (by omega) (by omega)]; exact a8
    · have := X.1
      rw [vc (26 + 23) (by omega) (by omega) (by omega), vc (26 + 17 + t) (by omega) (by omega) (by omega)]; exact a9 t ht
  · rw [su_c _ _ _ (by omega), b3 0 (by omega), su_k _ _ _ (by omega), a10 0 (by omega)]
  · rw [su_k _ _ _ (by omega), b3 83 (by omega), su_c _ _ _ (by omega), a10 83 (by omega)]
  · rw [vh 61 (by omega) (by omega) (by omega) (by omega), vh 86 (by omega) (by omega) (by omega) (by omega)]; exact I.2.2.2.2.2 i hi
theorem st_undo (h : Sto) (I : Inv h) : Agr fX8_undo fX9_undo h := by
  rcases I.2.2.1 with ⟨k1, k2⟩ | ⟨k1, k2, τ, T, S, X⟩
  · refine ag_f3 I ?_ ?_
    · unfold fX8_undo
      simp [k1]
    · intro h1' e
      subst e
      unfold fX9_undo
      rw [su_c _ _ _ (by omega)]
      simp [k2]
  · obtain ⟨H, a1, a2, a3, a4, a5, a6, a7, a8, a9, a10⟩ := bS_1 S X
    obtain ⟨V, b1, b2, b3⟩ := mUnd H
    have v84 : ∀ j, j < 1214 → V 84 j = h 85 j := fun j hj => by rw [b2 j hj, a10 85 (by omega)]
    have vh : ∀ c, c ≠ 84 → (c < 1 ∨ 25 < c) → V c = h c := fun c c1 c2 => by rw [b3 c c1]; exact a10 c c2
    have n1 : H 10 0 = nI (τ 0 1) := by rw [a3 0 (by omega)]; exact S.1.2.1.2.1
    have n2 : V 84 1 = nI (τ 0 1) := by rw [v84 1 (by omega)]; exact S.1.2.1.2.2
    have z1 : ¬ h 0 2 = 0 := by rw [k1]; decide
    have z2 : ¬ H 83 2 = 0 := by rw [a10 83 (by omega), k2]; decide
    refine agr (nI (τ 0 1)) H V ?_ ?_ ⟨⟨τ, ?_⟩, ⟨T, ?_⟩, Kp_congr (fun c c1 c2 => vh c (by omega) (by omega)) (by rw [vh 0 (by omega) (by omega)]) (by rw [vh 83 (by omega) (by omega)]) (vh 85 (by omega) (by omega)) I.2.2.1, Tp_congr (by rw [vh 0 (by omega) (by omega)]) (by rw [vh 83 (by omega) (by omega)]) (vh 51 (by omega) (by omega)) (vh 88 (by omega) (by omega)) I.2.2.2.1, Shs_congr (fun c c1 c2 => vh c (by omega) (by omega)) (vh 93 (by omega) (by omega)) (vh 94 (by omega) (by omega)) (vh 95 (by omega) (by omega)) I.2.2.2.2.1, fun i hi => ?_⟩
    · unfold fX8_undo
      rw [if_pos z1, a1, Option.bind_some, n1]
    · unfold fX9_undo
      rw [if_pos z2, show ((0 : Int32), H) = (nI 0, H) from rfl, b1, Option.bind_some, n2]
    · refine Sc_cp S (fun j hj => ?_) (fun j hj => ?_) ?_ (fun j i h1 h2 h3 => ?_) (fun j w h1 h2 h3 => ?_) (fun i hi => ?_) v84
      · rw [b3 (1 + 1) (by omega)]; exact a2 j hj
      · rw [b3 (1 + 9) (by omega)]; exact a3 j hj
      · rw [b3 1 (by omega)]; exact a4
      · rw [b3 (1 + j) (by omega)]; exact a5 j i h1 h2 h3
      · rw [b3 (1 + j) (by omega)]; exact a6 j w h1 h2 h3
      · rw [b3 (1 + 24) (by omega)]; exact a7 i hi
    · refine TxS_cp X ?_ (fun t ht => ?_) v84
      · rw [b3 (1 + 15) (by omega)]; exact a8
      · have := X.1
        rw [b3 (1 + 23) (by omega), b3 (1 + 17 + t) (by omega)]; exact a9 t ht
    · rw [vh 61 (by omega) (by omega), vh 86 (by omega) (by omega)]; exact I.2.2.2.2.2 i hi
