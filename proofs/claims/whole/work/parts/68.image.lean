/-! 68: image, undo (two texts of one form) -/
section BEC
variable {h : Sto} {σ : Gh}

theorem bN {N : Nat} (hN : h 2 0 = nI N) (hN14 : N ≤ 14) : ∃ H, fX1_become h = some H ∧ (∀ j, j < 3 → H 27 j = h 2 j) ∧ (∀ j i, j < 6 → i < N → H (29 + j) i = h (4 + j) i) ∧ ∀ c, c ≠ 27 → (c < 29 ∨ 34 < c) → H c = h c := by
  have h3 : ∃ G, su (su (su h 27 0 (h 2 0)) 27 1 (h 2 1)) 27 2 (h 2 2) = G ∧ (∀ j, j < 3 → G 27 j = h 2 j) ∧ (∀ c, c ≠ 27 → G c = h c) := by
    refine ⟨_, rfl, fun j hj => ?_, fun c hc => by rw [su_c _ _ _ hc, su_c _ _ _ hc, su_c _ _ _ hc]⟩
    rcases (show j = 0 ∨ j = 1 ∨ j = 2 by omega) with rfl | rfl | rfl
    · rw [su_k _ _ _ (by omega), su_k _ _ _ (by omega), su_s]
    · rw [su_k _ _ _ (by omega), su_s]
    · rw [su_s]
  obtain ⟨G, eG, g1, g2⟩ := h3
  have gN : G 27 0 = nI N := by rw [g1 0 (by omega)]; exact hN
  have key : ∃ H, lp (fun s : Int32 × Sto => fX1_become_b26 s.1 s.2) FUEL (nI 0, G) = some H ∧ ((∀ j i, j < 6 → i < N → H (29 + j) i = G (4 + j) i) ∧ ∀ c, (c < 29 ∨ 34 < c) → H c = G c) := by
    refine lp_I (f := fun s : Int32 × Sto => fX1_become_b26 s.1 s.2) (fun k s => s.1 = nI k ∧ (∀ j i, j < k → i < N → s.2 (29 + j) i = G (4 + j) i) ∧ ∀ c, (c < 29 ∨ 34 < c) → s.2 c = G c) _ 6 (nI 0, G) ⟨rfl, fun j i hj _ => absurd hj (Nat.not_lt_zero _), fun _ _ => rfl⟩ (by omega) ?_ ?_
    · rintro k ⟨w, s⟩ hk ⟨rfl, a1, a2⟩
      dsimp only at *
      have eN : s 27 0 = nI N := by rw [a2 27 (by omega)]; exact gN
      have eS : s (4 + k) = G (4 + k) := a2 _ (by omega)
      have hk' : ¬ 6 ≤ k := by omega
      have n0 : ¬ N < 0 := by omega
      refine ⟨(nI (k + 1), sr s (29 + k) (va_cpy (G (4 + k)) (s (29 + k)) 0 0 N)), ?_, rfl, fun j i hj hi => ?_, fun c hc => (sr_c _ _ (by omega)).trans (a2 c hc)⟩
      · show fX1_become_b26 (nI k) s = _
        unfold fX1_become_b26
        simp (disch := omega) [n_lit, n_eq, n_lt, n_le, n_mul, n_add, n_cl, grd_t, grd_T, su_c, su_s, su_k, wi_in, n_m1', n_m1, hk', n_in, eN, n0, hN14, eS]
      · show sr s (29 + k) _ (29 + j) i = _
        by_cases z : j = k
        · subst z
          rw [sr_s]
          unfold va_cpy
          rw [if_pos (by omega), show 0 + (i - 0) = i by omega]
        · rw [sr_c _ _ (by omega)]; exact a1 j i (by omega) hi
    · rintro ⟨w, s⟩ ⟨rfl, a1, a2⟩
      dsimp only at *
      refine ⟨s, ?_, a1, a2⟩
      show fX1_become_b26 (nI 6) s = _
      unfold fX1_become_b26
      simp (disch := omega) [n_lit, n_eq, n_lt, n_le, n_mul, n_add, n_cl, grd_t, grd_T, su_c, su_s, su_k, wi_in, n_m1', n_m1]
  obtain ⟨H, k1, k2, k3⟩ := key
  refine ⟨H, ?_, fun j hj => by rw [k3 27 (by omega)]; exact g1 j hj, fun j i hj hi => by rw [k2 j i hj hi, g2 _ (by omega)], fun c c1 c2 => by rw [k3 c c2]; exact g2 c c1⟩
  unfold fX1_become
  rw [Option.bind_some, Option.bind_some, Option.bind_some, su_c _ _ _ (show ¬ 2 = 27 by omega), su_c _ _ _ (show ¬ 2 = 27 by omega), su_c _ _ _ (show ¬ 2 = 27 by omega), eG, show ((0 : Int32), G) = (nI 0, G) from rfl, k1]
  rfl
theorem bB {W : Nat} (hW : h 10 1 = nI W) (hW2 : W ≤ 200) : ∃ H, fX0_become h = some H ∧ (∀ j, j < 3 → H 35 j = h 10 j) ∧ (∀ j w, j < 4 → w < W → H (36 + j) w = h (11 + j) w) ∧ ∀ c, (c < 35 ∨ 39 < c) → H c = h c := by
  have n0 : ¬ W < 0 := by omega
  have e : fX0_become h = some (sr (sr (sr (sr (su (su (su h 35 0 (h 10 0)) 35 1 (h 10 1)) 35 2 (h 10 2)) 36 (va_cpy (h 11) (h 36) 0 0 W)) 37 (va_cpy (h 12) (h 37) 0 0 W)) 38 (va_cpy (h 13) (h 38) 0 0 W)) 39 (va_cpy (h 14) (h 39) 0 0 W)) := by
    unfold fX0_become
    simp (disch := omega) [n_lit, n_eq, n_lt, n_le, n_mul, n_add, n_cl, grd_t, grd_T, su_c, su_s, su_k, wi_in, n_m1', n_m1, hW, sr_c, n0, hW2]
  have vc : ∀ (f g : Nat → Int32) w, w < W → va_cpy f g 0 0 W w = f w := fun f g w hw => by
    unfold va_cpy
    rw [if_pos (by omega), show 0 + (w - 0) = w by omega]
  refine ⟨_, e, fun j hj => ?_, fun j w hj hw => ?_, fun c hc => by rw [sr_c _ _ (by omega), sr_c _ _ (by omega), sr_c _ _ (by omega), sr_c _ _ (by omega), su_c _ _ _ (by omega), su_c _ _ _ (by omega), su_c _ _ _ (by omega)]⟩
  · rw [sr_c _ _ (by omega), sr_c _ _ (by omega), sr_c _ _ (by omega), sr_c _ _ (by omega)]
    rcases (show j = 0 ∨ j = 1 ∨ j = 2 by omega) with rfl | rfl | rfl
    · rw [su_k _ _ _ (by omega), su_k _ _ _ (by omega), su_s]
    · rw [su_k _ _ _ (by omega), su_s]
    · rw [su_s]
  · rcases (show j = 0 ∨ j = 1 ∨ j = 2 ∨ j = 3 by omega) with rfl | rfl | rfl | rfl
    · show sr (sr (sr (sr _ 36 _) 37 _) 38 _) 39 _ 36 w = h 11 w
      rw [sr_c _ _ (by omega), sr_c _ _ (by omega), sr_c _ _ (by omega), sr_s]; exact vc _ _ w hw
    · show sr (sr (sr (sr _ 36 _) 37 _) 38 _) 39 _ 37 w = h 12 w
      rw [sr_c _ _ (by omega), sr_c _ _ (by omega), sr_s]; exact vc _ _ w hw
    · show sr (sr (sr (sr _ 36 _) 37 _) 38 _) 39 _ 38 w = h 13 w
      rw [sr_c _ _ (by omega), sr_s]; exact vc _ _ w hw
    · show sr (sr (sr (sr _ 36 _) 37 _) 38 _) 39 _ 39 w = h 14 w
      rw [sr_s]; exact vc _ _ w hw
theorem bT {T : Nat} (hT : h 16 0 = nI T) (hT6 : T ≤ 6) (hz : ∀ t, t < T → ∃ n, n ≤ 80 ∧ h 24 t = nI n) : ∃ H, fX6_become h = some H ∧ H 41 0 = nI T ∧ (∀ t, t < T → H 49 t = h 24 t ∧ ∀ n, n ≤ 80 → h 24 t = nI n → ∀ j, j < n → H (43 + t) j = h (18 + t) j) ∧ ∀ c, c ≠ 41 → c ≠ 49 → (c < 43 ∨ 48 < c) → H c = h c := by
  have key : ∃ H, lp (fun s : Int32 × Sto => fX6_become_b10 s.1 s.2) FUEL (nI 0, su h 41 0 (nI T)) = some H ∧ ((H 41 0 = nI T) ∧ (∀ t, t < T → H 49 t = h 24 t ∧ ∀ n, n ≤ 80 → h 24 t = nI n → ∀ j, j < n → H (43 + t) j = h (18 + t) j) ∧ ∀ c, c ≠ 41 → c ≠ 49 → (c < 43 ∨ 48 < c) → H c = h c) := by
    refine lp_I (f := fun s : Int32 × Sto => fX6_become_b10 s.1 s.2) (fun k s => s.1 = nI k ∧ (s.2 41 0 = nI T) ∧ (∀ t, t < k → s.2 49 t = h 24 t ∧ ∀ n, n ≤ 80 → h 24 t = nI n → ∀ j, j < n → s.2 (43 + t) j = h (18 + t) j) ∧ ∀ c, c ≠ 41 → c ≠ 49 → (c < 43 ∨ 48 < c) → s.2 c = h c) _ T (nI 0, su h 41 0 (nI T)) ⟨rfl, su_s h 41 0 (nI T), fun t ht => absurd ht (Nat.not_lt_zero _), fun c c1 _ _ => su_c _ _ _ c1⟩ (by omega) ?_ ?_
    · rintro k ⟨w, s⟩ hk ⟨rfl, a0, a1, a2⟩
      dsimp only at *
      obtain ⟨n, hn, en⟩ := hz k hk
      have eS : s 24 k = nI n := by rw [a2 24 (by omega) (by omega) (by omega)]; exact en
      have eB : s (18 + k) = h (18 + k) := a2 _ (by omega) (by omega) (by omega)
      have hk' : ¬ T ≤ k := by omega
      have n0 : ¬ n < 0 := by omega
      refine ⟨(nI (k + 1), sr (su s 49 k (nI n)) (43 + k) (va_cpy (h (18 + k)) (s (43 + k)) 0 0 n)), ?_, rfl, ?_, fun t ht => ?_, fun c c1 c2 c3 => (sr_c _ _ (by omega)).trans ((su_c _ _ _ c2).trans (a2 c c1 c2 c3))⟩
      · show fX6_become_b10 (nI k) s = _
        unfold fX6_become_b10
        simp (disch := omega) [n_lit, n_eq, n_lt, n_le, n_mul, n_add, n_cl, grd_t, grd_T, su_c, su_s, su_k, wi_in, n_m1', n_m1, a0, hk', n_in, eS, n0, hn, eB]
      · show sr _ (43 + k) _ 41 0 = _
        rw [sr_c _ _ (by omega), su_c _ _ _ (by omega)]; exact a0
      · show sr _ (43 + k) _ 49 t = _ ∧ ∀ m, m ≤ 80 → h 24 t = nI m → ∀ j, j < m → sr _ (43 + k) _ (43 + t) j = _
        rw [sr_c _ _ (by omega)]
        by_cases z : t = k
        · subst z
          refine ⟨by rw [su_s, en], fun m hm em j hj => ?_⟩
          have : m = n := by rw [en, n_eq (by omega) (by omega)] at em; exact em.symm
          subst this
          rw [sr_s]
          unfold va_cpy
          rw [if_pos (by omega), show 0 + (j - 0) = j by omega]
        · rw [su_k _ _ _ z, sr_c _ _ (by omega), su_c _ _ _ (by omega)]
          exact a1 t (by omega)
    · rintro ⟨w, s⟩ ⟨rfl, a0, a1, a2⟩
      dsimp only at *
      refine ⟨s, ?_, a0, a1, a2⟩
      show fX6_become_b10 (nI T) s = _
      unfold fX6_become_b10
      simp (disch := omega) [n_lit, n_eq, n_lt, n_le, n_mul, n_add, n_cl, grd_t, grd_T, su_c, su_s, su_k, wi_in, n_m1', n_m1, a0]
  obtain ⟨H, k1, k2⟩ := key
  refine ⟨H, ?_, k2⟩
  unfold fX6_become
  rw [Option.bind_some, hT, show ((0 : Int32), su h 41 0 (nI T)) = (nI 0, su h 41 0 (nI T)) from rfl, k1]
  rfl
/-- a scene becomes another one -/
theorem bS {k : Nat} {T : Nat} (S : Sc h 1 k σ) (X : TxS h 1 k T) : ∃ H, fX3_become h = some H ∧ (∀ j, j < 3 → H 27 j = h 2 j) ∧ (∀ j, j < 3 → H 35 j = h 10 j) ∧ H 26 4 = h 1 4 ∧ (∀ j i, 3 ≤ j → j < 9 → i < σ 0 0 → H (26 + j) i = h (1 + j) i) ∧ (∀ j w, 10 ≤ j → j < 14 → w < σ 0 2 → H (26 + j) w = h (1 + j) w) ∧ (∀ i, i < 10 → H 50 i = h 25 i) ∧ H 41 0 = h 16 0 ∧ (∀ t, t < T → H 49 t = h 24 t ∧ ∀ n, n ≤ 80 → h 24 t = nI n → ∀ j, j < n → H (43 + t) j = h (18 + t) j) ∧ ∀ c, (c < 26 ∨ 50 < c) → H c = h c := by
  have q1 : h 2 0 = nI (σ 0 0) := S.1.1.2.1
  have q2 : h 10 1 = nI (σ 0 2) := S.1.2.2.1.2.1
  have q3 : h 16 0 = nI T := X.2.1
  have qz : ∀ t, t < T → ∃ n, n ≤ 80 ∧ h 24 t = nI n := fun t ht => by
    obtain ⟨cs, N, e1, e2, -⟩ := X.2.2.2 t ht
    exact ⟨N, e2, e1⟩
  obtain ⟨H1, a1, a2, a3, a4⟩ := bN q1 S.1.1.1
  obtain ⟨H2, b1, b2, b3, b4⟩ := bB (h := H1) (W := σ 0 2) (by rw [a4 10 (by omega) (by omega)]; exact q2) S.1.2.2.1.1
  obtain ⟨H3, c1, c2, c3, c4⟩ := bT (h := H2) (T := T) (by rw [b4 16 (by omega), a4 16 (by omega) (by omega)]; exact q3) X.1 (fun t ht => by rw [b4 24 (by omega), a4 24 (by omega) (by omega)]; exact qz t ht)
  refine ⟨su (sr H3 50 (va_cpy (H3 25) (H3 50) 0 0 10)) 26 4 (h 1 4), ?_, fun j hj => ?_, fun j hj => ?_, su_s _ _ _ _, fun j i h1 h2 h3 => ?_, fun j w h1 h2 h3 => ?_, fun i hi => ?_, ?_, fun t ht => ?_, fun c hc => ?_⟩
  · have eS : H3 1 4 = h 1 4 := by rw [c4 1 (by omega) (by omega) (by omega), b4 1 (by omega), a4 1 (by omega) (by omega)]
    unfold fX3_become
    rw [a1, Option.bind_some, b1, Option.bind_some, c1, Option.bind_some]
    simp (disch := omega) [n_lit, n_eq, n_lt, n_le, n_mul, n_add, n_cl, grd_t, grd_T, su_c, su_s, su_k, wi_in, n_m1', n_m1, sr_c, eS]
  · rw [su_c _ _ _ (by omega), sr_c _ _ (by omega), c4 27 (by omega) (by omega) (by omega), b4 27 (by omega)]; exact a2 j hj
  · rw [su_c _ _ _ (by omega), sr_c _ _ (by omega), c4 35 (by omega) (by omega) (by omega), b2 j hj, a4 10 (by omega) (by omega)]
  · rw [su_c _ _ _ (by omega), sr_c _ _ (by omega), c4 (26 + j) (by omega) (by omega) (by omega), b4 (26 + j) (by omega)]
    have := a3 (j - 3) i (by omega) h3
    rw [show 29 + (j - 3) = 26 + j by omega, show 4 + (j - 3) = 1 + j by omega] at this
    exact this
  · rw [su_c _ _ _ (by omega), sr_c _ _ (by omega), c4 (26 + j) (by omega) (by omega) (by omega)]
    have := b3 (j - 10) w (by omega) h3
    rw [show 36 + (j - 10) = 26 + j by omega, show 11 + (j - 10) = 1 + j by omega, a4 (1 + j) (by omega) (by omega)] at this
    exact this
  · rw [su_c _ _ _ (by omega), sr_s]
    unfold va_cpy
    rw [if_pos (by omega), show 0 + (i - 0) = i by omega, c4 25 (by omega) (by omega) (by omega), b4 25 (by omega), a4 25 (by omega) (by omega)]
  · rw [su_c _ _ _ (by omega), sr_c _ _ (by omega), c2, q3]
  · have e23 : H2 24 = h 24 := by rw [b4 24 (by omega), a4 24 (by omega) (by omega)]
    have e17 : H2 (18 + t) = h (18 + t) := by have := X.1; rw [b4 (18 + t) (by omega), a4 (18 + t) (by omega) (by omega)]
    have := c3 t ht
    have hX := X.1
    rw [e23, e17] at this
    rw [su_c _ _ _ (show ¬ 49 = 26 by omega), sr_c _ _ (show ¬ 49 = 50 by omega), su_c _ _ _ (show ¬ 43 + t = 26 by omega), sr_c _ _ (show ¬ 43 + t = 50 by omega)]
    exact this
  · rw [su_c _ _ _ (by omega), sr_c _ _ (by omega), c4 c (by omega) (by omega) (by omega), b4 c (by omega)]; exact a4 c (by omega) (by omega)

theorem bN_1 {N : Nat} (hN : h 27 0 = nI N) (hN14 : N ≤ 14) : ∃ H, fX1_become_1 h = some H ∧ (∀ j, j < 3 → H 2 j = h 27 j) ∧ (∀ j i, j < 6 → i < N → H (4 + j) i = h (29 + j) i) ∧ ∀ c, c ≠ 2 → (c < 4 ∨ 9 < c) → H c = h c := by
  have h3 : ∃ G, su (su (su h 2 0 (h 27 0)) 2 1 (h 27 1)) 2 2 (h 27 2) = G ∧ (∀ j, j < 3 → G 2 j = h 27 j) ∧ (∀ c, c ≠ 2 → G c = h c) := by
    refine ⟨_, rfl, fun j hj => ?_, fun c hc => by rw [su_c _ _ _ hc, su_c _ _ _ hc, su_c _ _ _ hc]⟩
    rcases (show j = 0 ∨ j = 1 ∨ j = 2 by omega) with rfl | rfl | rfl
    · rw [su_k _ _ _ (by omega), su_k _ _ _ (by omega), su_s]
    · rw [su_k _ _ _ (by omega), su_s]
    · rw [su_s]
  obtain ⟨G, eG, g1, g2⟩ := h3
  have gN : G 2 0 = nI N := by rw [g1 0 (by omega)]; exact hN
  have key : ∃ H, lp (fun s : Int32 × Sto => fX1_become_1_b26 s.1 s.2) FUEL (nI 0, G) = some H ∧ ((∀ j i, j < 6 → i < N → H (4 + j) i = G (29 + j) i) ∧ ∀ c, (c < 4 ∨ 9 < c) → H c = G c) := by
    refine lp_I (f := fun s : Int32 × Sto => fX1_become_1_b26 s.1 s.2) (fun k s => s.1 = nI k ∧ (∀ j i, j < k → i < N → s.2 (4 + j) i = G (29 + j) i) ∧ ∀ c, (c < 4 ∨ 9 < c) → s.2 c = G c) _ 6 (nI 0, G) ⟨rfl, fun j i hj _ => absurd hj (Nat.not_lt_zero _), fun _ _ => rfl⟩ (by omega) ?_ ?_
    · rintro k ⟨w, s⟩ hk ⟨rfl, a1, a2⟩
      dsimp only at *
      have eN : s 2 0 = nI N := by rw [a2 2 (by omega)]; exact gN
      have eS : s (29 + k) = G (29 + k) := a2 _ (by omega)
      have hk' : ¬ 6 ≤ k := by omega
      have n0 : ¬ N < 0 := by omega
      refine ⟨(nI (k + 1), sr s (4 + k) (va_cpy (G (29 + k)) (s (4 + k)) 0 0 N)), ?_, rfl, fun j i hj hi => ?_, fun c hc => (sr_c _ _ (by omega)).trans (a2 c hc)⟩
      · show fX1_become_1_b26 (nI k) s = _
        unfold fX1_become_1_b26
        simp (disch := omega) [n_lit, n_eq, n_lt, n_le, n_mul, n_add, n_cl, grd_t, grd_T, su_c, su_s, su_k, wi_in, n_m1', n_m1, hk', n_in, eN, n0, hN14, eS]
      · show sr s (4 + k) _ (4 + j) i = _
        by_cases z : j = k
        · subst z
          rw [sr_s]
          unfold va_cpy
          rw [if_pos (by omega), show 0 + (i - 0) = i by omega]
        · rw [sr_c _ _ (by omega)]; exact a1 j i (by omega) hi
    · rintro ⟨w, s⟩ ⟨rfl, a1, a2⟩
      dsimp only at *
      refine ⟨s, ?_, a1, a2⟩
      show fX1_become_1_b26 (nI 6) s = _
      unfold fX1_become_1_b26
      simp (disch := omega) [n_lit, n_eq, n_lt, n_le, n_mul, n_add, n_cl, grd_t, grd_T, su_c, su_s, su_k, wi_in, n_m1', n_m1]
  obtain ⟨H, k1, k2, k3⟩ := key
  refine ⟨H, ?_, fun j hj => by rw [k3 2 (by omega)]; exact g1 j hj, fun j i hj hi => by rw [k2 j i hj hi, g2 _ (by omega)], fun c c1 c2 => by rw [k3 c c2]; exact g2 c c1⟩
  unfold fX1_become_1
  rw [Option.bind_some, Option.bind_some, Option.bind_some, su_c _ _ _ (show ¬ 27 = 2 by omega), su_c _ _ _ (show ¬ 27 = 2 by omega), su_c _ _ _ (show ¬ 27 = 2 by omega), eG, show ((0 : Int32), G) = (nI 0, G) from rfl, k1]
  rfl
theorem bB_1 {W : Nat} (hW : h 35 1 = nI W) (hW2 : W ≤ 200) : ∃ H, fX0_become_1 h = some H ∧ (∀ j, j < 3 → H 10 j = h 35 j) ∧ (∀ j w, j < 4 → w < W → H (11 + j) w = h (36 + j) w) ∧ ∀ c, (c < 10 ∨ 14 < c) → H c = h c := by
  have n0 : ¬ W < 0 := by omega
  have e : fX0_become_1 h = some (sr (sr (sr (sr (su (su (su h 10 0 (h 35 0)) 10 1 (h 35 1)) 10 2 (h 35 2)) 11 (va_cpy (h 36) (h 11) 0 0 W)) 12 (va_cpy (h 37) (h 12) 0 0 W)) 13 (va_cpy (h 38) (h 13) 0 0 W)) 14 (va_cpy (h 39) (h 14) 0 0 W)) := by
    unfold fX0_become_1
    simp (disch := omega) [n_lit, n_eq, n_lt, n_le, n_mul, n_add, n_cl, grd_t, grd_T, su_c, su_s, su_k, wi_in, n_m1', n_m1, hW, sr_c, n0, hW2]
  have vc : ∀ (f g : Nat → Int32) w, w < W → va_cpy f g 0 0 W w = f w := fun f g w hw => by
    unfold va_cpy
    rw [if_pos (by omega), show 0 + (w - 0) = w by omega]
  refine ⟨_, e, fun j hj => ?_, fun j w hj hw => ?_, fun c hc => by rw [sr_c _ _ (by omega), sr_c _ _ (by omega), sr_c _ _ (by omega), sr_c _ _ (by omega), su_c _ _ _ (by omega), su_c _ _ _ (by omega), su_c _ _ _ (by omega)]⟩
  · rw [sr_c _ _ (by omega), sr_c _ _ (by omega), sr_c _ _ (by omega), sr_c _ _ (by omega)]
    rcases (show j = 0 ∨ j = 1 ∨ j = 2 by omega) with rfl | rfl | rfl
    · rw [su_k _ _ _ (by omega), su_k _ _ _ (by omega), su_s]
    · rw [su_k _ _ _ (by omega), su_s]
    · rw [su_s]
  · rcases (show j = 0 ∨ j = 1 ∨ j = 2 ∨ j = 3 by omega) with rfl | rfl | rfl | rfl
    · show sr (sr (sr (sr _ 11 _) 12 _) 13 _) 14 _ 11 w = h 36 w
      rw [sr_c _ _ (by omega), sr_c _ _ (by omega), sr_c _ _ (by omega), sr_s]; exact vc _ _ w hw
    · show sr (sr (sr (sr _ 11 _) 12 _) 13 _) 14 _ 12 w = h 37 w
      rw [sr_c _ _ (by omega), sr_c _ _ (by omega), sr_s]; exact vc _ _ w hw
    · show sr (sr (sr (sr _ 11 _) 12 _) 13 _) 14 _ 13 w = h 38 w
      rw [sr_c _ _ (by omega), sr_s]; exact vc _ _ w hw
    · show sr (sr (sr (sr _ 11 _) 12 _) 13 _) 14 _ 14 w = h 39 w
      rw [sr_s]; exact vc _ _ w hw
theorem bT_1 {T : Nat} (hT : h 41 0 = nI T) (hT6 : T ≤ 6) (hz : ∀ t, t < T → ∃ n, n ≤ 80 ∧ h 49 t = nI n) : ∃ H, fX6_become_1 h = some H ∧ H 16 0 = nI T ∧ (∀ t, t < T → H 24 t = h 49 t ∧ ∀ n, n ≤ 80 → h 49 t = nI n → ∀ j, j < n → H (18 + t) j = h (43 + t) j) ∧ ∀ c, c ≠ 16 → c ≠ 24 → (c < 18 ∨ 23 < c) → H c = h c := by
  have key : ∃ H, lp (fun s : Int32 × Sto => fX6_become_1_b10 s.1 s.2) FUEL (nI 0, su h 16 0 (nI T)) = some H ∧ ((H 16 0 = nI T) ∧ (∀ t, t < T → H 24 t = h 49 t ∧ ∀ n, n ≤ 80 → h 49 t = nI n → ∀ j, j < n → H (18 + t) j = h (43 + t) j) ∧ ∀ c, c ≠ 16 → c ≠ 24 → (c < 18 ∨ 23 < c) → H c = h c) := by
    refine lp_I (f := fun s : Int32 × Sto => fX6_become_1_b10 s.1 s.2) (fun k s => s.1 = nI k ∧ (s.2 16 0 = nI T) ∧ (∀ t, t < k → s.2 24 t = h 49 t ∧ ∀ n, n ≤ 80 → h 49 t = nI n → ∀ j, j < n → s.2 (18 + t) j = h (43 + t) j) ∧ ∀ c, c ≠ 16 → c ≠ 24 → (c < 18 ∨ 23 < c) → s.2 c = h c) _ T (nI 0, su h 16 0 (nI T)) ⟨rfl, su_s h 16 0 (nI T), fun t ht => absurd ht (Nat.not_lt_zero _), fun c c1 _ _ => su_c _ _ _ c1⟩ (by omega) ?_ ?_
    · rintro k ⟨w, s⟩ hk ⟨rfl, a0, a1, a2⟩
      dsimp only at *
      obtain ⟨n, hn, en⟩ := hz k hk
      have eS : s 49 k = nI n := by rw [a2 49 (by omega) (by omega) (by omega)]; exact en
      have eB : s (43 + k) = h (43 + k) := a2 _ (by omega) (by omega) (by omega)
      have hk' : ¬ T ≤ k := by omega
      have n0 : ¬ n < 0 := by omega
      refine ⟨(nI (k + 1), sr (su s 24 k (nI n)) (18 + k) (va_cpy (h (43 + k)) (s (18 + k)) 0 0 n)), ?_, rfl, ?_, fun t ht => ?_, fun c c1 c2 c3 => (sr_c _ _ (by omega)).trans ((su_c _ _ _ c2).trans (a2 c c1 c2 c3))⟩
      · show fX6_become_1_b10 (nI k) s = _
        unfold fX6_become_1_b10
        simp (disch := omega) [n_lit, n_eq, n_lt, n_le, n_mul, n_add, n_cl, grd_t, grd_T, su_c, su_s, su_k, wi_in, n_m1', n_m1, a0, hk', n_in, eS, n0, hn, eB]
      · show sr _ (18 + k) _ 16 0 = _
        rw [sr_c _ _ (by omega), su_c _ _ _ (by omega)]; exact a0
      · show sr _ (18 + k) _ 24 t = _ ∧ ∀ m, m ≤ 80 → h 49 t = nI m → ∀ j, j < m → sr _ (18 + k) _ (18 + t) j = _
        rw [sr_c _ _ (by omega)]
        by_cases z : t = k
        · subst z
          refine ⟨by rw [su_s, en], fun m hm em j hj => ?_⟩
          have : m = n := by rw [en, n_eq (by omega) (by omega)] at em; exact em.symm
          subst this
          rw [sr_s]
          unfold va_cpy
          rw [if_pos (by omega), show 0 + (j - 0) = j by omega]
        · rw [su_k _ _ _ z, sr_c _ _ (by omega), su_c _ _ _ (by omega)]
          exact a1 t (by omega)
    · rintro ⟨w, s⟩ ⟨rfl, a0, a1, a2⟩
      dsimp only at *
      refine ⟨s, ?_, a0, a1, a2⟩
      show fX6_become_1_b10 (nI T) s = _
      unfold fX6_become_1_b10
      simp (disch := omega) [n_lit, n_eq, n_lt, n_le, n_mul, n_add, n_cl, grd_t, grd_T, su_c, su_s, su_k, wi_in, n_m1', n_m1, a0]
  obtain ⟨H, k1, k2⟩ := key
  refine ⟨H, ?_, k2⟩
  unfold fX6_become_1
  rw [Option.bind_some, hT, show ((0 : Int32), su h 16 0 (nI T)) = (nI 0, su h 16 0 (nI T)) from rfl, k1]
  rfl
/-- a scene becomes another one -/
theorem bS_1 {k : Nat} {T : Nat} (S : Sc h 26 k σ) (X : TxS h 26 k T) : ∃ H, fX3_become_1 h = some H ∧ (∀ j, j < 3 → H 2 j = h 27 j) ∧ (∀ j, j < 3 → H 10 j = h 35 j) ∧ H 1 4 = h 26 4 ∧ (∀ j i, 3 ≤ j → j < 9 → i < σ 0 0 → H (1 + j) i = h (26 + j) i) ∧ (∀ j w, 10 ≤ j → j < 14 → w < σ 0 2 → H (1 + j) w = h (26 + j) w) ∧ (∀ i, i < 10 → H 25 i = h 50 i) ∧ H 16 0 = h 41 0 ∧ (∀ t, t < T → H 24 t = h 49 t ∧ ∀ n, n ≤ 80 → h 49 t = nI n → ∀ j, j < n → H (18 + t) j = h (43 + t) j) ∧ ∀ c, (c < 1 ∨ 25 < c) → H c = h c := by
  have q1 : h 27 0 = nI (σ 0 0) := S.1.1.2.1
  have q2 : h 35 1 = nI (σ 0 2) := S.1.2.2.1.2.1
  have q3 : h 41 0 = nI T := X.2.1
  have qz : ∀ t, t < T → ∃ n, n ≤ 80 ∧ h 49 t = nI n := fun t ht => by
    obtain ⟨cs, N, e1, e2, -⟩ := X.2.2.2 t ht
    exact ⟨N, e2, e1⟩
  obtain ⟨H1, a1, a2, a3, a4⟩ := bN_1 q1 S.1.1.1
  obtain ⟨H2, b1, b2, b3, b4⟩ := bB_1 (h := H1) (W := σ 0 2) (by rw [a4 35 (by omega) (by omega)]; exact q2) S.1.2.2.1.1
  obtain ⟨H3, c1, c2, c3, c4⟩ := bT_1 (h := H2) (T := T) (by rw [b4 41 (by omega), a4 41 (by omega) (by omega)]; exact q3) X.1 (fun t ht => by rw [b4 49 (by omega), a4 49 (by omega) (by omega)]; exact qz t ht)
  refine ⟨su (sr H3 25 (va_cpy (H3 50) (H3 25) 0 0 10)) 1 4 (h 26 4), ?_, fun j hj => ?_, fun j hj => ?_, su_s _ _ _ _, fun j i h1 h2 h3 => ?_, fun j w h1 h2 h3 => ?_, fun i hi => ?_, ?_, fun t ht => ?_, fun c hc => ?_⟩
  · have eS : H3 26 4 = h 26 4 := by rw [c4 26 (by omega) (by omega) (by omega), b4 26 (by omega), a4 26 (by omega) (by omega)]
    unfold fX3_become_1
    rw [a1, Option.bind_some, b1, Option.bind_some, c1, Option.bind_some]
    simp (disch := omega) [n_lit, n_eq, n_lt, n_le, n_mul, n_add, n_cl, grd_t, grd_T, su_c, su_s, su_k, wi_in, n_m1', n_m1, sr_c, eS]
  · rw [su_c _ _ _ (by omega), sr_c _ _ (by omega), c4 2 (by omega) (by omega) (by omega), b4 2 (by omega)]; exact a2 j hj
  · rw [su_c _ _ _ (by omega), sr_c _ _ (by omega), c4 10 (by omega) (by omega) (by omega), b2 j hj, a4 35 (by omega) (by omega)]
  · rw [su_c _ _ _ (by omega), sr_c _ _ (by omega), c4 (1 + j) (by omega) (by omega) (by omega), b4 (1 + j) (by omega)]
    have := a3 (j - 3) i (by omega) h3
    rw [show 4 + (j - 3) = 1 + j by omega, show 29 + (j - 3) = 26 + j by omega] at this
    exact this
  · rw [su_c _ _ _ (by omega), sr_c _ _ (by omega), c4 (1 + j) (by omega) (by omega) (by omega)]
    have := b3 (j - 10) w (by omega) h3
    rw [show 11 + (j - 10) = 1 + j by omega, show 36 + (j - 10) = 26 + j by omega, a4 (26 + j) (by omega) (by omega)] at this
    exact this
  · rw [su_c _ _ _ (by omega), sr_s]
    unfold va_cpy
    rw [if_pos (by omega), show 0 + (i - 0) = i by omega, c4 50 (by omega) (by omega) (by omega), b4 50 (by omega), a4 50 (by omega) (by omega)]
  · rw [su_c _ _ _ (by omega), sr_c _ _ (by omega), c2, q3]
  · have e23 : H2 49 = h 49 := by rw [b4 49 (by omega), a4 49 (by omega) (by omega)]
    have e17 : H2 (43 + t) = h (43 + t) := by have := X.1; rw [b4 (43 + t) (by omega), a4 (43 + t) (by omega) (by omega)]
    have := c3 t ht
    have hX := X.1
    rw [e23, e17] at this
    rw [su_c _ _ _ (show ¬ 24 = 1 by omega), sr_c _ _ (show ¬ 24 = 25 by omega), su_c _ _ _ (show ¬ 18 + t = 1 by omega), sr_c _ _ (show ¬ 18 + t = 25 by omega)]
    exact this
  · rw [su_c _ _ _ (by omega), sr_c _ _ (by omega), c4 c (by omega) (by omega) (by omega), b4 c (by omega)]; exact a4 c (by omega) (by omega)
end BEC
