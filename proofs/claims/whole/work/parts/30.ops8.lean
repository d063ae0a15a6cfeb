/-! 30: tear, wipe, hold, as, feed -/
theorem Sc_cells {h h' : Sto} {σ : Gh} (S : Sc h 1 84 σ) (e : ∀ c, 1 ≤ c → c < 26 → h' c = h c) (ek : h' 84 = h 84) : Sc h' 1 84 σ :=
  Sc_congr (by rw [e 1 (by omega) (by omega)]) (fun j h1 h2 h3 => e _ (by omega) (by omega)) (e _ (by omega) (by omega)) (fun j _ => by rw [ek]) S
theorem Tx_cells {h h' : Sto} (X : ∃ T, TxS h 1 84 T) (e : ∀ c, 1 ≤ c → c < 26 → h' c = h c) (ek : h' 84 = h 84) : ∃ T, TxS h' 1 84 T := by
  obtain ⟨T, X⟩ := X
  exact ⟨T, TxS_congr (by rw [e _ (by omega) (by omega)]) (fun t ht => e _ (by omega) (by omega)) (e _ (by omega) (by omega)) (fun j _ => by rw [ek]) X⟩
theorem st_tear (h : Sto) (I : Inv h) : Agr fX8_tear fX9_tear h := by
  obtain ⟨σ, S⟩ := I.1
  have K := I.2.2.1
  have key : ∃ r, fX8_tear h = some (r, su h 0 2 0) ∧ fX9_tear (su h 0 2 0) = some (r, su (su h 0 2 0) 83 2 0) := by
    rcases K with ⟨a, b⟩ | ⟨a, b, -⟩
    · refine ⟨0, ?_, ?_⟩
      · unfold fX8_tear; rw [a, asI0]; rfl
      · unfold fX9_tear; simp (disch := omega) [su_c, su_s, su_k, b]
    · refine ⟨1, ?_, ?_⟩
      · unfold fX8_tear; rw [a, asI1]; rfl
      · unfold fX9_tear; simp (disch := omega) [su_c, su_s, su_k, b]
  obtain ⟨r, k1, k2⟩ := key
  refine agr r _ _ k1 k2 (Inv_cells I (Sc_cells S ?_ ?_) (Tx_cells I.2.1 ?_ ?_) (Or.inl ⟨?_, ?_⟩) (Tp_congr ?_ ?_ ?_ ?_ I.2.2.2.1) ?_ ?_ ?_ ?_ ?_)
  · intro c h1 h2; simp (disch := omega) [su_c, su_s, su_k]
  · simp (disch := omega) [su_c, su_s, su_k]
  · intro c h1 h2; simp (disch := omega) [su_c, su_s, su_k]
  · simp (disch := omega) [su_c, su_s, su_k]
  · simp (disch := omega) [su_c, su_s, su_k]
  · simp (disch := omega) [su_c, su_s, su_k]
  · simp (disch := omega) [su_c, su_s, su_k]
  · simp (disch := omega) [su_c, su_s, su_k]
  · simp (disch := omega) [su_c, su_s, su_k]
  · simp (disch := omega) [su_c, su_s, su_k]
  · intro c h1 h2; simp (disch := omega) [su_c, su_s, su_k]
  · simp (disch := omega) [su_c, su_s, su_k]
  · simp (disch := omega) [su_c, su_s, su_k]
  · simp (disch := omega) [su_c, su_s, su_k]
  · simp (disch := omega) [su_c, su_s, su_k]
theorem Inv_tape {h h' : Sto} (I : Inv h) (P : Tp h') (e : ∀ c, c ≠ 0 → c ≠ 51 → c ≠ 83 → c ≠ 88 → h' c = h c) (e0 : h' 0 2 = h 0 2) (e1 : h' 83 2 = h 83 2) : Inv h' := by
  obtain ⟨σ, S⟩ := I.1
  exact Inv_cells I (Sc_cells S (fun c h1 h2 => e c (by omega) (by omega) (by omega) (by omega)) (e 84 (by omega) (by omega) (by omega) (by omega))) (Tx_cells I.2.1 (fun c h1 h2 => e c (by omega) (by omega) (by omega) (by omega)) (e 84 (by omega) (by omega) (by omega) (by omega))) (Kp_congr (fun c h1 h2 => e c (by omega) (by omega) (by omega) (by omega)) e0 e1 (e 85 (by omega) (by omega) (by omega) (by omega)) I.2.2.1) P (fun c h1 h2 => e c (by omega) (by omega) (by omega) (by omega)) (e _ (by omega) (by omega) (by omega) (by omega)) (e _ (by omega) (by omega) (by omega) (by omega)) (e _ (by omega) (by omega) (by omega) (by omega)) (e _ (by omega) (by omega) (by omega) (by omega))
theorem st_wipe (h : Sto) (I : Inv h) : Agr fX8_wipe fX9_wipe h := by
  obtain ⟨n, n1, n2, n3, n4⟩ := I.2.2.2.1
  refine agr (nI n) (su h 0 4 (nI 0)) (su (su h 0 4 (nI 0)) 83 6 (nI 0)) ?_ ?_ (Inv_tape I ⟨0, by omega, ?_, ?_, fun j hj => absurd hj (by omega)⟩ ?_ ?_ ?_)
  · unfold fX8_wipe; rw [n2]; rfl
  · unfold fX9_wipe; simp (disch := omega) [su_c, su_s, su_k, n3, n_lit]
  · simp (disch := omega) [su_c, su_s, su_k]
  · simp (disch := omega) [su_c, su_s, su_k]
  · intro c h1 h2 h3 h4; simp (disch := omega) [su_c, su_s, su_k]
  · simp (disch := omega) [su_c, su_s, su_k]
  · simp (disch := omega) [su_c, su_s, su_k]
theorem Sc_hold {h h' : Sto} {σ : Gh} (S : Sc h 1 84 σ) {p w : Nat} (hp : p < 10) (hw : w ≤ σ 0 0) (e : h' = su (su h 25 p (lI w)) 84 (1204 + p) (lI w)) : Sc h' 1 84 (sg σ 13 p w) := by
  subst e
  have r0 : ∀ r', r' ≠ 13 → sg σ 13 p w r' = σ r' := fun r' hr => sg_r σ p w hr
  obtain ⟨⟨⟨a1, a2, a3⟩, ⟨b1, b2, b3⟩, ⟨c1, c2, c3⟩, d1, d2⟩, T, ⟨s1, s2⟩, W, P⟩ := S
  refine ⟨⟨⟨?_, ?_, ?_⟩, ⟨?_, ?_, ?_⟩, ⟨?_, ?_, ?_⟩, ?_, ?_⟩, ScT_c T a1 (fun j h1 h2 => by simp (disch := omega) [su_c, su_s, su_k]) (fun j h1 h2 => by simp (disch := omega) [su_c, su_s, su_k]) (by rw [r0 0 (by omega)]) (fun j _ _ => r0 j (by omega)), ⟨?_, ?_⟩, ScW_c W c1 (by simp (disch := omega) [su_c, su_s, su_k]) (by simp (disch := omega) [su_c, su_s, su_k]) (by simp (disch := omega) [su_c, su_s, su_k]) (by simp (disch := omega) [su_c, su_s, su_k]) (fun j h1 h2 => by simp (disch := omega) [su_c, su_s, su_k]) (by rw [r0 0 (by omega)]) (by rw [r0 0 (by omega)]; exact Nat.le_refl _) (by rw [r0 0 (by omega)]; exact Nat.le_refl _) (r0 9 (by omega)) (r0 10 (by omega)) (r0 11 (by omega)), fun i hi => ?_⟩
  · rw [r0 0 (by omega)]; exact a1
  · simp (disch := omega) [su_c, su_s, su_k, r0 0 (by omega)]; exact a2
  · simp (disch := omega) [su_c, su_s, su_k, r0 0 (by omega)]; exact a3
  · rw [r0 0 (by omega)]; exact b1
  · simp (disch := omega) [su_c, su_s, su_k, r0 0 (by omega)]; exact b2
  · simp (disch := omega) [su_c, su_s, su_k, r0 0 (by omega)]; exact b3
  · rw [r0 0 (by omega)]; exact c1
  · simp (disch := omega) [su_c, su_s, su_k, r0 0 (by omega)]; exact c2
  · simp (disch := omega) [su_c, su_s, su_k, r0 0 (by omega)]; exact c3
  · simp (disch := omega) [su_c, su_s, su_k]; exact d1
  · simp (disch := omega) [su_c, su_s, su_k]; exact d2
  · simp (disch := omega) [su_c, su_s, su_k, r0 0 (by omega), r0 7 (by omega)]; exact s1
  · simp (disch := omega) [su_c, su_s, su_k, r0 0 (by omega), r0 8 (by omega)]; exact s2
  · have := P i hi
    by_cases e : i = p
    · subst e
      simp (disch := omega) [su_c, su_s, su_k, sg_r, sg_s]
      exact hw
    · simp (disch := omega) [su_c, su_s, su_k, sg_r, sg_i]
      exact this
theorem st_hold (a b : Int32) (h : Sto) (I : Inv h) : Agr (fX8_hold a b) (fX9_hold a b) h := by
  obtain ⟨σ, S⟩ := I.1
  have hN := lN14 S
  by_cases h1 : nI 0 ≤ a ∧ a ≤ nI 9
  · obtain ⟨p, rfl, -, hp⟩ := arg_in (by omega) (by omega) h1
    have go : ∀ w, w ≤ σ 0 0 → fX8_hold (nI p) (lI w) h = some (nI 1, su h 25 p (lI w)) → fX9_hold (nI p) (lI w) (su h 25 p (lI w)) = some (nI 1, su (su h 25 p (lI w)) 84 (1204 + p) (lI w)) → Agr (fX8_hold (nI p) (lI w)) (fX9_hold (nI p) (lI w)) h := by
      intro w hw k1 k2
      refine agr _ _ _ k1 k2 (Inv_scene I (Sc_hold S (by omega) hw rfl) ?_ ?_ ?_ ?_ ?_ ?_)
      · intro c hc; simp (disch := omega) [su_c, su_s, su_k]
      · intro c hc; simp (disch := omega) [su_c, su_s, su_k]
      · simp (disch := omega) [su_c, su_s, su_k]
      · intro t ht; simp (disch := omega) [su_c, su_s, su_k]
      · simp (disch := omega) [su_c, su_s, su_k]
      · intro j hj; simp (disch := omega) [su_c, su_s, su_k]
    by_cases h2 : b = lI 0
    · subst h2
      refine go 0 (by omega) ?_ ?_
      · unfold fX8_hold fX8_isSpot
        simp (disch := omega) [n_lit, n_eq, n_lt, n_le, n_mul, n_add, n_cl, grd_t, grd_T, su_c, su_s, su_k, wi_in, n_m1', n_m1, h1]
      · unfold fX9_hold
        simp (disch := omega) [n_lit, n_eq, n_lt, n_le, n_mul, n_add, n_cl, grd_t, grd_T, su_c, su_s, su_k, wi_in, n_m1', n_m1, in_n _ 0 9 (by omega) (by omega), h1]
    · by_cases h3 : nI 0 ≤ b ∧ b ≤ lI (σ 0 0)
      · obtain ⟨j, hj, rfl⟩ := (arg_nm (by omega)).mp h3
        rw [show nI j = lI (j + 1) from (lI_s j).symm] at h2 h3 ⊢
        refine go (j + 1) (by omega) ?_ ?_
        · unfold fX8_hold fX8_isSpot
          simp (disch := omega) [n_lit, n_eq, n_lt, n_le, n_mul, n_add, n_cl, grd_t, grd_T, su_c, su_s, su_k, wi_in, n_m1', n_m1, h1, h2, cHas S, h3]
        · unfold fX9_hold fX9_isName
          simp (disch := omega) [n_lit, n_eq, n_lt, n_le, n_mul, n_add, n_cl, grd_t, grd_T, su_c, su_s, su_k, wi_in, n_m1', n_m1, in_n _ 0 9 (by omega) (by omega), h1, h2, in_v, mN S, h3]
      · refine ag_f0 I ?_ ?_
        · unfold fX8_hold fX8_isSpot
          simp (disch := omega) [n_lit, n_eq, n_lt, n_le, n_mul, n_add, n_cl, grd_t, grd_T, su_c, su_s, su_k, wi_in, n_m1', n_m1, h1, h2, cHas S, h3]
        · intro h' e
          subst e
          unfold fX9_hold
          simp (disch := omega) [n_lit, n_eq, n_lt, n_le, n_mul, n_add, n_cl, grd_t, grd_T, su_c, su_s, su_k, wi_in, n_m1', n_m1, in_n _ 0 9 (by omega) (by omega), h1, h2, mHas (Sc_find S), h3]
  · refine ag_f0 I ?_ ?_
    · unfold fX8_hold fX8_isSpot
      simp [wi_in, n_lit, h1]
    · intro h' _
      unfold fX9_hold
      simp [in_n _ 0 9 (by omega) (by omega), h1]
theorem as_tab (x : Int32) (h : Sto) : ∀ κ, κ < 8 → ∀ k, k < 8 → lp (fun s => fX9_as_b62 (nI k) x h s) FUEL (nI κ) = some (if isO κ k then .inr (x, h) else .inl ()) := by
  intro κ hκ k hk
  rcases (show κ = 0 ∨ κ = 1 ∨ κ = 2 ∨ κ = 3 ∨ κ = 4 ∨ κ = 5 ∨ κ = 6 ∨ κ = 7 by omega) with rfl | rfl | rfl | rfl | rfl | rfl | rfl | rfl <;>
  rcases (show k = 0 ∨ k = 1 ∨ k = 2 ∨ k = 3 ∨ k = 4 ∨ k = 5 ∨ k = 6 ∨ k = 7 by omega) with rfl | rfl | rfl | rfl | rfl | rfl | rfl | rfl <;> rfl
theorem st_as (a b : Int32) (h : Sto) (I : Inv h) : Agr (fX8_as a b) (fX9_as a b) h := by
  obtain ⟨σ, S⟩ := I.1
  have hN := lN14 S
  by_cases h1 : nI 0 ≤ a ∧ a ≤ nI 9
  · obtain ⟨p, rfl, -, hp⟩ := arg_in (by omega) (by omega) h1
    by_cases h2 : nI 0 ≤ b ∧ b ≤ nI 7
    · obtain ⟨k, rfl, -, hk⟩ := arg_in (by omega) (by omega) h2
      obtain ⟨q1, q2, q3⟩ := S.2.2.2.2 p (by omega)
      have q1 : h 25 p = lI (σ 13 p) := q1
      by_cases z : σ 13 p = 0
      · refine ag_f5 I ?_ ?_
        · unfold fX8_as fX8_isSpot
          simp (disch := omega) [n_lit, n_eq, n_lt, n_le, n_mul, n_add, n_cl, grd_t, grd_T, su_c, su_s, su_k, wi_in, n_m1', n_m1, h1, h2, q1, z, lI_ge0]
        · intro h' e
          subst e
          unfold fX9_as
          simp (disch := omega) [n_lit, n_eq, n_lt, n_le, n_mul, n_add, n_cl, grd_t, grd_T, su_c, su_s, su_k, wi_in, n_m1', n_m1, in_n _ 0 9 (by omega) (by omega), in_n _ 0 7 (by omega) (by omega), h1, h2, q2, z, lI_ge0]
      · obtain ⟨j, hj⟩ : ∃ j, σ 13 p = j + 1 := ⟨σ 13 p - 1, by omega⟩
        have hj2 : j < σ 0 0 := by omega
        have tj := (S.2.1 j hj2).1
        rw [hj, lI_s] at q1 q2
        cases hq : isO (σ 1 j) k with
        | true =>
          refine agr (nI j) h h ?_ ?_ I
          · unfold fX8_as fX8_isSpot
            simp (disch := omega) [n_lit, n_eq, n_lt, n_le, n_mul, n_add, n_cl, grd_t, grd_T, su_c, su_s, su_k, wi_in, n_m1', n_m1, h1, h2, q1, cIsOf S hj2, hq]
          · unfold fX9_as
            simp (disch := omega) [n_lit, n_eq, n_lt, n_le, n_mul, n_add, n_cl, grd_t, grd_T, su_c, su_s, su_k, wi_in, n_m1', n_m1, in_n _ 0 9 (by omega) (by omega), in_n _ 0 7 (by omega) (by omega), h1, h2, q2, mOf]
            rw [tj.2.1, as_tab _ _ _ (by omega) _ (by omega), hq]
            rfl
        | false =>
          refine ag_f2 I ?_ ?_
          · unfold fX8_as fX8_isSpot
            simp (disch := omega) [n_lit, n_eq, n_lt, n_le, n_mul, n_add, n_cl, grd_t, grd_T, su_c, su_s, su_k, wi_in, n_m1', n_m1, h1, h2, q1, cIsOf S hj2, hq]
          · intro h' e
            have e84 : h' 84 = h 84 := by rw [e]; simp (disch := omega) [su_c, su_s, su_k]
            unfold fX9_as
            simp (disch := omega) [n_lit, n_eq, n_lt, n_le, n_mul, n_add, n_cl, grd_t, grd_T, su_c, su_s, su_k, wi_in, n_m1', n_m1, in_n _ 0 9 (by omega) (by omega), in_n _ 0 7 (by omega) (by omega), h1, h2, e84, q2, mOf]
            rw [tj.2.1, as_tab _ _ _ (by omega) _ (by omega), hq]
            rfl
    · refine ag_f0 I ?_ ?_
      · unfold fX8_as fX8_isSpot
        simp [wi_in, n_lit, h1, h2]
      · intro h' _
        unfold fX9_as
        simp [in_n _ 0 9 (by omega) (by omega), in_n _ 0 7 (by omega) (by omega), h1, h2]
  · refine ag_f0 I ?_ ?_
    · unfold fX8_as fX8_isSpot
      simp [wi_in, n_lit, h1]
    · intro h' _
      unfold fX9_as
      simp [in_n _ 0 9 (by omega) (by omega), h1]
