/-! 42: write, judge, copy -/
theorem st_write (a b c : Int32) (h : Sto) (I : Inv h) : Agr (fX8_write a b c) (fX9_write a b c) h := by
  by_cases h1 : nI 0 ≤ a ∧ a ≤ nI 3
  · obtain ⟨s, rfl, -, hs⟩ := arg_in (by omega) (by omega) h1
    have hs4 : s < 4 := by omega
    obtain ⟨n, A1, A2, A3, A4, A5, A6, A7⟩ := I.2.2.2.2.1 s hs4
    by_cases z0 : h 93 s = nI 0
    · refine ag_f5 I ?_ ?_
      · unfold fX8_write
        rw [cSh, decide_eq_true h1]
        simp (disch := omega) [n_lit, n_eq, n_lt, n_le, n_mul, n_add, n_cl, grd_t, grd_T, su_c, su_s, su_k, wi_in, n_m1', n_m1, cMis, A4, z0]
      · intro h1' e
        subst e
        unfold fX9_write
        rw [mSh, decide_eq_true h1]
        simp (disch := omega) [n_lit, n_eq, n_lt, n_le, n_mul, n_add, n_cl, grd_t, grd_T, su_c, su_s, su_k, wi_in, n_m1', n_m1, z0]
    · by_cases h2 : nI 0 ≤ b ∧ b ≤ lI n
      · obtain ⟨j, hj, rfl⟩ := (arg_nm (by omega)).mp h2
        obtain ⟨v, hc, hm⟩ : ∃ v, fX8_write (nI s) (nI j) c h = some (1, su h (57 + s) j v) ∧ fX9_write (nI s) (nI j) c (su h (57 + s) j v) = some (1, su (su h (57 + s) j v) 95 (40 * s + j) v) := by
          have hc0 : fX8_write (nI s) (nI j) c h = (fX4_put s (nI j) c h).bind fun q_13 => some (1, q_13) := by
            unfold fX8_write
            rw [cSh, decide_eq_true h1]
            simp (disch := omega) [n_lit, n_eq, n_lt, n_le, n_mul, n_add, n_cl, grd_t, grd_T, su_c, su_s, su_k, wi_in, n_m1', n_m1, cMis, A4, z0, A2, h2]
          have hm0 : ∀ v, fX9_write (nI s) (nI j) c (su h (57 + s) j v) = if h 93 s = nI 8 then some (1, su (su h (57 + s) j v) 95 (40 * s + j) c.toInt8.toInt32) else (if h 93 s = nI 16 then some (1, su (su h (57 + s) j v) 95 (40 * s + j) c.toInt16.toInt32) else some (1, su (su h (57 + s) j v) 95 (40 * s + j) c)) := by
            intro v
            unfold fX9_write
            rw [mSh, decide_eq_true h1]
            simp (disch := omega) [n_lit, n_eq, n_lt, n_le, n_mul, n_add, n_cl, grd_t, grd_T, su_c, su_s, su_k, wi_in, n_m1', n_m1, z0, A3, in_v, h2]
          by_cases y8 : h 93 s = 8
          · refine ⟨c.toInt8.toInt32, ?_, ?_⟩
            · rw [hc0]
              unfold fX4_put
              rw [grd_t hs4, A4, if_neg (by simpa using y8), g_in (by omega) (by omega), n_cl (by omega)]
              rfl
            · rw [hm0]; exact if_pos y8
          · by_cases y16 : h 93 s = 16
            · refine ⟨c.toInt16.toInt32, ?_, ?_⟩
              · rw [hc0]
                unfold fX4_put
                rw [grd_t hs4, A4, if_pos y8, if_neg (by simpa using y16), g_in (by omega) (by omega), n_cl (by omega)]
                rfl
              · rw [hm0]; exact (if_neg y8).trans (if_pos y16)
            · refine ⟨c, ?_, ?_⟩
              · rw [hc0]
                unfold fX4_put
                rw [grd_t hs4, A4, if_pos y8, if_pos y16, g_in (by omega) (by omega), n_cl (by omega)]
                rfl
              · rw [hm0]; exact (if_neg y8).trans (if_neg y16)
        refine agr _ _ _ hc hm (Inv_sh (s := s) (n := n) I hs4 ⟨A1, ?_, ?_, ?_, ?_, ?_, ?_⟩ ?_ ?_ ?_ ?_ ?_)
        · simp (disch := omega) [su_c, su_s, su_k]; exact A2
        · simp (disch := omega) [su_c, su_s, su_k]; exact A3
        · simp (disch := omega) [su_c, su_s, su_k]; exact A4
        · simp (disch := omega) [su_c, su_s, su_k]; exact A5
        · simp (disch := omega) [su_c, su_s, su_k]; exact A6
        · intro i hi
          by_cases q : i = j
          · subst q; simp (disch := omega) [su_c, su_s, su_k]
          · simp (disch := omega) [su_c, su_s, su_k]; exact A7 i hi
        · intro c h1 h2 h3; simp (disch := omega) [su_c, su_s, su_k]
        · intro c h1 h2 h3 h4; simp (disch := omega) [su_c, su_s, su_k]
        · intro j hj; simp (disch := omega) [su_c, su_s, su_k]
        · intro j hj; simp (disch := omega) [su_c, su_s, su_k]
        · intro j hj; simp (disch := omega) [su_c, su_s, su_k]
      · refine ag_f0 I ?_ ?_
        · unfold fX8_write
          rw [cSh, decide_eq_true h1]
          simp (disch := omega) [n_lit, n_eq, n_lt, n_le, n_mul, n_add, n_cl, grd_t, grd_T, su_c, su_s, su_k, wi_in, n_m1', n_m1, cMis, A4, z0, A2, h2]
        · intro h1' e
          subst e
          unfold fX9_write
          rw [mSh, decide_eq_true h1]
          simp (disch := omega) [n_lit, n_eq, n_lt, n_le, n_mul, n_add, n_cl, grd_t, grd_T, su_c, su_s, su_k, wi_in, n_m1', n_m1, z0, A3, in_v, h2]
  · refine ag_f0 I ?_ ?_
    · unfold fX8_write
      rw [cSh]
      simp [h1]
    · intro h1' e
      unfold fX9_write
      rw [mSh]
      simp [h1]
theorem cJud {h : Sto} {σ : Gh} {s n m : Nat} (S : Sc h 1 84 σ) (hs4 : s < 4) (A1 : n ≤ 40) (A2 : h (53 + s) 1 = nI n) (A3 : h 94 s = nI n) (A7 : ∀ j, j < n → h (57 + s) j = h 95 (40 * s + j)) (m1 : m ≤ min n (σ 0 2)) (m2 : ∀ w, w < m → h 95 (40 * s + w) = nI (σ 10 w)) (m3 : m < min n (σ 0 2) → ¬ h 95 (40 * s + m) = nI (σ 10 m)) : lp (fun q => fX8_judge_b60 s (nI (min n (σ 0 2))) h q) FUEL (nI 0) = some (nI m) := by
  have hW := lW S
  refine lp_F (g := fun i => nI i) m _ rfl (by omega) ?_ ?_
  · intro i hi
    have hz : ¬ min n (σ 0 2) ≤ i := by omega
    have hq := m2 i hi
    show fX8_judge_b60 s (nI (min n (σ 0 2))) h (nI i) = _
    unfold fX8_judge_b60
    simp (disch := omega) [n_lit, n_eq, n_lt, n_le, n_mul, n_add, n_cl, grd_t, grd_T, su_c, su_s, su_k, wi_in, n_m1', n_m1, hz, c12 S, A7, hq]
  · show fX8_judge_b60 s (nI (min n (σ 0 2))) h (nI m) = _
    unfold fX8_judge_b60
    by_cases z : m < min n (σ 0 2)
    · have hz : ¬ min n (σ 0 2) ≤ m := by omega
      have hq := m3 z
      simp (disch := omega) [n_lit, n_eq, n_lt, n_le, n_mul, n_add, n_cl, grd_t, grd_T, su_c, su_s, su_k, wi_in, n_m1', n_m1, hz, c12 S, A7, hq]
    · have hz : min n (σ 0 2) ≤ m := by omega
      simp (disch := omega) [n_lit, n_eq, n_lt, n_le, n_mul, n_add, n_cl, grd_t, grd_T, su_c, su_s, su_k, wi_in, n_m1', n_m1, hz]
theorem mJud {h : Sto} {σ : Gh} {s n m : Nat} (S : Sc h 1 84 σ) (hs4 : s < 4) (A1 : n ≤ 40) (A2 : h (53 + s) 1 = nI n) (A3 : h 94 s = nI n) (A7 : ∀ j, j < n → h (57 + s) j = h 95 (40 * s + j)) (m1 : m ≤ min n (σ 0 2)) (m2 : ∀ w, w < m → h 95 (40 * s + w) = nI (σ 10 w)) (m3 : m < min n (σ 0 2) → ¬ h 95 (40 * s + m) = nI (σ 10 m)) : lp (fun q => fX9_judge_b33 (nI s) h q) FUEL (nI 0) = some (nI m) := by
  have hW := lW S
  refine lp_F (g := fun i => nI i) m _ rfl (by omega) ?_ ?_
  · intro i hi
    have hz : ¬ n ≤ i := by omega
    have hz2 : ¬ σ 0 2 ≤ i := by omega
    have hq := m2 i hi
    show fX9_judge_b33 (nI s) h (nI i) = _
    unfold fX9_judge_b33
    simp (disch := omega) [n_lit, n_eq, n_lt, n_le, n_mul, n_add, n_cl, grd_t, grd_T, su_c, su_s, su_k, wi_in, n_m1', n_m1, hz, hz2, A3, mW S, w1 S, hq]
  · show fX9_judge_b33 (nI s) h (nI m) = _
    unfold fX9_judge_b33
    by_cases z : n ≤ m
    · simp (disch := omega) [n_lit, n_eq, n_lt, n_le, n_mul, n_add, n_cl, grd_t, grd_T, su_c, su_s, su_k, wi_in, n_m1', n_m1, z, A3]
    · by_cases z2 : σ 0 2 ≤ m
      · simp (disch := omega) [n_lit, n_eq, n_lt, n_le, n_mul, n_add, n_cl, grd_t, grd_T, su_c, su_s, su_k, wi_in, n_m1', n_m1, z, z2, A3, mW S]
      · have hq := m3 (by omega)
        simp (disch := omega) [n_lit, n_eq, n_lt, n_le, n_mul, n_add, n_cl, grd_t, grd_T, su_c, su_s, su_k, wi_in, n_m1', n_m1, z, z2, A3, mW S, w1 S, hq]
theorem st_judge (a : Int32) (h : Sto) (I : Inv h) : Agr (fX8_judge a) (fX9_judge a) h := by
  obtain ⟨σ, S⟩ := I.1
  have hW := lW S
  by_cases h1 : nI 0 ≤ a ∧ a ≤ nI 3
  · obtain ⟨s, rfl, -, hs⟩ := arg_in (by omega) (by omega) h1
    have hs4 : s < 4 := by omega
    obtain ⟨n, A1, A2, A3, A4, A5, A6, A7⟩ := I.2.2.2.2.1 s hs4
    by_cases z0 : h 93 s = nI 0
    · refine ag_f5 I ?_ ?_
      · unfold fX8_judge
        rw [cSh, decide_eq_true h1]
        simp (disch := omega) [n_lit, n_eq, n_lt, n_le, n_mul, n_add, n_cl, grd_t, grd_T, su_c, su_s, su_k, wi_in, n_m1', n_m1, cMis, A4, z0]
      · intro h1' e
        subst e
        unfold fX9_judge
        rw [mSh, decide_eq_true h1]
        simp (disch := omega) [n_lit, n_eq, n_lt, n_le, n_mul, n_add, n_cl, grd_t, grd_T, su_c, su_s, su_k, wi_in, n_m1', n_m1, z0]
    · generalize hm : fi (fun j => decide (h 95 (40 * s + j) ≠ nI (σ 10 j))) (min n (σ 0 2)) = m
      have m1 : m ≤ min n (σ 0 2) := hm ▸ fi_le _ _
      have m2 : ∀ w, w < m → h 95 (40 * s + w) = nI (σ 10 w) := fun w hw => by
        have := fi_no (fun j => decide (h 95 (40 * s + j) ≠ nI (σ 10 j))) (min n (σ 0 2)) w (by rw [hm]; exact hw)
        simpa using this
      have m3 : m < min n (σ 0 2) → ¬ h 95 (40 * s + m) = nI (σ 10 m) := fun hw => by
        have := fi_at (fun j => decide (h 95 (40 * s + j) ≠ nI (σ 10 j))) (min n (σ 0 2)) (by rw [hm]; exact hw)
        rw [hm] at this
        simpa using this
      have lc := cJud S hs4 A1 A2 A3 A7 m1 m2 m3
      have lm := mJud S hs4 A1 A2 A3 A7 m1 m2 m3
      have hj : jmin (nI n) (nI (σ 0 2)) = nI (min n (σ 0 2)) := j_min (by omega) (by omega)
      by_cases e1 : m = n ∧ m = σ 0 2
      · obtain ⟨e1, e2⟩ := e1
        have cw := cW S
        have mw := mW S
        rw [← e2] at lc hj cw mw
        rw [← e1] at lc hj A2 A3
        rw [Nat.min_self] at lc hj
        refine agr 0 h h ?_ ?_ I
        · unfold fX8_judge
          rw [cSh, decide_eq_true h1]
          simp (disch := omega) [n_lit, n_eq, n_lt, n_le, n_mul, n_add, n_cl, grd_t, grd_T, su_c, su_s, su_k, wi_in, n_m1', n_m1, cMis, A4, z0, A2, cw, hj, lc]
        · unfold fX9_judge
          rw [mSh, decide_eq_true h1]
          simp (disch := omega) [n_lit, n_eq, n_lt, n_le, n_mul, n_add, n_cl, grd_t, grd_T, su_c, su_s, su_k, wi_in, n_m1', n_m1, z0, lm, A3, mw]
      · by_cases q1 : m = n
        · have q2 : ¬ m = σ 0 2 := fun q => e1 ⟨q1, q⟩
          rw [← q1] at A2 A3
          refine agr (nI (m + 1)) h h ?_ ?_ I
          · unfold fX8_judge
            rw [cSh, decide_eq_true h1]
            rw [← q1, show min m (σ 0 2) = m by omega] at hj lc
            simp (disch := omega) [n_lit, n_eq, n_lt, n_le, n_mul, n_add, n_cl, grd_t, grd_T, su_c, su_s, su_k, wi_in, n_m1', n_m1, cMis, A4, z0, A2, cW S, hj, lc, q2]
          · unfold fX9_judge
            rw [mSh, decide_eq_true h1]
            simp (disch := omega) [n_lit, n_eq, n_lt, n_le, n_mul, n_add, n_cl, grd_t, grd_T, su_c, su_s, su_k, wi_in, n_m1', n_m1, z0, lm, A3, mW S, q2, Nat.add_comm 1 m]
        · refine agr (nI (m + 1)) h h ?_ ?_ I
          · unfold fX8_judge
            rw [cSh, decide_eq_true h1]
            simp (disch := omega) [n_lit, n_eq, n_lt, n_le, n_mul, n_add, n_cl, grd_t, grd_T, su_c, su_s, su_k, wi_in, n_m1', n_m1, cMis, A4, z0, A2, cW S, hj, lc, q1]
          · unfold fX9_judge
            rw [mSh, decide_eq_true h1]
            simp (disch := omega) [n_lit, n_eq, n_lt, n_le, n_mul, n_add, n_cl, grd_t, grd_T, su_c, su_s, su_k, wi_in, n_m1', n_m1, z0, lm, A3, mW S, q1, Nat.add_comm 1 m]
  · refine ag_f0 I ?_ ?_
    · unfold fX8_judge
      rw [cSh]
      simp [h1]
    · intro h1' e
      unfold fX9_judge
      rw [mSh]
      simp [h1]
