/-! 39: what is told; say -/
section SAY2
variable {h : Sto} {σ : Gh} {n : Nat}
def ltW (σ : Gh) (l : Nat) : Nat := la (fun v => decide (σ 10 v = l)) (σ 0 2)
def tpS (σ : Gh) (n : Nat) : Nat := if σ 1 n = 3 then (σ 6 n + cnt σ n (σ 0 2) % 3) % 10 else if σ 1 n = 6 ∧ 0 < σ 5 n ∧ 0 < ltW σ (σ 5 n - 1) then σ 11 (ltW σ (σ 5 n - 1) - 1) else σ 6 n
theorem tpS_le (S : Sc h 1 84 σ) (hn : n < σ 0 0) : tpS σ n ≤ 9 := by
  have := (t9 S hn).2
  unfold tpS
  split
  · omega
  · split
    · rename_i z
      have := la_le (fun v => decide (σ 10 v = σ 5 n - 1)) (σ 0 2)
      exact b11 S (by unfold ltW at z ⊢; omega)
    · exact this
theorem cLat (S : Sc h 1 84 σ) (l : Nat) (hl : l < 14) : fX0_latestOf (nI l) h = some (lI (ltW σ l)) := by
  have hW := lW S
  have hN := lN14 S
  generalize hm : ltW σ l = m
  have m1 : m ≤ σ 0 2 := hm ▸ la_le _ _
  have m2 : ∀ w, m ≤ w → w < σ 0 2 → σ 10 w ≠ l := fun w h1 h2 => by
    have := la_no (fun v => decide (σ 10 v = l)) (σ 0 2) w (by unfold ltW at hm; rw [hm]; exact h1) h2
    simpa using this
  have m3 : 0 < m → σ 10 (m - 1) = l := fun h1 => by
    have := la_at (fun v => decide (σ 10 v = l)) (σ 0 2) (by unfold ltW at hm; rw [hm]; exact h1)
    unfold ltW at hm
    rw [hm] at this
    simpa using this
  have hl : lp (fun q => fX0_latestOf_b7 (nI l) h q) FUEL (h 10 1 - 1) = some (lI m) := by
    refine lp_F (g := fun j => lI (σ 0 2 - j)) (σ 0 2 - m) _ (by rw [cW S]; rfl) (by omega) ?_ ?_
    · intro j hj
      obtain ⟨v, hv⟩ : ∃ v, σ 0 2 - j = v + 1 := ⟨σ 0 2 - j - 1, by omega⟩
      have hv2 : v < σ 0 2 := by omega
      have hb := b10 S hv2
      have hx := m2 v (by omega) hv2
      show fX0_latestOf_b7 (nI l) h (lI (σ 0 2 - j)) = some (.inl (lI (σ 0 2 - (j + 1))))
      rw [hv, lI_s, show σ 0 2 - (j + 1) = v by omega]
      unfold fX0_latestOf_b7
      simp (disch := omega) [n_lit, n_eq, n_lt, n_le, n_mul, n_add, n_cl, grd_t, grd_T, su_c, su_s, su_k, wi_in, n_m1', n_m1, c12 S hv2, hx, n_pre]
    · show fX0_latestOf_b7 (nI l) h (lI (σ 0 2 - (σ 0 2 - m))) = some (.inr (lI m))
      rw [show σ 0 2 - (σ 0 2 - m) = m by omega]
      cases m with
      | zero => rfl
      | succ v =>
        have hv2 : v < σ 0 2 := by omega
        have hx := m3 (by omega)
        rw [show v + 1 - 1 = v by omega] at hx
        rw [lI_s]
        unfold fX0_latestOf_b7
        simp (disch := omega) [n_lit, n_eq, n_lt, n_le, n_mul, n_add, n_cl, grd_t, grd_T, su_c, su_s, su_k, wi_in, n_m1', n_m1, c12 S hv2, hx]
  unfold fX0_latestOf
  rw [hl]
  rfl
theorem cTop (S : Sc h 1 84 σ) (hn : n < σ 0 0) : fX3_topicOf (nI n) h = some (nI (tpS σ n)) := by
  have hW := lW S
  have hN := lN14 S
  have k4 := t4 S hn
  have k8 := t8 S hn
  have k9 := t9 S hn
  have hc := cnt_le σ n (σ 0 2)
  unfold fX3_topicOf tpS
  by_cases z3 : σ 1 n = 3
  · simp (disch := omega) [n_lit, n_eq, n_lt, n_le, n_mul, n_add, n_cl, grd_t, grd_T, su_c, su_s, su_k, wi_in, n_m1', n_m1, k4.1, k9.1, z3, cCnt S, n_rem]
  · by_cases z6 : σ 1 n = 6
    · by_cases z5 : σ 5 n = 0
      · simp (disch := omega) [n_lit, n_eq, n_lt, n_le, n_mul, n_add, n_cl, grd_t, grd_T, su_c, su_s, su_k, wi_in, n_m1', n_m1, k4.1, k9.1, k8.1, z6, z5, lI_lt0]
      · obtain ⟨j, hj⟩ : ∃ j, σ 5 n = j + 1 := ⟨σ 5 n - 1, by omega⟩
        have hl := la_le (fun v => decide (σ 10 v = j)) (σ 0 2)
        have hl : ltW σ j ≤ σ 0 2 := hl
        by_cases y : 0 < ltW σ j
        · obtain ⟨v, hv⟩ : ∃ v, ltW σ j = v + 1 := ⟨ltW σ j - 1, by omega⟩
          have hv2 : v < σ 0 2 := by omega
          simp (disch := omega) [n_lit, n_eq, n_lt, n_le, n_mul, n_add, n_cl, grd_t, grd_T, su_c, su_s, su_k, wi_in, n_m1', n_m1, k4.1, k9.1, k8.1, z6, hj, lI_s, cLat S, hv, c13 S hv2]
        · have y0 : ltW σ j = 0 := by omega
          have y1 : ¬ nI 0 ≤ lI 0 := by decide
          simp (disch := omega) [n_lit, n_eq, n_lt, n_le, n_mul, n_add, n_cl, grd_t, grd_T, su_c, su_s, su_k, wi_in, n_m1', n_m1, k4.1, k9.1, k8.1, z6, hj, lI_s, cLat S, y0, y1]
    · simp (disch := omega) [n_lit, n_eq, n_lt, n_le, n_mul, n_add, n_cl, grd_t, grd_T, su_c, su_s, su_k, wi_in, n_m1', n_m1, k4.1, k9.1, z3, z6]
theorem mTop (S : Sc h 1 84 σ) (hn : n < σ 0 0) : fX9_tellsNow (nI n) h = some (nI (tpS σ n)) := by
  have hW := lW S
  have hN := lN14 S
  have k4 := t4 S hn
  have k8 := t8 S hn
  have k9 := t9 S hn
  have hc := cnt_le σ n (σ 0 2)
  have e5 : fX9_of (nI n) 5 h = some (nI (σ 6 n)) := o5 S hn
  have e0 : fX9_of (nI n) 0 h = some (nI (σ 1 n)) := o0 S hn
  have e4 : fX9_of (nI n) 4 h = some (lI (σ 5 n)) := o4 S hn
  unfold fX9_tellsNow tpS
  rw [e5, e0, e4]
  by_cases z3 : σ 1 n = 3
  · simp (disch := omega) [n_lit, n_eq, n_lt, n_le, n_mul, n_add, n_cl, grd_t, grd_T, su_c, su_s, su_k, wi_in, n_m1', n_m1, z3, mCnt S, n_rem]
  · by_cases z6 : σ 1 n = 6
    · by_cases z5 : σ 5 n = 0
      · simp (disch := omega) [n_lit, n_eq, n_lt, n_le, n_mul, n_add, n_cl, grd_t, grd_T, su_c, su_s, su_k, wi_in, n_m1', n_m1, z6, z5, lI_ge0]
      · obtain ⟨j, hj⟩ : ∃ j, σ 5 n = j + 1 := ⟨σ 5 n - 1, by omega⟩
        generalize hm : ltW σ j = m
        have m1 : m ≤ σ 0 2 := hm ▸ la_le _ _
        have m2 : ∀ w, m ≤ w → w < σ 0 2 → σ 10 w ≠ j := fun w h1 h2 => by
          have := la_no (fun v => decide (σ 10 v = j)) (σ 0 2) w (by unfold ltW at hm; rw [hm]; exact h1) h2
          simpa using this
        have m3 : 0 < m → σ 10 (m - 1) = j := fun h1 => by
          have := la_at (fun v => decide (σ 10 v = j)) (σ 0 2) (by unfold ltW at hm; rw [hm]; exact h1)
          unfold ltW at hm
          rw [hm] at this
          simpa using this
        have hl : lp (fun q => fX9_tellsNow_b61 (nI n) (nI (σ 6 n)) h q) FUEL (h 84 2 - 1) = some (if 0 < m then .inr (nI (σ 11 (m - 1))) else .inl ()) := by
          refine lp_F (g := fun i => lI (σ 0 2 - i)) (σ 0 2 - m) _ (by rw [mW S]; rfl) (by omega) ?_ ?_
          · intro i hi
            obtain ⟨v, hv⟩ : ∃ v, σ 0 2 - i = v + 1 := ⟨σ 0 2 - i - 1, by omega⟩
            have hv2 : v < σ 0 2 := by omega
            have hb := b10 S hv2
            have hx := m2 v (by omega) hv2
            have x1 : fX9_word (nI v) 1 h = some (nI (σ 10 v)) := w1 S hv2
            show fX9_tellsNow_b61 (nI n) (nI (σ 6 n)) h (lI (σ 0 2 - i)) = some (.inl (lI (σ 0 2 - (i + 1))))
            rw [hv, lI_s, show σ 0 2 - (i + 1) = v by omega]
            unfold fX9_tellsNow_b61
            rw [e4, x1, hj, lI_s]
            simp (disch := omega) [n_lit, n_eq, n_lt, n_le, n_mul, n_add, n_cl, grd_t, grd_T, su_c, su_s, su_k, wi_in, n_m1', n_m1, hx, n_pre]
          · show fX9_tellsNow_b61 (nI n) (nI (σ 6 n)) h (lI (σ 0 2 - (σ 0 2 - m))) = _
            rw [show σ 0 2 - (σ 0 2 - m) = m by omega]
            cases m with
            | zero => rfl
            | succ v =>
              have hv2 : v < σ 0 2 := by omega
              have hx := m3 (by omega)
              rw [show v + 1 - 1 = v by omega] at hx ⊢
              have x1 : fX9_word (nI v) 1 h = some (nI (σ 10 v)) := w1 S hv2
              have x2 : fX9_word (nI v) 2 h = some (nI (σ 11 v)) := w2 S hv2
              rw [lI_s]
              unfold fX9_tellsNow_b61
              rw [e4, x1, x2, hj, lI_s]
              simp (disch := omega) [n_lit, n_eq, n_lt, n_le, n_mul, n_add, n_cl, grd_t, grd_T, su_c, su_s, su_k, wi_in, n_m1', n_m1, hx]
        rw [Option.bind_some, hl]
        by_cases y : 0 < m
        · simp (disch := omega) [n_lit, n_eq, n_lt, n_le, n_mul, n_add, n_cl, grd_t, grd_T, su_c, su_s, su_k, wi_in, n_m1', n_m1, z6, hj, lI_s, y, hm]
        · simp (disch := omega) [n_lit, n_eq, n_lt, n_le, n_mul, n_add, n_cl, grd_t, grd_T, su_c, su_s, su_k, wi_in, n_m1', n_m1, z6, hj, lI_s, y, hm]
    · simp (disch := omega) [n_lit, n_eq, n_lt, n_le, n_mul, n_add, n_cl, grd_t, grd_T, su_c, su_s, su_k, wi_in, n_m1', n_m1, z3, z6]
theorem cFull (S : Sc h 1 84 σ) : fX0_isFull h = some (decide (200 ≤ σ 0 2)) := by
  have hW := lW S
  unfold fX0_isFull
  by_cases z : 200 ≤ σ 0 2
  · have : ¬ σ 0 2 < 200 := by omega
    simp (disch := omega) [n_lit, n_eq, n_lt, n_le, n_mul, n_add, n_cl, grd_t, grd_T, su_c, su_s, su_k, wi_in, n_m1', n_m1, cW S, z, this]
  · have : σ 0 2 < 200 := by omega
    simp (disch := omega) [n_lit, n_eq, n_lt, n_le, n_mul, n_add, n_cl, grd_t, grd_T, su_c, su_s, su_k, wi_in, n_m1', n_m1, cW S, z, this]
/-- one word, on both sides -/
theorem sayJ (S : Sc h 1 84 σ) {t : Nat} (hn : n < σ 0 0) (ht : t ≤ 9) (hW : σ 0 2 < 200) : ∃ H, (∀ o, fX0_add (nI n) (nI t) (hy h o) = some (nI (σ 0 2), hy H o)) ∧ (∀ o, fX9_isSaid (nI n) (nI t) (hy o h) = some (true, hy o H)) ∧ Sc H 1 84 (wrd σ n t) ∧ H 84 2 = nI (σ 0 2 + 1) ∧ (∀ c, c < 10 ∨ (14 < c ∧ c ≠ 84) → H c = h c) ∧ (∀ j, (j ≠ 2 ∧ j < 118) ∨ 718 ≤ j → H 84 j = h 84 j) := by
  have hN := lN14 S
  have hNow := lNow S
  have cw := cW S
  have cn := cNow S
  refine ⟨hy (su (su (su (su (su h 11 (σ 0 2) (nI (σ 0 1))) 12 (σ 0 2) (nI n)) 13 (σ 0 2) (nI t)) 14 (σ 0 2) (lI (la (aheadP σ n) (σ 0 2)))) 10 1 (nI (σ 0 2 + 1))) (su (su (su (su h 84 (118 + 3 * σ 0 2) (nI (σ 0 1))) 84 (118 + 3 * σ 0 2 + 1) (nI n)) 84 (118 + 3 * σ 0 2 + 2) (nI t)) 84 2 (nI (σ 0 2 + 1))), ?_, ?_, ?_, ?_, ?_, ?_⟩
  · intro o
    have ha := cAhead (h' := hy (su (su (su h 11 (σ 0 2) (nI (σ 0 1))) 12 (σ 0 2) (nI n)) 13 (σ 0 2) (nI t)) o) S (show n < 14 by omega) (by simp (disch := omega) [su_c, su_s, su_k, hy_l]) (by simp (disch := omega) [su_c, su_s, su_k, hy_l]) (fun j hj => by simp (disch := omega) [su_c, su_s, su_k, hy_l]) (fun j hj => by simp (disch := omega) [su_c, su_s, su_k, hy_l])
    unfold fX0_add
    simp (disch := omega) [n_lit, n_eq, n_lt, n_le, n_mul, n_add, n_cl, grd_t, grd_T, su_c, su_s, su_k, wi_in, n_m1', n_m1, hy_l, cw, cn, ha, su_hl, hy_hl, n_sub]
  · intro o
    have mw := mW S
    have mn := mNow S
    have : ¬ σ 0 2 = 200 := by omega
    unfold fX9_isSaid
    simp (disch := omega) [n_lit, n_eq, n_lt, n_le, n_mul, n_add, n_cl, grd_t, grd_T, su_c, su_s, su_k, wi_in, n_m1', n_m1, hy_r, mw, mn, this, su_hr, hy_hr]
  · refine Sc_wrd S hn ht hW ?_ ?_ ?_ ?_ ?_ ?_ ?_ ?_ ?_ ?_ ?_ ?_ ?_ ?_ ?_ ?_
    · intro j hj; simp (disch := omega) [su_c, su_s, su_k, hy_l]
    · simp (disch := omega) [su_c, su_s, su_k, hy_l]
    · intro j hj; simp (disch := omega) [su_c, su_s, su_k, hy_l]
    · simp (disch := omega) [su_c, su_s, su_k, hy_l]
    · intro j hj; simp (disch := omega) [su_c, su_s, su_k, hy_l]
    · simp (disch := omega) [su_c, su_s, su_k, hy_l]
    · intro j hj; simp (disch := omega) [su_c, su_s, su_k, hy_l]
    · simp (disch := omega) [su_c, su_s, su_k, hy_l]
    · intro j hj; simp (disch := omega) [su_c, su_s, su_k, hy_l]
    · simp (disch := omega) [su_c, su_s, su_k, hy_l]
    · intro c h1 h2; simp (disch := omega) [su_c, su_s, su_k, hy_l]
    · simp (disch := omega) [su_c, su_s, su_k, hy_r]
    · intro j h1 h2 h3 h4; simp (disch := omega) [su_c, su_s, su_k, hy_r]
    · simp (disch := omega) [su_c, su_s, su_k, hy_r]
    · simp (disch := omega) [su_c, su_s, su_k, hy_r]
    · simp (disch := omega) [su_c, su_s, su_k, hy_r]
  · simp (disch := omega) [su_c, su_s, su_k, hy_r]
  · intro c hc
    by_cases q : c < 83
    · simp (disch := omega) [su_c, su_s, su_k, hy_l]
    · simp (disch := omega) [su_c, su_s, su_k, hy_r]
  · intro j hj
    simp (disch := omega) [su_c, su_s, su_k, hy_r]
end SAY2
