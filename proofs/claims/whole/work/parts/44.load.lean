/-! 44: load -/
theorem y_has (a : Int32) (h o : Sto) : fX1_has a (hy h o) = fX1_has a h := rfl
theorem y_isName (a : Int32) (h o : Sto) : fX9_isName a (hy o h) = fX9_isName a h := rfl
theorem st_load (a : Int32) (h : Sto) (I : Inv h) : Agr (fX8_load a) (fX9_load a) h := by
  obtain ⟨σ, S⟩ := I.1
  have hN := lN14 S
  by_cases h1 : nI 0 ≤ a ∧ a ≤ nI 3
  · obtain ⟨s, rfl, -, hs⟩ := arg_in (by omega) (by omega) h1
    have hs4 : s < 4 := by omega
    obtain ⟨n, A1, A2, A3, A4, A5, A6, A7⟩ := I.2.2.2.2.1 s hs4
    by_cases z0 : h 93 s = nI 0
    · refine ag_f5 I ?_ ?_
      · unfold fX8_load
        rw [cSh, decide_eq_true h1]
        simp (disch := omega) [n_lit, n_eq, n_lt, n_le, n_mul, n_add, n_cl, grd_t, grd_T, su_c, su_s, su_k, wi_in, n_m1', n_m1, cMis, A4, z0]
      · intro h1' e
        subst e
        unfold fX9_load
        rw [mSh, decide_eq_true h1]
        simp (disch := omega) [n_lit, n_eq, n_lt, n_le, n_mul, n_add, n_cl, grd_t, grd_T, su_c, su_s, su_k, wi_in, n_m1', n_m1, z0]
    · have key : ∃ x y, (∃ (k : Nat) (H : Sto) (τ : Gh), x = (fun o => (nI k, hy H o)) ∧ (y = (fun o => (.inl (nI k, hy o H) : (Int32 × Sto) ⊕ (Int32 × Sto))) ∨ y = (fun o => .inr (nI k, hy o H))) ∧ Sc H 1 84 τ ∧ Fr h H) ∧ (∀ o, lp (fun q : Int32 × Int32 × Sto => fX8_load_b41 s q.1 q.2.1 q.2.2) FUEL (nI 0, nI 0, hy h o) = some (x o)) ∧ (∀ o, lp (fun q : Int32 × Int32 × Sto => fX9_load_b35 (nI s) q.1 q.2.1 q.2.2) FUEL (nI 0, nI 0, hy o h) = some (y o)) := by
        refine lp_J (A := Nat × Sto) (fun a => 2 * a.1 ≤ n ∧ ∃ τ, Sc a.2 1 84 τ ∧ τ 0 0 = σ 0 0 ∧ Fr h a.2) (fun a => n - a.1) (fun a o => (nI a.1, nI (2 * a.1), hy a.2 o)) (fun a o => (nI a.1, nI (2 * a.1), hy o a.2)) (fun x y => ∃ (k : Nat) (H : Sto) (τ : Gh), x = (fun o => (nI k, hy H o)) ∧ (y = (fun o => (.inl (nI k, hy o H) : (Int32 × Sto) ⊕ (Int32 × Sto))) ∨ y = (fun o => .inr (nI k, hy o H))) ∧ Sc H 1 84 τ ∧ Fr h H) ?_ (0, h) ⟨Nat.zero_le _, σ, S, rfl, Fr.refl h⟩ (by show n - 0 < 100000; omega)
        rintro ⟨k, H⟩ ⟨hk, τ, S2, eN, F⟩
        have hk : 2 * k ≤ n := hk
        have S2 : Sc H 1 84 τ := S2
        have F : Fr h H := F
        have hN2 := lN14 S2
        have hW2 := lW S2
        have f1 : H (53 + s) = h (53 + s) := F.1 _ (by omega)
        have f2 : H (57 + s) = h (57 + s) := F.1 _ (by omega)
        have f3 : H 94 = h 94 := F.1 _ (by omega)
        have f4 : H 95 = h 95 := F.1 _ (by omega)
        have ec : ∀ o, fX8_load_b41 s (nI k) (nI (2 * k)) (hy H o) = if n ≤ 2 * k + 1 then some (.inr (nI k, hy H o)) else ((fX1_has (h (57 + s) (2 * k)) (hy H o)).bind fun q_13 => if q_13 = true then ((fX8_isTopic (h (57 + s) (2 * k + 1)) (hy H o)).bind fun q_16 => if q_16 = true then ((fX0_isFull (hy H o)).bind fun q_19 => if q_19 = true then (some (.inr (nI k, hy H o))) else ((fX0_add (h (57 + s) (2 * k)) (h (57 + s) (2 * k + 1)) (hy H o)).bind fun q_22 => some (.inl (nI (k + 1), nI (2 * k + 2), q_22.2)))) else (some (.inr (nI k, hy H o)))) else (some (.inr (nI k, hy H o)))) := by
          intro o
          unfold fX8_load_b41
          by_cases z : n ≤ 2 * k + 1
          · simp (disch := omega) [n_lit, n_eq, n_lt, n_le, n_mul, n_add, n_cl, grd_t, grd_T, su_c, su_s, su_k, wi_in, n_m1', n_m1, hy_l, f1, A2, z]
          · simp (disch := omega) [n_lit, n_eq, n_lt, n_le, n_mul, n_add, n_cl, grd_t, grd_T, su_c, su_s, su_k, wi_in, n_m1', n_m1, hy_l, f1, f2, A2, z]
        have em : ∀ o, fX9_load_b35 (nI s) (nI k) (nI (2 * k)) (hy o H) = if n ≤ 2 * k + 1 then some (.inr (.inl (nI k, hy o H))) else ((fX9_isName (h 95 (40 * s + 2 * k)) (hy o H)).bind fun q_11 => if q_11 = true then ((fX9_isTopic (h 95 (40 * s + 2 * k + 1)) (hy o H)).bind fun q_14 => if q_14 = true then ((fX9_isSaid (h 95 (40 * s + 2 * k)) (h 95 (40 * s + 2 * k + 1)) (hy o H)).bind fun q_17 => if q_17.1 = true then (some (.inl (nI (k + 1), nI (2 * k + 2), q_17.2))) else (some (.inr (.inr (nI k, q_17.2))))) else (some (.inr (.inr (nI k, hy o H))))) else (some (.inr (.inr (nI k, hy o H))))) := by
          intro o
          unfold fX9_load_b35
          by_cases z : n ≤ 2 * k + 1
          · simp (disch := omega) [n_lit, n_eq, n_lt, n_le, n_mul, n_add, n_cl, grd_t, grd_T, su_c, su_s, su_k, wi_in, n_m1', n_m1, hy_r, f3, A3, z]
          · simp (disch := omega) [n_lit, n_eq, n_lt, n_le, n_mul, n_add, n_cl, grd_t, grd_T, su_c, su_s, su_k, wi_in, n_m1', n_m1, hy_r, f3, f4, A3, z]
        by_cases z : n ≤ 2 * k + 1
        · exact Or.inr ⟨_, _, ⟨k, H, τ, rfl, Or.inl rfl, S2, F⟩, fun o => (ec o).trans (if_pos z), fun o => (em o).trans (if_pos z)⟩
        · have q0 := A7 (2 * k) (by omega)
          have q1 := A7 (2 * k + 1) (by omega)
          rw [← Nat.add_assoc] at q1
          rw [← q0, ← q1] at em
          generalize h (57 + s) (2 * k) = u at ec em
          generalize h (57 + s) (2 * k + 1) = v at ec em
          by_cases y1 : nI 0 ≤ u ∧ u ≤ lI (τ 0 0)
          · by_cases y2 : nI 0 ≤ v ∧ v ≤ nI 9
            · by_cases y3 : 200 ≤ τ 0 2
              · refine Or.inr ⟨_, _, ⟨k, H, τ, rfl, Or.inr rfl, S2, F⟩, fun o => (ec o).trans ?_, fun o => (em o).trans ?_⟩
                · rw [if_neg z, y_has, cHas S2, cTpc, y_full, cFull S2]
                  simp [y1, y2, y3]
                · have hs : fX9_isSaid u v (hy o H) = some (false, hy o H) := by
                    unfold fX9_isSaid
                    have : τ 0 2 = 200 := by omega
                    simp (disch := omega) [n_lit, n_eq, n_lt, n_le, n_mul, n_add, n_cl, grd_t, grd_T, su_c, su_s, su_k, wi_in, n_m1', n_m1, hy_r, mW S2, this]
                  rw [if_neg z, y_isName, mHas S2, mTpc, hs]
                  simp [y1, y2]
              · obtain ⟨i, hi, rfl⟩ := (arg_nm (by omega)).mp y1
                obtain ⟨t, rfl, -, ht⟩ := arg_in (by omega) (by omega) y2
                obtain ⟨H', a1, a2, a3, a4, a5, a6⟩ := sayJ S2 hi ht (show τ 0 2 < 200 by omega)
                refine Or.inl ⟨(k + 1, H'), ⟨by show 2 * (k + 1) ≤ n; omega, _, a3, (wrd_0 _ _ _ (by omega)).trans eN, F.trans ⟨fun c hc => a5 c (by omega), fun j hj => a6 j (by omega)⟩⟩, by show n - (k + 1) < n - k; omega, fun o => (ec o).trans ?_, fun o => (em o).trans ?_⟩
                · rw [if_neg z, y_has, cHas S2, cTpc, y_full, cFull S2, a1]
                  simp [y1, y2, y3]
                  rfl
                · rw [if_neg z, y_isName, mHas S2, mTpc, a2]
                  simp [y1, y2]
                  rfl
            · refine Or.inr ⟨_, _, ⟨k, H, τ, rfl, Or.inr rfl, S2, F⟩, fun o => (ec o).trans ?_, fun o => (em o).trans ?_⟩
              · rw [if_neg z, y_has, cHas S2, cTpc]
                simp [y1, y2]
              · rw [if_neg z, y_isName, mHas S2, mTpc]
                simp [y1, y2]
          · refine Or.inr ⟨_, _, ⟨k, H, τ, rfl, Or.inr rfl, S2, F⟩, fun o => (ec o).trans ?_, fun o => (em o).trans ?_⟩
            · rw [if_neg z, y_has, cHas S2]
              simp [y1]
            · rw [if_neg z, y_isName, mHas S2]
              simp [y1]
      obtain ⟨x, y, ⟨k, H, τ, rfl, hy0, S2, F⟩, e1, e2⟩ := key
      refine Two.agr ⟨nI k, H, fun o => ?_, fun o => ?_, Inv_fr I S2 F⟩
      · have e1 := e1 o
        unfold fX8_load
        rw [cSh, decide_eq_true h1]
        simp (disch := omega) [n_lit, n_eq, n_lt, n_le, n_mul, n_add, n_cl, grd_t, grd_T, su_c, su_s, su_k, wi_in, n_m1', n_m1, cMis, hy_l, A4, z0, e1]
      · have e2 := e2 o
        unfold fX9_load
        rw [mSh, decide_eq_true h1]
        rcases hy0 with rfl | rfl
        · simp (disch := omega) [n_lit, n_eq, n_lt, n_le, n_mul, n_add, n_cl, grd_t, grd_T, su_c, su_s, su_k, wi_in, n_m1', n_m1, hy_r, z0, e2]
        · simp (disch := omega) [n_lit, n_eq, n_lt, n_le, n_mul, n_add, n_cl, grd_t, grd_T, su_c, su_s, su_k, wi_in, n_m1', n_m1, hy_r, z0, e2]
  · refine ag_f0 I ?_ ?_
    · unfold fX8_load
      rw [cSh]
      simp [h1]
    · intro h1' e
      unfold fX9_load
      rw [mSh]
      simp [h1]
