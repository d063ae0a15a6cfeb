/-! 26: change, shut, object, asked -/

theorem Sc_ch1 {h h' : Sto} {σ : Gh} (S : Sc h 1 84 σ) {i n : Nat} (hi : i < σ 0 0) (hn : 1 ≤ n ∧ n ≤ 999) (e : h' = su (su h 5 i (nI n)) 84 (6 + 8 * i + 1) (nI n)) : Sc h' 1 84 (sg σ 2 i n) := by
  subst e
  have hN := lN14 S
  obtain ⟨⟨⟨a1, a2, a3⟩, ⟨b1, b2, b3⟩, ⟨c1, c2, c3⟩, d1, d2⟩, T, ⟨s1, s2⟩, W, P⟩ := S
  have r0 : ∀ r', r' ≠ 2 → sg σ 2 i n r' = σ r' := fun r' hr => sg_r σ i n hr
  refine ⟨⟨⟨?_, ?_, ?_⟩, ⟨?_, ?_, ?_⟩, ⟨?_, ?_, ?_⟩, ?_, ?_⟩, fun j hj => ?_, ⟨?_, ?_⟩, ?_, ?_⟩
  · rw [r0 0 (by omega)]; exact a1
  · simp (disch := omega) [su_c, su_s, su_k, r0 0 (by omega)]; exact a2
  · simp (disch := omega) [su_c, su_s, su_k, r0 0 (by omega)]; exact a3
  · rw [r0 0 (by omega)]; exact b1
  · simp (disch := omega) [su_c, su_s, su_k, r0 0 (by omega)]; exact b2
  · simp (disch := omega) [su_c, su_s, su_k, r0 0 (by omega)]; exact b3
  · rw [r0 0 (by omega)]; exact c1
  · simp (disch := omega) [su_c, su_s, su_k, r0 0 (by omega)]; exact c2
  · simp (disch := omega) [su_c, su_s, su_k, r0 0 (by omega)]; exact c3
  · simp (disch := omega) [su_c, su_s, su_k]; exact d1
  · simp (disch := omega) [su_c, su_s, su_k]; exact d2
  · rw [r0 0 (by omega)] at hj
    have := T j hj
    by_cases ej : j = i
    · subst ej
      simp (disch := omega) [su_c, su_s, su_k, sg_r, sg_s]
      simp at this
      simp [this]
      omega
    · simp (disch := omega) [su_c, su_s, su_k, sg_r, sg_i]
      simp at this
      simp [this]
  · simp (disch := omega) [su_c, su_s, su_k, sg_r]; exact s1
  · simp (disch := omega) [su_c, su_s, su_k, sg_r]; exact s2
  · exact ScW_c W c1 (by simp (disch := omega) [su_c, su_s, su_k]) (by simp (disch := omega) [su_c, su_s, su_k]) (by simp (disch := omega) [su_c, su_s, su_k]) (by simp (disch := omega) [su_c, su_s, su_k]) (fun j h1 h2 => by simp (disch := omega) [su_c, su_s, su_k]) (by rw [r0 0 (by omega)]) (by rw [r0 0 (by omega)]; exact Nat.le_refl _) (by rw [r0 0 (by omega)]; exact Nat.le_refl _) (r0 9 (by omega)) (r0 10 (by omega)) (r0 11 (by omega))
  · exact ScP_c P (by simp (disch := omega) [su_c, su_s, su_k]) (fun j h1 => by simp (disch := omega) [su_c, su_s, su_k]) (r0 13 (by omega)) (by rw [r0 0 (by omega)]; exact Nat.le_refl _)
theorem Sc_ch2 {h h' : Sto} {σ : Gh} (S : Sc h 1 84 σ) {i n : Nat} (hi : i < σ 0 0) (hn : 1 ≤ n ∧ n ≤ 1023) (e : h' = su (su h 6 i (nI n)) 84 (6 + 8 * i + 2) (nI n)) : Sc h' 1 84 (sg σ 3 i n) := by
  subst e
  have hN := lN14 S
  obtain ⟨⟨⟨a1, a2, a3⟩, ⟨b1, b2, b3⟩, ⟨c1, c2, c3⟩, d1, d2⟩, T, ⟨s1, s2⟩, W, P⟩ := S
  have r0 : ∀ r', r' ≠ 3 → sg σ 3 i n r' = σ r' := fun r' hr => sg_r σ i n hr
  refine ⟨⟨⟨?_, ?_, ?_⟩, ⟨?_, ?_, ?_⟩, ⟨?_, ?_, ?_⟩, ?_, ?_⟩, fun j hj => ?_, ⟨?_, ?_⟩, ?_, ?_⟩
  · rw [r0 0 (by omega)]; exact a1
  · simp (disch := omega) [su_c, su_s, su_k, r0 0 (by omega)]; exact a2
  · simp (disch := omega) [su_c, su_s, su_k, r0 0 (by omega)]; exact a3
  · rw [r0 0 (by omega)]; exact b1
  · simp (disch := omega) [su_c, su_s, su_k, r0 0 (by omega)]; exact b2
  · simp (disch := omega) [su_c, su_s, su_k, r0 0 (by omega)]; exact b3
  · rw [r0 0 (by omega)]; exact c1
  · simp (disch := omega) [su_c, su_s, su_k, r0 0 (by omega)]; exact c2
  · simp (disch := omega) [su_c, su_s, su_k, r0 0 (by omega)]; exact c3
  · simp (disch := omega) [su_c, su_s, su_k]; exact d1
  · simp (disch := omega) [su_c, su_s, su_k]; exact d2
  · rw [r0 0 (by omega)] at hj
    have := T j hj
    by_cases ej : j = i
    · subst ej
      simp (disch := omega) [su_c, su_s, su_k, sg_r, sg_s]
      simp at this
      simp [this]
      omega
    · simp (disch := omega) [su_c, su_s, su_k, sg_r, sg_i]
      simp at this
      simp [this]
  · simp (disch := omega) [su_c, su_s, su_k, sg_r]; exact s1
  · simp (disch := omega) [su_c, su_s, su_k, sg_r]; exact s2
  · exact ScW_c W c1 (by simp (disch := omega) [su_c, su_s, su_k]) (by simp (disch := omega) [su_c, su_s, su_k]) (by simp (disch := omega) [su_c, su_s, su_k]) (by simp (disch := omega) [su_c, su_s, su_k]) (fun j h1 h2 => by simp (disch := omega) [su_c, su_s, su_k]) (by rw [r0 0 (by omega)]) (by rw [r0 0 (by omega)]; exact Nat.le_refl _) (by rw [r0 0 (by omega)]; exact Nat.le_refl _) (r0 9 (by omega)) (r0 10 (by omega)) (r0 11 (by omega))
  · exact ScP_c P (by simp (disch := omega) [su_c, su_s, su_k]) (fun j h1 => by simp (disch := omega) [su_c, su_s, su_k]) (r0 13 (by omega)) (by rw [r0 0 (by omega)]; exact Nat.le_refl _)
theorem Sc_ch3 {h h' : Sto} {σ : Gh} (S : Sc h 1 84 σ) {i n : Nat} (hi : i < σ 0 0) (hn : n ≤ 99) (e : h' = su (su h 7 i (nI n)) 84 (6 + 8 * i + 3) (nI n)) : Sc h' 1 84 (sg σ 4 i n) := by
  subst e
  have hN := lN14 S
  obtain ⟨⟨⟨a1, a2, a3⟩, ⟨b1, b2, b3⟩, ⟨c1, c2, c3⟩, d1, d2⟩, T, ⟨s1, s2⟩, W, P⟩ := S
  have r0 : ∀ r', r' ≠ 4 → sg σ 4 i n r' = σ r' := fun r' hr => sg_r σ i n hr
  refine ⟨⟨⟨?_, ?_, ?_⟩, ⟨?_, ?_, ?_⟩, ⟨?_, ?_, ?_⟩, ?_, ?_⟩, fun j hj => ?_, ⟨?_, ?_⟩, ?_, ?_⟩
  · rw [r0 0 (by omega)]; exact a1
  · simp (disch := omega) [su_c, su_s, su_k, r0 0 (by omega)]; exact a2
  · simp (disch := omega) [su_c, su_s, su_k, r0 0 (by omega)]; exact a3
  · rw [r0 0 (by omega)]; exact b1
  · simp (disch := omega) [su_c, su_s, su_k, r0 0 (by omega)]; exact b2
  · simp (disch := omega) [su_c, su_s, su_k, r0 0 (by omega)]; exact b3
  · rw [r0 0 (by omega)]; exact c1
  · simp (disch := omega) [su_c, su_s, su_k, r0 0 (by omega)]; exact c2
  · simp (disch := omega) [su_c, su_s, su_k, r0 0 (by omega)]; exact c3
  · simp (disch := omega) [su_c, su_s, su_k]; exact d1
  · simp (disch := omega) [su_c, su_s, su_k]; exact d2
  · rw [r0 0 (by omega)] at hj
    have := T j hj
    by_cases ej : j = i
    · subst ej
      simp (disch := omega) [su_c, su_s, su_k, sg_r, sg_s]
      simp at this
      simp [this]
      omega
    · simp (disch := omega) [su_c, su_s, su_k, sg_r, sg_i]
      simp at this
      simp [this]
  · simp (disch := omega) [su_c, su_s, su_k, sg_r]; exact s1
  · simp (disch := omega) [su_c, su_s, su_k, sg_r]; exact s2
  · exact ScW_c W c1 (by simp (disch := omega) [su_c, su_s, su_k]) (by simp (disch := omega) [su_c, su_s, su_k]) (by simp (disch := omega) [su_c, su_s, su_k]) (by simp (disch := omega) [su_c, su_s, su_k]) (fun j h1 h2 => by simp (disch := omega) [su_c, su_s, su_k]) (by rw [r0 0 (by omega)]) (by rw [r0 0 (by omega)]; exact Nat.le_refl _) (by rw [r0 0 (by omega)]; exact Nat.le_refl _) (r0 9 (by omega)) (r0 10 (by omega)) (r0 11 (by omega))
  · exact ScP_c P (by simp (disch := omega) [su_c, su_s, su_k]) (fun j h1 => by simp (disch := omega) [su_c, su_s, su_k]) (r0 13 (by omega)) (by rw [r0 0 (by omega)]; exact Nat.le_refl _)
theorem Sc_ch4 {h h' : Sto} {σ : Gh} (S : Sc h 1 84 σ) {i n : Nat} (hi : i < σ 0 0) (hn : n ≤ σ 0 0) (e : h' = su (su h 8 i (lI n)) 84 (6 + 8 * i + 4) (lI n)) : Sc h' 1 84 (sg σ 5 i n) := by
  subst e
  have hN := lN14 S
  obtain ⟨⟨⟨a1, a2, a3⟩, ⟨b1, b2, b3⟩, ⟨c1, c2, c3⟩, d1, d2⟩, T, ⟨s1, s2⟩, W, P⟩ := S
  have r0 : ∀ r', r' ≠ 5 → sg σ 5 i n r' = σ r' := fun r' hr => sg_r σ i n hr
  refine ⟨⟨⟨?_, ?_, ?_⟩, ⟨?_, ?_, ?_⟩, ⟨?_, ?_, ?_⟩, ?_, ?_⟩, fun j hj => ?_, ⟨?_, ?_⟩, ?_, ?_⟩
  · rw [r0 0 (by omega)]; exact a1
  · simp (disch := omega) [su_c, su_s, su_k, r0 0 (by omega)]; exact a2
  · simp (disch := omega) [su_c, su_s, su_k, r0 0 (by omega)]; exact a3
  · rw [r0 0 (by omega)]; exact b1
  · simp (disch := omega) [su_c, su_s, su_k, r0 0 (by omega)]; exact b2
  · simp (disch := omega) [su_c, su_s, su_k, r0 0 (by omega)]; exact b3
  · rw [r0 0 (by omega)]; exact c1
  · simp (disch := omega) [su_c, su_s, su_k, r0 0 (by omega)]; exact c2
  · simp (disch := omega) [su_c, su_s, su_k, r0 0 (by omega)]; exact c3
  · simp (disch := omega) [su_c, su_s, su_k]; exact d1
  · simp (disch := omega) [su_c, su_s, su_k]; exact d2
  · rw [r0 0 (by omega)] at hj
    have := T j hj
    by_cases ej : j = i
    · subst ej
      simp (disch := omega) [su_c, su_s, su_k, sg_r, sg_s]
      simp at this
      simp [this]
      omega
    · simp (disch := omega) [su_c, su_s, su_k, sg_r, sg_i]
      simp at this
      simp [this]
  · simp (disch := omega) [su_c, su_s, su_k, sg_r]; exact s1
  · simp (disch := omega) [su_c, su_s, su_k, sg_r]; exact s2
  · exact ScW_c W c1 (by simp (disch := omega) [su_c, su_s, su_k]) (by simp (disch := omega) [su_c, su_s, su_k]) (by simp (disch := omega) [su_c, su_s, su_k]) (by simp (disch := omega) [su_c, su_s, su_k]) (fun j h1 h2 => by simp (disch := omega) [su_c, su_s, su_k]) (by rw [r0 0 (by omega)]) (by rw [r0 0 (by omega)]; exact Nat.le_refl _) (by rw [r0 0 (by omega)]; exact Nat.le_refl _) (r0 9 (by omega)) (r0 10 (by omega)) (r0 11 (by omega))
  · exact ScP_c P (by simp (disch := omega) [su_c, su_s, su_k]) (fun j h1 => by simp (disch := omega) [su_c, su_s, su_k]) (r0 13 (by omega)) (by rw [r0 0 (by omega)]; exact Nat.le_refl _)
theorem Sc_ch5 {h h' : Sto} {σ : Gh} (S : Sc h 1 84 σ) {i n : Nat} (hi : i < σ 0 0) (hn : n ≤ 9) (e : h' = su (su h 9 i (nI n)) 84 (6 + 8 * i + 5) (nI n)) : Sc h' 1 84 (sg σ 6 i n) := by
  subst e
  have hN := lN14 S
  obtain ⟨⟨⟨a1, a2, a3⟩, ⟨b1, b2, b3⟩, ⟨c1, c2, c3⟩, d1, d2⟩, T, ⟨s1, s2⟩, W, P⟩ := S
  have r0 : ∀ r', r' ≠ 6 → sg σ 6 i n r' = σ r' := fun r' hr => sg_r σ i n hr
  refine ⟨⟨⟨?_, ?_, ?_⟩, ⟨?_, ?_, ?_⟩, ⟨?_, ?_, ?_⟩, ?_, ?_⟩, fun j hj => ?_, ⟨?_, ?_⟩, ?_, ?_⟩
  · rw [r0 0 (by omega)]; exact a1
  · simp (disch := omega) [su_c, su_s, su_k, r0 0 (by omega)]; exact a2
  · simp (disch := omega) [su_c, su_s, su_k, r0 0 (by omega)]; exact a3
  · rw [r0 0 (by omega)]; exact b1
  · simp (disch := omega) [su_c, su_s, su_k, r0 0 (by omega)]; exact b2
  · simp (disch := omega) [su_c, su_s, su_k, r0 0 (by omega)]; exact b3
  · rw [r0 0 (by omega)]; exact c1
  · simp (disch := omega) [su_c, su_s, su_k, r0 0 (by omega)]; exact c2
  · simp (disch := omega) [su_c, su_s, su_k, r0 0 (by omega)]; exact c3
  · simp (disch := omega) [su_c, su_s, su_k]; exact d1
  · simp (disch := omega) [su_c, su_s, su_k]; exact d2
  · rw [r0 0 (by omega)] at hj
    have := T j hj
    by_cases ej : j = i
    · subst ej
      simp (disch := omega) [su_c, su_s, su_k, sg_r, sg_s]
      simp at this
      simp [this]
      omega
    · simp (disch := omega) [su_c, su_s, su_k, sg_r, sg_i]
      simp at this
      simp [this]
  · simp (disch := omega) [su_c, su_s, su_k, sg_r]; exact s1
  · simp (disch := omega) [su_c, su_s, su_k, sg_r]; exact s2
  · exact ScW_c W c1 (by simp (disch := omega) [su_c, su_s, su_k]) (by simp (disch := omega) [su_c, su_s, su_k]) (by simp (disch := omega) [su_c, su_s, su_k]) (by simp (disch := omega) [su_c, su_s, su_k]) (fun j h1 h2 => by simp (disch := omega) [su_c, su_s, su_k]) (by rw [r0 0 (by omega)]) (by rw [r0 0 (by omega)]; exact Nat.le_refl _) (by rw [r0 0 (by omega)]; exact Nat.le_refl _) (r0 9 (by omega)) (r0 10 (by omega)) (r0 11 (by omega))
  · exact ScP_c P (by simp (disch := omega) [su_c, su_s, su_k]) (fun j h1 => by simp (disch := omega) [su_c, su_s, su_k]) (r0 13 (by omega)) (by rw [r0 0 (by omega)]; exact Nat.le_refl _)
theorem st_change (a b c : Int32) (h : Sto) (I : Inv h) : Agr (fX8_change a b c) (fX9_change a b c) h := by
  obtain ⟨σ, S⟩ := I.1
  have hN := lN14 S
  by_cases h1 : nI 0 ≤ a ∧ a ≤ lI (σ 0 0)
  · obtain ⟨i, hi, rfl⟩ := (arg_nm (by omega)).mp h1
    have key : fX1_allows (nI i) b c h = some false ∨ (fX1_allows (nI i) b c h = some true ∧ ∃ w, b = nI w ∧ 1 ≤ w ∧ w ≤ 5 ∧ ((w = 1 ∧ ∃ n, c = nI n ∧ 1 ≤ n ∧ n ≤ 999) ∨ (w = 2 ∧ ∃ n, c = nI n ∧ 1 ≤ n ∧ n ≤ 1023) ∨ (w = 3 ∧ ∃ n, c = nI n ∧ n ≤ 99) ∨ (w = 4 ∧ ∃ n, c = lI n ∧ n ≤ σ 0 0) ∨ (w = 5 ∧ ∃ n, c = nI n ∧ n ≤ 9))) := by
      unfold fX1_allows fX8_isTopic
      rw [cHas S]
      by_cases z : b < 1 ∨ 5 < b
      · exact Or.inl (by simp [z])
      · have z0 : ¬ b < 1 := fun q => z (Or.inl q)
        have z1 : ¬ 5 < b := fun q => z (Or.inr q)
        obtain ⟨w, rfl, hw1, hw2⟩ := arg_in (x := b) (a := 1) (b := 5) (by omega) (by omega) ⟨Int32.not_lt.mp z0, Int32.not_lt.mp z1⟩
        rcases (show w = 1 ∨ w = 2 ∨ w = 3 ∨ w = 4 ∨ w = 5 by omega) with rfl | rfl | rfl | rfl | rfl
        · by_cases y : nI 1 ≤ c ∧ c ≤ nI 999
          · exact Or.inr ⟨by simp [n_lit, n_lt, n_eq, wi_in, y], 1, rfl, by omega, by omega, Or.inl ⟨rfl, arg_in (by omega) (by omega) y⟩⟩
          · exact Or.inl (by simp [n_lit, n_lt, n_eq, wi_in]; exact fun q => by rw [← Int32.not_le]; exact fun q2 => y ⟨q, q2⟩)
        · by_cases y : nI 1 ≤ c ∧ c ≤ nI 1023
          · exact Or.inr ⟨by simp [n_lit, n_lt, n_eq, wi_in, y], 2, rfl, by omega, by omega, Or.inr (Or.inl ⟨rfl, arg_in (by omega) (by omega) y⟩)⟩
          · exact Or.inl (by simp [n_lit, n_lt, n_eq, wi_in]; exact fun q => by rw [← Int32.not_le]; exact fun q2 => y ⟨q, q2⟩)
        · by_cases y : nI 0 ≤ c ∧ c ≤ nI 99
          · obtain ⟨n, e, -, hn⟩ := arg_in (by omega) (by omega) y
            exact Or.inr ⟨by simp [n_lit, n_lt, n_eq, wi_in, y], 3, rfl, by omega, by omega, Or.inr (Or.inr (Or.inl ⟨rfl, n, e, hn⟩))⟩
          · exact Or.inl (by simp [n_lit, n_lt, n_eq, wi_in]; exact fun q => by rw [← Int32.not_le]; exact fun q2 => y ⟨q, q2⟩)
        · by_cases y1 : c = -nI 1
          · refine Or.inr ⟨by simp [n_lit, n_lt, n_eq, y1], 4, rfl, by omega, by omega, Or.inr (Or.inr (Or.inr (Or.inl ⟨rfl, 0, by rw [y1]; exact n_m1, by omega⟩)))⟩
          · by_cases y : nI 0 ≤ c ∧ c ≤ lI (σ 0 0)
            · by_cases y2 : c = nI i
              · exact Or.inl (by subst y2; simp [n_lit, n_lt, n_eq, y1, y])
              · obtain ⟨n, hn, e⟩ := (arg_nm (by omega)).mp y
                exact Or.inr ⟨by simp [n_lit, n_lt, n_eq, y1, y, y2], 4, rfl, by omega, by omega, Or.inr (Or.inr (Or.inr (Or.inl ⟨rfl, n + 1, by rw [lI_s]; exact e, by omega⟩)))⟩
            · exact Or.inl (by simp [n_lit, n_lt, n_eq, y1, y])
        · by_cases y : nI 0 ≤ c ∧ c ≤ nI 9
          · obtain ⟨n, e, -, hn⟩ := arg_in (by omega) (by omega) y
            exact Or.inr ⟨by simp [n_lit, n_lt, n_eq, wi_in, y], 5, rfl, by omega, by omega, Or.inr (Or.inr (Or.inr (Or.inr ⟨rfl, n, e, hn⟩)))⟩
          · exact Or.inl (by simp [n_lit, n_lt, n_eq, wi_in]; exact fun q => by rw [← Int32.not_le]; exact fun q2 => y ⟨q, q2⟩)
    rcases key with ka | ⟨ka, w, rfl, hw1, hw2, kw⟩
    · refine ag_f0 I ?_ ?_
      · unfold fX8_change
        simp (disch := omega) [cHas S, h1, ka]
      · intro h1' e
        subst e
        unfold fX9_change
        simp (disch := omega) [mHas (Sc_find S), h1, al_may S (Sc_find S) hi, ka]
    · have ec : fX8_change (nI i) (nI w) c h = some (h (4 + w) i, su h (4 + w) i c) := by
        unfold fX8_change
        simp (disch := omega) [n_lit, n_eq, n_lt, n_le, n_mul, n_add, n_cl, grd_t, grd_T, su_c, su_s, su_k, wi_in, n_m1', n_m1, cHas S, h1, ka]
      have S2 : Sc (su h (4 + w) i c) 1 84 σ → True := fun _ => trivial
      have ef : fX9_isName (nI i) (su h (4 + w) i c) = some true := by
        unfold fX9_isName
        simp (disch := omega) [n_lit, n_eq, n_lt, n_le, n_mul, n_add, n_cl, grd_t, grd_T, su_c, su_s, su_k, wi_in, n_m1', n_m1, mN S, in_v, h1]
      have eg : ∀ x, fX9_isName x (su h (4 + w) i c) = fX1_has x h := by
        intro x
        rw [cHas S]
        unfold fX9_isName
        rw [su_c _ _ _ (show ¬ 84 = 4 + w by omega), mN S, in_v]
        rfl
      have em0 : fX9_may (nI i) (nI w) c (su h (4 + w) i c) = some true := by
        rw [← ka, ← al_may S S hi]
        unfold fX9_may
        have : ∀ x, fX9_isName x (su h (4 + w) i c) = fX9_isName x h := fun x => by rw [eg, cHas S, mHas S]
        rw [this]
        rfl
      have e84 : h 84 (6 + 8 * i + w) = h (4 + w) i := by
        obtain ⟨⟨a1, a2, a3⟩, ⟨b1, b2, b3⟩, ⟨c1, c2, c3⟩, ⟨d1, d2, d3⟩, ⟨e1, e2, e3⟩, ⟨g1, g2, g3⟩, -⟩ := S.2.1 i hi
        rcases (show w = 1 ∨ w = 2 ∨ w = 3 ∨ w = 4 ∨ w = 5 by omega) with rfl | rfl | rfl | rfl | rfl
        · exact b2.trans b1.symm
        · exact c2.trans c1.symm
        · exact d2.trans d1.symm
        · exact e2.trans e1.symm
        · exact g2.trans g1.symm
      have em : fX9_change (nI i) (nI w) c (su h (4 + w) i c) = some (h (4 + w) i, su (su h (4 + w) i c) 84 (6 + 8 * i + w) c) := by
        unfold fX9_change fX9_becomes
        simp (disch := omega) [n_lit, n_eq, n_lt, n_le, n_mul, n_add, n_cl, grd_t, grd_T, su_c, su_s, su_k, wi_in, n_m1', n_m1, ef, em0, e84]
      refine agr _ _ _ ec em ?_
      have hS : ∃ τ, Sc (su (su h (4 + w) i c) 84 (6 + 8 * i + w) c) 1 84 τ := by
        rcases kw with ⟨rfl, n, rfl, n1, n2⟩ | ⟨rfl, n, rfl, n1, n2⟩ | ⟨rfl, n, rfl, n1⟩ | ⟨rfl, n, rfl, n1⟩ | ⟨rfl, n, rfl, n1⟩
        · exact ⟨_, Sc_ch1 S hi ⟨n1, n2⟩ rfl⟩
        · exact ⟨_, Sc_ch2 S hi ⟨n1, n2⟩ rfl⟩
        · exact ⟨_, Sc_ch3 S hi n1 rfl⟩
        · exact ⟨_, Sc_ch4 S hi n1 rfl⟩
        · exact ⟨_, Sc_ch5 S hi n1 rfl⟩
      obtain ⟨τ, hτ⟩ := hS
      refine Inv_scene I hτ ?_ ?_ ?_ ?_ ?_ ?_
      · intro c hc; simp (disch := omega) [su_c, su_s, su_k]
      · intro c hc; simp (disch := omega) [su_c, su_s, su_k]
      · simp (disch := omega) [su_c, su_s, su_k]
      · intro t ht; simp (disch := omega) [su_c, su_s, su_k]
      · simp (disch := omega) [su_c, su_s, su_k]
      · intro j hj; simp (disch := omega) [su_c, su_s, su_k]
  · refine ag_f0 I ?_ ?_
    · unfold fX8_change
      simp (disch := omega) [cHas S, h1]
    · intro h1' e
      subst e
      unfold fX9_change
      simp (disch := omega) [mHas (Sc_find S), h1]
