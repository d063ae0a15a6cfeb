/-! 28: object, seed, count, status, tear, wipe, hold, as -/
theorem st_object (h : Sto) (I : Inv h) : Agr fX8_object fX9_object h := by
  obtain ⟨σ, S⟩ := I.1
  have hN := lN14 S
  have hp : ∀ i, i < σ 0 0 → ppl σ i ≤ 1 := fun i _ => b2n_le _
  have ho : ∀ j, j < σ 0 0 → (fun j => σ 7 j * ppl σ j) j ≤ 1 := by
    intro j hj
    have h1 := f7 S j hj
    have h2 := hp j hj
    dsimp only
    rcases (show σ 7 j = 0 ∨ σ 7 j = 1 by omega) with z | z <;> simp [z]
    exact h2
  have hf : ∀ j, j < σ 0 0 → (fun j => σ 7 j * (1 - σ 7 j * ppl σ j)) j ≤ 1 := by
    intro j hj
    have h1 := f7 S j hj
    dsimp only
    rcases (show σ 7 j = 0 ∨ σ 7 j = 1 by omega) with z | z <;> simp [z]
  have hl := bs_l31 hN ho
  have ec : fX8_object h = some (nI (sm (fun j => σ 7 j * ppl σ j) (σ 0 0)), su h 2 1 (nI (bs (fun j => σ 7 j * (1 - σ 7 j * ppl σ j)) (σ 0 0)))) := by
    unfold fX8_object
    simp (disch := omega) [n_lit, n_eq, n_lt, n_le, n_mul, n_add, n_cl, grd_t, grd_T, su_c, su_s, su_k, wi_in, n_m1', n_m1, cPeople S, cShut S, n_and, bs_and (f7 S) hp, n_an, bs_an (f7 S) ho, bc, pc_bs hN ho]
  generalize eh1 : su h 2 1 (nI (bs (fun j => σ 7 j * (1 - σ 7 j * ppl σ j)) (σ 0 0))) = hh at ec
  have e84 : hh 84 = h 84 := by rw [← eh1]; simp (disch := omega) [su_c, su_s, su_k]
  obtain ⟨⟨r, h2⟩, hl2, q1, q2, q3⟩ : ∃ x, lp (fun s => fX9_object_b4 s.1 s.2.1 s.2.2) FUEL (0, 0, hh) = some x ∧ x.1 = nI (sm (fun j => σ 7 j * ppl σ j) (σ 0 0)) ∧ (∀ c, c ≠ 84 → x.2 c = hh c) ∧ (∀ j, x.2 84 j = if ∃ q, q < σ 0 0 ∧ ppl σ q = 1 ∧ j = 6 + 8 * q + 6 then 0 else h 84 j) := by
    refine lp_I (P := fun i s => s.1 = nI (sm (fun j => σ 7 j * ppl σ j) i) ∧ s.2.1 = nI i ∧ (∀ c, c ≠ 84 → s.2.2 c = hh c) ∧ (∀ j, s.2.2 84 j = if ∃ q, q < i ∧ ppl σ q = 1 ∧ j = 6 + 8 * q + 6 then 0 else h 84 j)) _ (σ 0 0) _ ?_ (by omega) ?_ ?_
    · exact ⟨rfl, rfl, fun c _ => rfl, fun j => by show hh 84 j = _; rw [e84]; simp⟩
    · rintro i ⟨a, b, hs⟩ hi ⟨p1, p2, p3, p4⟩
      dsimp only at p1 p2 p3 p4
      subst p1; subst p2
      have k0 : hs 84 0 = nI (σ 0 0) := by
        rw [p4, if_neg (by rintro ⟨q, -, -, e⟩; omega)]; exact mN S
      have k1 : hs 84 (6 + 8 * i) = nI (σ 1 i) := by
        rw [p4, if_neg (by rintro ⟨q, -, -, e⟩; omega)]; exact (S.2.1 i hi).1.2.1
      have k6 : hs 84 (6 + 8 * i + 6) = nI (σ 7 i) := by
        rw [p4, if_neg (by rintro ⟨q, h1, -, e⟩; omega)]; exact (S.2.1 i hi).2.2.2.2.2.2.1.1
      have hk := (S.2.1 i hi).1.2.2
      have hi' : ¬ σ 0 0 ≤ i := by omega
      have ip : fX9_isPerson (nI i) hs = some (isO (σ 1 i) 1) := by
        unfold fX9_isPerson
        rw [show (0 : Int32) = nI 0 from rfl, mOf i 0 (by omega) (by omega), Nat.add_zero, k1]
        rcases (show σ 1 i = 0 ∨ σ 1 i = 1 ∨ σ 1 i = 2 ∨ σ 1 i = 3 ∨ σ 1 i = 4 ∨ σ 1 i = 5 ∨ σ 1 i = 6 ∨ σ 1 i = 7 by omega) with e | e | e | e | e | e | e | e <;> rw [e] <;> rfl
      cases hq : isO (σ 1 i) 1 with
      | true =>
        have pp : ppl σ i = 1 := by unfold ppl; rw [hq]; rfl
        refine ⟨(nI (sm (fun j => σ 7 j * ppl σ j) (i + 1)), nI (i + 1), su hs 84 (6 + 8 * i + 6) 0), ?_, rfl, rfl, ?_, ?_⟩
        · show fX9_object_b4 _ _ _ = _
          unfold fX9_object_b4 fX9_becomes
          simp (disch := omega) [n_lit, n_eq, n_lt, n_le, n_mul, n_add, n_cl, grd_t, grd_T, su_c, su_s, su_k, wi_in, n_m1', n_m1, k0, hi', ip, hq, k6]
          simp [sm, pp]
        · intro c hc
          show su hs 84 _ _ c = hh c
          rw [su_c _ _ _ hc]; exact p3 c hc
        · intro j
          show su hs 84 _ _ 84 j = _
          by_cases e : j = 6 + 8 * i + 6
          · subst e
            rw [su_s, if_pos ⟨i, by omega, pp, rfl⟩]
          · rw [su_k _ _ _ e, p4]
            by_cases z : ∃ q, q < i ∧ ppl σ q = 1 ∧ j = 6 + 8 * q + 6
            · obtain ⟨q, z1, z2, z3⟩ := z
              rw [if_pos ⟨q, z1, z2, z3⟩, if_pos ⟨q, by omega, z2, z3⟩]
            · rw [if_neg z, if_neg]
              rintro ⟨q, z1, z2, z3⟩
              exact z ⟨q, by omega, z2, z3⟩
      | false =>
        have pp : ppl σ i = 0 := by unfold ppl; rw [hq]; rfl
        refine ⟨(nI (sm (fun j => σ 7 j * ppl σ j) (i + 1)), nI (i + 1), hs), ?_, rfl, rfl, p3, ?_⟩
        · show fX9_object_b4 _ _ _ = _
          unfold fX9_object_b4
          simp (disch := omega) [n_lit, n_eq, n_lt, n_le, n_mul, n_add, n_cl, grd_t, grd_T, su_c, su_s, su_k, wi_in, n_m1', n_m1, k0, hi', ip, hq]
          simp [sm, pp]
        · intro j
          show hs 84 j = _
          rw [p4]
          by_cases z : ∃ q, q < i ∧ ppl σ q = 1 ∧ j = 6 + 8 * q + 6
          · obtain ⟨q, z1, z2, z3⟩ := z
            rw [if_pos ⟨q, z1, z2, z3⟩, if_pos ⟨q, by omega, z2, z3⟩]
          · rw [if_neg z, if_neg]
            rintro ⟨q, z1, z2, z3⟩
            refine z ⟨q, ?_, z2, z3⟩
            by_cases e : q = i
            · subst e; omega
            · omega
    · rintro ⟨a, b, hs⟩ ⟨p1, p2, p3, p4⟩
      dsimp only at p1 p2 p3 p4
      subst p1; subst p2
      have k0 : hs 84 0 = nI (σ 0 0) := by
        rw [p4, if_neg (by rintro ⟨q, -, -, e⟩; omega)]; exact mN S
      refine ⟨(nI (sm (fun j => σ 7 j * ppl σ j) (σ 0 0)), hs), ?_, rfl, p3, p4⟩
      show fX9_object_b4 _ _ _ = _
      unfold fX9_object_b4
      simp (disch := omega) [n_lit, n_eq, n_lt, n_le, n_mul, n_add, n_cl, grd_t, grd_T, su_c, su_s, su_k, wi_in, n_m1', n_m1, k0]
  dsimp only at q1 q2 q3
  subst q1
  have em : fX9_object hh = some (nI (sm (fun j => σ 7 j * ppl σ j) (σ 0 0)), h2) := by
    unfold fX9_object
    rw [hl2]
    rfl
  have cc : ∀ c, c ≠ 2 → c ≠ 84 → h2 c = h c := fun c h1 h3 => by rw [q2 c h3, ← eh1, su_c _ _ _ h1]
  refine agr _ _ _ ec em (Inv_set I (Sc_shut S (fun j => σ 7 j * (1 - σ 7 j * ppl σ j)) hf ?_ ?_ cc ?_ ?_) cc ?_)
  · intro j hj; rw [q2 2 (by omega), ← eh1]; simp (disch := omega) [su_c, su_s, su_k]
  · rw [q2 2 (by omega), ← eh1]; simp (disch := omega) [su_c, su_s, su_k]
  · intro j hj
    rw [q3, if_neg]
    rintro ⟨q, z1, z2, z3⟩
    exact hj q z1 z3
  · intro i hi
    rw [q3]
    have h7 := f7 S i hi
    by_cases z : ppl σ i = 1
    · rw [if_pos ⟨i, hi, z, rfl⟩, z]
      rcases (show σ 7 i = 0 ∨ σ 7 i = 1 by omega) with y | y <;> rw [y] <;> rfl
    · have z0 : ppl σ i = 0 := by have := hp i hi; omega
      rw [if_neg, (S.2.1 i hi).2.2.2.2.2.2.1.1, z0]
      · simp
      · rintro ⟨q, z1, z2, z3⟩
        have : q = i := by omega
        subst this
        exact z z2
  · intro j hj
    rw [q3, if_neg]
    rintro ⟨q, z1, z2, z3⟩
    omega
