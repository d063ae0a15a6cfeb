/-! 32: hours, apart, first, counts, most, many, wordOf -/
section OP9
variable {h : Sto} {σ : Gh}
theorem cAll (S : Sc h 1 84 σ) (x : Int32) : fX1_hasAll x h = some (decide (nI 0 ≤ x ∧ x ≤ nI (2 ^ σ 0 0 - 1))) := by
  have hN := lN14 S
  have h1 : 1 ≤ 2 ^ σ 0 0 := Nat.one_le_two_pow
  unfold fX1_hasAll
  rw [wi_in, cN S]
  simp (disch := omega) [n_lit, n_shl, n_sub]
theorem mAll (S : Sc h 1 84 σ) (x : Int32) : fX9_isSet x h = some (decide (nI 0 ≤ x ∧ x ≤ nI (2 ^ σ 0 0 - 1))) := by
  have hN := lN14 S
  have h1 : 1 ≤ 2 ^ σ 0 0 := Nat.one_le_two_pow
  unfold fX9_isSet fX9_every
  rw [mN S]
  simp (disch := omega) [n_lit, n_shl, n_sub, in_v]
theorem arg_set (S : Sc h 1 84 σ) {x : Int32} (hx : nI 0 ≤ x ∧ x ≤ nI (2 ^ σ 0 0 - 1)) : ∃ c, x = nI c ∧ c < 16384 := by
  have hN := lN14 S
  have h2 : 2 ^ σ 0 0 ≤ 2 ^ 14 := Nat.pow_le_pow_right (by decide) hN
  obtain ⟨c, e, -, hc⟩ := arg_in (by omega) (by omega) hx
  exact ⟨c, e, by omega⟩
end OP9
theorem st_hours (a : Int32) (h : Sto) (I : Inv h) : Agr (fX8_hours a) (fX9_hours a) h := by
  obtain ⟨σ, S⟩ := I.1
  have hN := lN14 S
  by_cases h1 : nI 0 ≤ a ∧ a ≤ lI (σ 0 0)
  · obtain ⟨i, hi, rfl⟩ := (arg_nm (by omega)).mp h1
    refine agr (nI (hs σ i (σ 0 2))) h h ?_ ?_ I
    · unfold fX8_hours; simp (disch := omega) [cHas S, h1, cHs S]
    · unfold fX9_hours; simp (disch := omega) [mHas S, h1, mHs S]
  · refine ag_f0 I ?_ ?_
    · unfold fX8_hours; simp (disch := omega) [cHas S, h1]
    · intro h' e; subst e; unfold fX9_hours; simp (disch := omega) [mHas (Sc_find S), h1]
theorem cTwo {h : Sto} {σ : Gh} (S : Sc h 1 84 σ) (a b : Int32) : fX8_areTwoNames a b h = some (decide ((nI 0 ≤ a ∧ a ≤ lI (σ 0 0)) ∧ (nI 0 ≤ b ∧ b ≤ lI (σ 0 0)) ∧ ¬ a = b)) := by
  unfold fX8_areTwoNames
  rw [cHas S, cHas S]
  by_cases h1 : nI 0 ≤ a ∧ a ≤ lI (σ 0 0) <;> by_cases h2 : nI 0 ≤ b ∧ b ≤ lI (σ 0 0) <;> by_cases h3 : a = b <;> simp [h1, h2, h3]
theorem mTwo {h : Sto} {σ : Gh} (S : Sc h 1 84 σ) (a b : Int32) : fX9_areTwo a b h = some (decide ((nI 0 ≤ a ∧ a ≤ lI (σ 0 0)) ∧ (nI 0 ≤ b ∧ b ≤ lI (σ 0 0)) ∧ ¬ a = b)) := by
  unfold fX9_areTwo
  rw [mHas S, mHas S]
  by_cases h1 : nI 0 ≤ a ∧ a ≤ lI (σ 0 0) <;> by_cases h2 : nI 0 ≤ b ∧ b ≤ lI (σ 0 0) <;> by_cases h3 : a = b <;> simp [h1, h2, h3]
theorem st_apart (a b : Int32) (h : Sto) (I : Inv h) : Agr (fX8_apart a b) (fX9_apart a b) h := by
  obtain ⟨σ, S⟩ := I.1
  have hN := lN14 S
  by_cases h1 : (nI 0 ≤ a ∧ a ≤ lI (σ 0 0)) ∧ (nI 0 ≤ b ∧ b ≤ lI (σ 0 0)) ∧ ¬ a = b
  · obtain ⟨i, hi, ea⟩ := (arg_nm (by omega)).mp h1.1
    obtain ⟨j, hj, eb⟩ := (arg_nm (by omega)).mp h1.2.1
    have l1 := hs_lt σ i (σ 0 2)
    have l2 := hs_lt σ j (σ 0 2)
    have l3 : hs σ i (σ 0 2) ^^^ hs σ j (σ 0 2) < 2 ^ 10 := Nat.xor_lt_two_pow l1 l2
    refine agr (nI (pcN (hs σ i (σ 0 2) ^^^ hs σ j (σ 0 2)))) h h ?_ ?_ I
    · unfold fX8_apart
      rw [cTwo S, decide_eq_true h1, ea, eb]
      simp (disch := omega) [cHs S, n_xor, bc]
    · unfold fX9_apart
      rw [mTwo S, decide_eq_true h1, ea, eb]
      simp (disch := omega) [mHs S, n_xor, mmany]
  · refine ag_f0 I ?_ ?_
    · unfold fX8_apart; rw [cTwo S, decide_eq_false h1]; rfl
    · intro h' e; subst e; unfold fX9_apart; rw [mTwo (Sc_find S), decide_eq_false h1]; rfl
theorem st_first (a : Int32) (h : Sto) (I : Inv h) : Agr (fX8_first a) (fX9_first a) h := by
  obtain ⟨σ, S⟩ := I.1
  have hW := lW S
  by_cases h1 : nI 0 ≤ a ∧ a ≤ nI 9
  · obtain ⟨t, rfl, -, ht⟩ := arg_in (by omega) (by omega) h1
    generalize hm : fi (fun w => decide (σ 11 w = t)) (σ 0 2) = m
    have hm1 : m ≤ σ 0 2 := hm ▸ fi_le _ _
    have hm2 : ∀ w, w < m → ¬ σ 11 w = t := fun w hw => by
      have := fi_no (fun w => decide (σ 11 w = t)) (σ 0 2) w (by rw [hm]; exact hw)
      simpa using this
    have hm3 : m < σ 0 2 → σ 11 m = t := fun hw => by
      have := fi_at (fun w => decide (σ 11 w = t)) (σ 0 2) (by rw [hm]; exact hw)
      rw [hm] at this
      simpa using this
    have cstep : ∀ i, i < m → fX0_firstTelling_b2 (nI t) h (nI i) = some (.inl (nI (i + 1))) := by
      intro i hi
      have hi2 : i < σ 0 2 := by omega
      have hi' : ¬ σ 0 2 ≤ i := by omega
      have := b11 S hi2
      have := hm2 i hi
      unfold fX0_firstTelling_b2
      simp (disch := omega) [n_lit, n_eq, n_lt, n_le, n_mul, n_add, n_cl, grd_t, grd_T, su_c, su_s, su_k, wi_in, n_m1', n_m1, cW S, hi', c13 S hi2, this]
    have mstep : ∀ h' : Sto, Sc h' 1 84 σ → ∀ i, i < m → fX9_first_b16 (nI t) h' (nI i) = some (.inl (nI (i + 1))) := by
      intro h' S' i hi
      have hi2 : i < σ 0 2 := by omega
      have hi' : ¬ σ 0 2 ≤ i := by omega
      have := b11 S hi2
      have := hm2 i hi
      unfold fX9_first_b16
      simp (disch := omega) [n_lit, n_eq, n_lt, n_le, n_mul, n_add, n_cl, grd_t, grd_T, su_c, su_s, su_k, wi_in, n_m1', n_m1, mW S', hi', w2 S' hi2, this]
    by_cases z : m < σ 0 2
    · have zt := hm3 z
      have z' : ¬ σ 0 2 ≤ m := by omega
      have e1 : lp (fun s => fX0_firstTelling_b2 (nI t) h s) FUEL 0 = some (.inr (nI m)) := by
        refine lp_F (g := fun i => nI i) m _ rfl (by omega) cstep ?_
        show fX0_firstTelling_b2 (nI t) h (nI m) = _
        unfold fX0_firstTelling_b2
        simp (disch := omega) [n_lit, n_eq, n_lt, n_le, n_mul, n_add, n_cl, grd_t, grd_T, su_c, su_s, su_k, wi_in, n_m1', n_m1, cW S, z', c13 S z, zt]
      have e2 : lp (fun s => fX9_first_b16 (nI t) h s) FUEL 0 = some (.inr (nI m, h)) := by
        refine lp_F (g := fun i => nI i) m _ rfl (by omega) (mstep h S) ?_
        show fX9_first_b16 (nI t) h (nI m) = _
        unfold fX9_first_b16
        simp (disch := omega) [n_lit, n_eq, n_lt, n_le, n_mul, n_add, n_cl, grd_t, grd_T, su_c, su_s, su_k, wi_in, n_m1', n_m1, mW S, z', w2 S z, zt]
      refine agr (nI m) h h ?_ ?_ I
      · unfold fX8_first fX8_isTopic fX0_firstTelling
        rw [e1]
        simp (disch := omega) [n_lit, n_eq, n_lt, n_le, n_mul, n_add, n_cl, grd_t, grd_T, su_c, su_s, su_k, wi_in, n_m1', n_m1, h1]
      · unfold fX9_first fX9_isTopic
        rw [e2]
        simp (disch := omega) [in_n _ 0 9 (by omega) (by omega), h1]
    · have z' : m = σ 0 2 := by omega
      have e1 : lp (fun s => fX0_firstTelling_b2 (nI t) h s) FUEL 0 = some (.inl ()) := by
        refine lp_F (g := fun i => nI i) m _ rfl (by omega) cstep ?_
        show fX0_firstTelling_b2 (nI t) h (nI m) = _
        unfold fX0_firstTelling_b2
        simp (disch := omega) [n_lit, n_eq, n_lt, n_le, n_mul, n_add, n_cl, grd_t, grd_T, su_c, su_s, su_k, wi_in, n_m1', n_m1, cW S, z']
      refine ag_f3 I ?_ ?_
      · unfold fX8_first fX8_isTopic fX0_firstTelling
        rw [e1]
        simp (disch := omega) [n_lit, n_eq, n_lt, n_le, n_mul, n_add, n_cl, grd_t, grd_T, su_c, su_s, su_k, wi_in, n_m1', n_m1, h1, lI_ge0]
      · intro h' e
        have S' : Sc h' 1 84 σ := by rw [e]; exact Sc_find S
        have e2 : lp (fun s => fX9_first_b16 (nI t) h' s) FUEL 0 = some (.inl ()) := by
          refine lp_F (g := fun i => nI i) m _ rfl (by omega) (mstep h' S') ?_
          show fX9_first_b16 (nI t) h' (nI m) = _
          unfold fX9_first_b16
          simp (disch := omega) [n_lit, n_eq, n_lt, n_le, n_mul, n_add, n_cl, grd_t, grd_T, su_c, su_s, su_k, wi_in, n_m1', n_m1, mW S', z']
        unfold fX9_first fX9_isTopic
        rw [e2]
        simp (disch := omega) [in_n _ 0 9 (by omega) (by omega), h1]
  · refine ag_f0 I ?_ ?_
    · unfold fX8_first fX8_isTopic; simp [wi_in, n_lit, h1]
    · intro h' _; unfold fX9_first fX9_isTopic; simp [in_n _ 0 9 (by omega) (by omega), h1]
theorem st_counts (a b : Int32) (h : Sto) (I : Inv h) : Agr (fX8_counts a b) (fX9_counts a b) h := by
  obtain ⟨σ, S⟩ := I.1
  by_cases h1 : lI 0 ≤ a ∧ a ≤ nI 9
  · obtain ⟨x, rfl, hx⟩ := arg_l (by omega) h1
    by_cases h2 : nI 0 ≤ b ∧ b ≤ nI (2 ^ σ 0 0 - 1)
    · obtain ⟨c, rfl, hc⟩ := arg_set S h2
      refine agr (nI (ctl σ (tpP x) c (σ 0 2))) h h ?_ ?_ I
      · unfold fX8_counts
        rw [wi_in, cAll S, cCtl S x c (by omega) hc]
        simp [n_lit, n_m1, h1, h2]
      · unfold fX9_counts
        rw [in_m1 _ 9 (by omega), mAll S, mCtl S x c (by omega) hc]
        simp [h1, h2]
    · refine ag_f0 I ?_ ?_
      · unfold fX8_counts
        rw [wi_in, cAll S]
        simp [n_lit, n_m1, h1, h2]
      · intro h' e
        subst e
        unfold fX9_counts
        rw [in_m1 _ 9 (by omega), mAll (Sc_find S)]
        simp [h1, h2]
  · refine ag_f0 I ?_ ?_
    · unfold fX8_counts
      rw [wi_in]
      simp [n_lit, n_m1, h1]
    · intro h' _
      unfold fX9_counts
      rw [in_m1 _ 9 (by omega)]
      simp [h1]
theorem pcN_le (x : Nat) : pcN x ≤ 14 := by
  have key : ∀ n, sm (fun i => if x.testBit i then 1 else 0) n ≤ n := by
    intro n
    induction n with
    | zero => exact Nat.le_refl _
    | succ n ih =>
      show sm _ n + (if x.testBit n then 1 else 0) ≤ n + 1
      split <;> omega
  exact key 14
theorem sm_pos {f : Nat → Nat} : ∀ {n : Nat}, 0 < sm f n ↔ ∃ i, i < n ∧ 0 < f i
  | 0 => ⟨fun h => absurd h (Nat.lt_irrefl _), fun ⟨i, h, _⟩ => absurd h (Nat.not_lt_zero _)⟩
  | n + 1 => by
    show 0 < sm f n + f n ↔ _
    constructor
    · intro h
      by_cases z : 0 < sm f n
      · obtain ⟨i, h1, h2⟩ := sm_pos.mp z
        exact ⟨i, by omega, h2⟩
      · exact ⟨n, by omega, by omega⟩
    · rintro ⟨i, h1, h2⟩
      by_cases e : i = n
      · subst e; omega
      · have := sm_pos.mpr ⟨i, show i < n by omega, h2⟩
        omega
theorem pcN_0 {x : Nat} (hx : x < 16384) : pcN x = 0 ↔ x = 0 := by
  constructor
  · intro h
    apply Nat.eq_of_testBit_eq
    intro i
    rw [Nat.zero_testBit]
    by_cases z : i < 14
    · by_cases y : x.testBit i = true
      · have : 0 < pcN x := sm_pos.mpr ⟨i, z, by simp [y]⟩
        omega
      · simpa using y
    · exact Nat.testBit_lt_two_pow (Nat.lt_of_lt_of_le hx (show 2 ^ 14 ≤ 2 ^ i from Nat.pow_le_pow_right (by decide) (by omega)))
  · rintro rfl; decide
theorem st_many (a b : Int32) (h : Sto) (I : Inv h) : Agr (fX8_many a b) (fX9_many_ a b) h := by
  obtain ⟨σ, S⟩ := I.1
  by_cases h1 : nI 0 ≤ a ∧ a ≤ nI (2 ^ σ 0 0 - 1)
  · obtain ⟨c, rfl, hc⟩ := arg_set S h1
    by_cases h2 : nI 0 ≤ b ∧ b ≤ nI (2 ^ σ 0 0 - 1)
    · obtain ⟨d, rfl, hd⟩ := arg_set S h2
      have hcd : c &&& d < 16384 := Nat.lt_of_le_of_lt Nat.and_le_left hc
      have p1 := pcN_le c
      have p2 := pcN_le d
      have p3 := pcN_le (c &&& d)
      have pm : pcN c * pcN d ≤ 14 * 14 := Nat.mul_le_mul p1 p2
      by_cases z : c &&& d = 0
      · have z' := (pcN_0 hcd).mpr z
        refine ag_f3 I ?_ ?_
        · unfold fX8_many
          rw [cAll S, cAll S]
          simp (disch := omega) [n_lit, h1, h2, n_and, bc, z', n_eq]
        · intro h' e
          subst e
          unfold fX9_many_
          rw [mAll (Sc_find S), mAll (Sc_find S)]
          simp (disch := omega) [n_lit, h1, h2, n_and, z, n_eq]
      · have z' : ¬ pcN (c &&& d) = 0 := fun q => z ((pcN_0 hcd).mp q)
        refine agr (nI (pcN c * pcN d / pcN (c &&& d))) h h ?_ ?_ I
        · unfold fX8_many fX8_cut
          rw [cAll S, cAll S]
          simp (disch := omega) [n_lit, h1, h2, n_and, bc, z', n_eq, n_mul, n_div, grd_t, grd_T]
        · unfold fX9_many_
          rw [mAll S, mAll S]
          simp (disch := omega) [n_lit, h1, h2, n_and, z, n_eq, mmany, n_mul, n_div, grd_t, grd_T, z']
    · refine ag_f0 I ?_ ?_
      · unfold fX8_many
        rw [cAll S, cAll S]
        simp [h1, h2]
      · intro h' e
        subst e
        unfold fX9_many_
        rw [mAll (Sc_find S), mAll (Sc_find S)]
        simp [h1, h2]
  · refine ag_f0 I ?_ ?_
    · unfold fX8_many
      rw [cAll S]
      simp [h1]
    · intro h' e
      subst e
      unfold fX9_many_
      rw [mAll (Sc_find S)]
      simp [h1]
