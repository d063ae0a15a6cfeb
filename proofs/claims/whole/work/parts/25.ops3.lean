/-! 25: nameOf, change, shut, object, asked -/
theorem su_self (h : Sto) (c k : Nat) : su h c k (h c k) = h := by
  funext c' k'
  rw [su_if]
  split
  · rename_i e; rw [e.1, e.2]
  · rfl
theorem su_self2 {h : Sto} {c k : Nat} {v : Int32} (e : h c k = v) : su h c k v = h := by rw [← e, su_self]
theorem bs_set1 {f : Nat → Nat} {n i : Nat} (hf : ∀ j, j < n → f j ≤ 1) (hi : i < n) : bs f n ||| 2 ^ i = bs (fun j => if j = i then 1 else f j) n := by
  apply bs_ext
  · intro j hj; split
    · omega
    · exact hf j hj
  · intro j
    rw [Nat.testBit_or, bs_bit n hf j, Nat.testBit_two_pow]
    by_cases e : j = i
    · subst e; simp [hi]
    · have e' : ¬ i = j := fun q => e q.symm
      simp [e, e']
theorem bs_set0 {f : Nat → Nat} {n i : Nat} (hf : ∀ j, j < n → f j ≤ 1) (hi : i < n) : anN (bs f n) (2 ^ i) = bs (fun j => if j = i then 0 else f j) n := by
  apply bs_ext
  · intro j hj; split
    · omega
    · exact hf j hj
  · intro j
    rw [anN_bit, bs_bit n hf j, Nat.testBit_two_pow]
    by_cases e : j = i
    · subst e; simp
    · have e' : ¬ i = j := fun q => e q.symm
      simp [e, e']
theorem bs_and {f g : Nat → Nat} {n : Nat} (hf : ∀ j, j < n → f j ≤ 1) (hg : ∀ j, j < n → g j ≤ 1) : bs f n &&& bs g n = bs (fun j => f j * g j) n := by
  apply bs_ext
  · intro j hj
    have h1 := hf j hj
    have h2 := hg j hj
    rcases (show f j = 0 ∨ f j = 1 by omega) with z | z <;> simp [z]
    exact h2
  · intro j
    rw [Nat.testBit_and, bs_bit n hf j, bs_bit n hg j]
    by_cases e : j < n
    · have h1 := hf j e
      rcases (show f j = 0 ∨ f j = 1 by omega) with z | z <;> simp [z, e]
    · simp [e]
theorem bs_an {f g : Nat → Nat} {n : Nat} (hf : ∀ j, j < n → f j ≤ 1) (hg : ∀ j, j < n → g j ≤ 1) : anN (bs f n) (bs g n) = bs (fun j => f j * (1 - g j)) n := by
  apply bs_ext
  · intro j hj
    have h1 := hf j hj
    rcases (show f j = 0 ∨ f j = 1 by omega) with z | z <;> simp [z]
  · intro j
    rw [anN_bit, bs_bit n hf j, bs_bit n hg j]
    by_cases e : j < n
    · have h1 := hf j e
      have h2 := hg j e
      rcases (show f j = 0 ∨ f j = 1 by omega) with z | z <;> rcases (show g j = 0 ∨ g j = 1 by omega) with y | y <;> simp [z, y, e]
    · simp [e]
theorem bs_l31 {f : Nat → Nat} {n : Nat} (hn : n ≤ 14) (hf : ∀ i, i < n → f i ≤ 1) : bs f n < 16384 := by
  have h1 := bs_lt n hf
  have h2 : 2 ^ n ≤ 2 ^ 14 := Nat.pow_le_pow_right (by decide) hn
  omega
theorem hbs {f : Nat → Nat} {n i : Nat} (hn : n ≤ 14) (hf : ∀ i, i < n → f i ≤ 1) (hi : i < n) (h : Sto) : fX8_hasBit (nI (bs f n)) (nI i) h = some (decide (f i = 1)) := by
  have := bs_l31 hn hf
  rw [hb (by omega) (by omega), bs_bit _ hf]
  simp [hi]
section OP
variable {h : Sto} {σ : Gh}
theorem f7 (S : Sc h 1 84 σ) : ∀ i, i < σ 0 0 → σ 7 i ≤ 1 := fun i hi => (S.2.1 i hi).2.2.2.2.2.2.1.2
theorem f8 (S : Sc h 1 84 σ) : ∀ i, i < σ 0 0 → σ 8 i ≤ 1 := fun i hi => (S.2.1 i hi).2.2.2.2.2.2.2.2
theorem cShut (S : Sc h 1 84 σ) : h 2 1 = nI (bs (σ 7) (σ 0 0)) := S.2.2.1.1
theorem cAsk (S : Sc h 1 84 σ) : h 2 2 = nI (bs (σ 8) (σ 0 0)) := S.2.2.1.2
theorem cBit (S : Sc h 1 84 σ) {i : Nat} (hi : i < σ 0 0) (h' : Sto) : fX8_hasBit (h 2 1) (nI i) h' = some (decide (σ 7 i = 1)) := by
  have hN := lN14 S
  have := bs_l31 hN (f7 S)
  rw [cShut S, hb (by omega) (by omega), bs_bit _ (f7 S)]
  simp [hi]
theorem cBitA (S : Sc h 1 84 σ) {i : Nat} (hi : i < σ 0 0) (h' : Sto) : fX8_hasBit (h 2 2) (nI i) h' = some (decide (σ 8 i = 1)) := by
  have hN := lN14 S
  have := bs_l31 hN (f8 S)
  rw [cAsk S, hb (by omega) (by omega), bs_bit _ (f8 S)]
  simp [hi]
end OP
theorem b2i_d {n : Nat} (hn : n ≤ 1) : b2i (decide (n = 1)) = nI n := by
  rcases (show n = 0 ∨ n = 1 by omega) with e | e <;> subst e <;> rfl
theorem st_nameOf (a b : Int32) (h : Sto) (I : Inv h) : Agr (fX8_nameOf a b) (fX9_nameOf a b) h := by
  obtain ⟨σ, S⟩ := I.1
  have hN := lN14 S
  by_cases h1 : nI 0 ≤ a ∧ a ≤ lI (σ 0 0)
  · by_cases h2 : nI 0 ≤ b ∧ b ≤ nI 7
    · obtain ⟨i, hi, rfl⟩ := (arg_nm (by omega)).mp h1
      obtain ⟨w, rfl, -, hw⟩ := arg_in (by omega) (by omega) h2
      have T := S.2.1 i hi
      obtain ⟨⟨a1, a2, a3⟩, ⟨b1, b2, b3⟩, ⟨c1, c2, c3⟩, ⟨d1, d2, d3⟩, ⟨e1, e2, e3⟩, ⟨g1, g2, g3⟩, ⟨i1, i2⟩, ⟨j1, j2⟩⟩ := T
      have a1 : h 4 i = _ := a1
      have b1 : h 5 i = _ := b1
      have c1 : h 6 i = _ := c1
      have d1 : h 7 i = _ := d1
      have e1 : h 8 i = _ := e1
      have g1 : h 9 i = _ := g1
      rcases (show w = 0 ∨ w = 1 ∨ w = 2 ∨ w = 3 ∨ w = 4 ∨ w = 5 ∨ w = 6 ∨ w = 7 by omega) with rfl | rfl | rfl | rfl | rfl | rfl | rfl | rfl
      · refine agr (nI (σ 1 i)) h h ?_ ?_ I
        · unfold fX8_nameOf
          simp (disch := omega) [n_lit, n_eq, n_lt, n_le, n_mul, n_add, n_cl, grd_t, grd_T, su_c, su_s, su_k, wi_in, n_m1', n_m1, cHas S, h1, h2, a1, a2]
        · unfold fX9_nameOf
          simp (disch := omega) [n_lit, n_eq, n_lt, n_le, n_mul, n_add, n_cl, grd_t, grd_T, su_c, su_s, su_k, wi_in, n_m1', n_m1, mHas S, h1, h2, in_n _ 0 7 (by omega) (by omega), mOf, a1, a2]
      · refine agr (nI (σ 2 i)) h h ?_ ?_ I
        · unfold fX8_nameOf
          simp (disch := omega) [n_lit, n_eq, n_lt, n_le, n_mul, n_add, n_cl, grd_t, grd_T, su_c, su_s, su_k, wi_in, n_m1', n_m1, cHas S, h1, h2, b1, b2]
        · unfold fX9_nameOf
          simp (disch := omega) [n_lit, n_eq, n_lt, n_le, n_mul, n_add, n_cl, grd_t, grd_T, su_c, su_s, su_k, wi_in, n_m1', n_m1, mHas S, h1, h2, in_n _ 0 7 (by omega) (by omega), mOf, b1, b2]
      · refine agr (nI (σ 3 i)) h h ?_ ?_ I
        · unfold fX8_nameOf
          simp (disch := omega) [n_lit, n_eq, n_lt, n_le, n_mul, n_add, n_cl, grd_t, grd_T, su_c, su_s, su_k, wi_in, n_m1', n_m1, cHas S, h1, h2, c1, c2]
        · unfold fX9_nameOf
          simp (disch := omega) [n_lit, n_eq, n_lt, n_le, n_mul, n_add, n_cl, grd_t, grd_T, su_c, su_s, su_k, wi_in, n_m1', n_m1, mHas S, h1, h2, in_n _ 0 7 (by omega) (by omega), mOf, c1, c2]
      · refine agr (nI (σ 4 i)) h h ?_ ?_ I
        · unfold fX8_nameOf
          simp (disch := omega) [n_lit, n_eq, n_lt, n_le, n_mul, n_add, n_cl, grd_t, grd_T, su_c, su_s, su_k, wi_in, n_m1', n_m1, cHas S, h1, h2, d1, d2]
        · unfold fX9_nameOf
          simp (disch := omega) [n_lit, n_eq, n_lt, n_le, n_mul, n_add, n_cl, grd_t, grd_T, su_c, su_s, su_k, wi_in, n_m1', n_m1, mHas S, h1, h2, in_n _ 0 7 (by omega) (by omega), mOf, d1, d2]
      · refine agr (lI (σ 5 i)) h h ?_ ?_ I
        · unfold fX8_nameOf
          simp (disch := omega) [n_lit, n_eq, n_lt, n_le, n_mul, n_add, n_cl, grd_t, grd_T, su_c, su_s, su_k, wi_in, n_m1', n_m1, cHas S, h1, h2, e1, e2]
        · unfold fX9_nameOf
          simp (disch := omega) [n_lit, n_eq, n_lt, n_le, n_mul, n_add, n_cl, grd_t, grd_T, su_c, su_s, su_k, wi_in, n_m1', n_m1, mHas S, h1, h2, in_n _ 0 7 (by omega) (by omega), mOf, e1, e2]
      · refine agr (nI (σ 6 i)) h h ?_ ?_ I
        · unfold fX8_nameOf
          simp (disch := omega) [n_lit, n_eq, n_lt, n_le, n_mul, n_add, n_cl, grd_t, grd_T, su_c, su_s, su_k, wi_in, n_m1', n_m1, cHas S, h1, h2, g1, g2]
        · unfold fX9_nameOf
          simp (disch := omega) [n_lit, n_eq, n_lt, n_le, n_mul, n_add, n_cl, grd_t, grd_T, su_c, su_s, su_k, wi_in, n_m1', n_m1, mHas S, h1, h2, in_n _ 0 7 (by omega) (by omega), mOf, g1, g2]
      · refine agr (nI (σ 7 i)) h h ?_ ?_ I
        · unfold fX8_nameOf
          simp (disch := omega) [n_lit, n_eq, n_lt, n_le, n_mul, n_add, n_cl, grd_t, grd_T, su_c, su_s, su_k, wi_in, n_m1', n_m1, cHas S, h1, h2, cBit S hi, asI, b2i_d i2]
        · unfold fX9_nameOf
          simp (disch := omega) [n_lit, n_eq, n_lt, n_le, n_mul, n_add, n_cl, grd_t, grd_T, su_c, su_s, su_k, wi_in, n_m1', n_m1, mHas S, h1, h2, in_n _ 0 7 (by omega) (by omega), mOf, i1]
      · refine agr (b2i (isO (σ 1 i) 1)) h h ?_ ?_ I
        · unfold fX8_nameOf
          simp (disch := omega) [n_lit, n_eq, n_lt, n_le, n_mul, n_add, n_cl, grd_t, grd_T, su_c, su_s, su_k, wi_in, n_m1', n_m1, cHas S, h1, h2, cIsOf S hi, asI]
        · unfold fX9_nameOf
          simp (disch := omega) [n_lit, n_eq, n_lt, n_le, n_mul, n_add, n_cl, grd_t, grd_T, su_c, su_s, su_k, wi_in, n_m1', n_m1, mHas S, h1, h2, in_n _ 0 7 (by omega) (by omega), mIsP S hi]
          cases isO (σ 1 i) 1 <;> rfl
    · refine ag_f0 I ?_ ?_
      · unfold fX8_nameOf
        simp (disch := omega) [n_lit, n_eq, n_lt, n_le, n_mul, n_add, n_cl, grd_t, grd_T, su_c, su_s, su_k, wi_in, n_m1', n_m1, cHas S, h1, h2]
      · intro h1' e
        subst e
        unfold fX9_nameOf
        simp (disch := omega) [n_lit, n_eq, n_lt, n_le, n_mul, n_add, n_cl, grd_t, grd_T, su_c, su_s, su_k, wi_in, n_m1', n_m1, mHas (Sc_find S), h1, h2, in_n _ 0 7 (by omega) (by omega)]
  · refine ag_f0 I ?_ ?_
    · unfold fX8_nameOf
      simp (disch := omega) [n_lit, n_eq, n_lt, n_le, n_mul, n_add, n_cl, grd_t, grd_T, su_c, su_s, su_k, wi_in, n_m1', n_m1, cHas S, h1]
    · intro h1' e
      subst e
      unfold fX9_nameOf
      simp (disch := omega) [n_lit, n_eq, n_lt, n_le, n_mul, n_add, n_cl, grd_t, grd_T, su_c, su_s, su_k, wi_in, n_m1', n_m1, mHas (Sc_find S), h1]
-- change
theorem al_may {h h' : Sto} {σ : Gh} (S : Sc h 1 84 σ) (S' : Sc h' 1 84 σ) {i : Nat} (hi : i < σ 0 0) (b c : Int32) : fX9_may (nI i) b c h' = fX1_allows (nI i) b c h := by
  have hN := lN14 S
  unfold fX9_may fX1_allows fX9_isTopic fX8_isTopic
  rw [cHas S, mHas S']
  by_cases z : b < 1 ∨ 5 < b
  · have z1 : b < 1 ∨ 4 < b := by
      rcases z with z | z
      · exact Or.inl z
      · refine Or.inr ?_
        have := Int32.lt_iff_toInt_lt.mp z
        apply Int32.lt_iff_toInt_lt.mpr
        have e5 : (5 : Int32).toInt = 5 := by decide
        have e4 : (4 : Int32).toInt = 4 := by decide
        omega
    have z2 : ¬ b = 5 := by
      intro e
      subst e
      rcases z with z | z <;> exact absurd z (by decide)
    simp [z, z1, z2]
  · have z0 : ¬ b < 1 := fun q => z (Or.inl q)
    have z1 : ¬ 5 < b := fun q => z (Or.inr q)
    obtain ⟨w, rfl, hw1, hw2⟩ := arg_in (x := b) (a := 1) (b := 5) (by omega) (by omega) ⟨Int32.not_lt.mp z0, Int32.not_lt.mp z1⟩
    rcases (show w = 1 ∨ w = 2 ∨ w = 3 ∨ w = 4 ∨ w = 5 by omega) with rfl | rfl | rfl | rfl | rfl
    · simp [n_lit, n_lt, n_eq, wi_in, in_n _ 1 999 (by omega) (by omega)]
    · simp [n_lit, n_lt, n_eq, wi_in, in_n _ 1 1023 (by omega) (by omega)]
    · simp [n_lit, n_lt, n_eq, wi_in, in_n _ 0 99 (by omega) (by omega)]
    · simp [n_lit, n_lt, n_eq]
      by_cases y : c = nI i
      · subst y
        have y1 : ¬ nI i = -nI 1 := by rw [n_m1, nI_lI (by omega) (by omega)]; omega
        simp [y1]
      · by_cases y2 : c = -nI 1
        · simp [y2] at y ⊢
          exact y
        · simp [y, y2]
    · simp [n_lit, n_lt, n_eq, wi_in, in_n _ 0 9 (by omega) (by omega)]
      split <;> simp_all
