/-! 36: who speaks in a second -/
theorem j_min {a b : Nat} (ha : a < 2147483648) (hb : b < 2147483648) : jmin (nI a) (nI b) = nI (min a b) := by
  unfold jmin
  have hx := n_lt hb ha
  by_cases z : b < a
  · rw [Nat.min_eq_right (by omega)]
    simp only [hx, z, if_true]
  · rw [Nat.min_eq_left (by omega)]
    simp only [hx, z, if_false]
theorem lI_toInt {s : Nat} (hs : s < 2147483648) : (lI s).toInt = (s : Int) - 1 := by
  cases s with
  | zero => decide
  | succ s => rw [lI_s, n_toInt (by omega)]; omega
def nmS (σ : Gh) (n s : Nat) : Bool := decide (s % σ 2 n = 0)
def hrS (σ : Gh) (n s : Nat) : Bool := (σ 3 n).testBit (hrN s)
def ckS (σ : Gh) (n s : Nat) : Bool := decide (s % σ 2 n = min (σ 2 n - 1) ((7 * (s / σ 2 n) + 3 * n) % (σ 4 n + 1)))
def ldS (σ : Gh) (n s : Nat) : Bool := decide (0 < σ 5 n) && decide (∃ w, w < σ 0 2 ∧ s = σ 9 w + 1 ∧ σ 10 w = σ 5 n - 1)
def spS (σ : Gh) (n s : Nat) : Bool :=
  if σ 1 n = 0 then nmS σ n s else if σ 1 n = 1 ∨ σ 1 n = 3 then nmS σ n s && hrS σ n s else if σ 1 n = 2 then ckS σ n s else if σ 1 n = 4 then ckS σ n s && hrS σ n s
  else if σ 1 n = 5 then decide (2 * n ≤ s) && decide ((s - 2 * n) % σ 2 n = 0) else if σ 1 n = 6 then (nmS σ n s && hrS σ n s) || ldS σ n s else (if s / 1000 % 7 = 6 then ckS σ n s else nmS σ n s) && hrS σ n s
section SPK
variable {h : Sto} {σ : Gh} {n s : Nat}
theorem crest {a b : Nat} (ha : a < 2147483648) (h0 : 0 < b) (hb : b < 2147483648) (h : Sto) : fX8_rest (nI a) (nI b) h = some (nI (a % b)) := by
  unfold fX8_rest
  have : ¬ b = 0 := by omega
  simp (disch := omega) [n_lit, n_eq, n_rem, grd_t, grd_T, this]
theorem ccut {a b : Nat} (ha : a < 2147483648) (h0 : 0 < b) (hb : b < 2147483648) (h : Sto) : fX8_cut (nI a) (nI b) h = some (nI (a / b)) := by
  unfold fX8_cut
  have : ¬ b = 0 := by omega
  simp (disch := omega) [n_lit, n_eq, n_div, grd_t, grd_T, this]
theorem t4 (S : Sc h 1 84 σ) (hn : n < σ 0 0) : h 4 n = nI (σ 1 n) ∧ σ 1 n ≤ 7 := ⟨(S.2.1 n hn).1.1, (S.2.1 n hn).1.2.2⟩
theorem t5 (S : Sc h 1 84 σ) (hn : n < σ 0 0) : h 5 n = nI (σ 2 n) ∧ 1 ≤ σ 2 n ∧ σ 2 n ≤ 999 := ⟨(S.2.1 n hn).2.1.1, (S.2.1 n hn).2.1.2.2⟩
theorem t6 (S : Sc h 1 84 σ) (hn : n < σ 0 0) : h 6 n = nI (σ 3 n) ∧ 1 ≤ σ 3 n ∧ σ 3 n ≤ 1023 := ⟨(S.2.1 n hn).2.2.1.1, (S.2.1 n hn).2.2.1.2.2⟩
theorem t7 (S : Sc h 1 84 σ) (hn : n < σ 0 0) : h 7 n = nI (σ 4 n) ∧ σ 4 n ≤ 99 := ⟨(S.2.1 n hn).2.2.2.1.1, (S.2.1 n hn).2.2.2.1.2.2⟩
theorem t8 (S : Sc h 1 84 σ) (hn : n < σ 0 0) : h 8 n = lI (σ 5 n) ∧ σ 5 n ≤ σ 0 0 := ⟨(S.2.1 n hn).2.2.2.2.1.1, (S.2.1 n hn).2.2.2.2.1.2.2⟩
theorem t9 (S : Sc h 1 84 σ) (hn : n < σ 0 0) : h 9 n = nI (σ 6 n) ∧ σ 6 n ≤ 9 := ⟨(S.2.1 n hn).2.2.2.2.2.1.1, (S.2.1 n hn).2.2.2.2.2.1.2.2⟩
theorem o0 (S : Sc h 1 84 σ) (hn : n < σ 0 0) : fX9_of (nI n) (nI 0) h = some (nI (σ 1 n)) := by
  have := lN14 S
  rw [mOf n 0 (by omega) (by omega), Nat.add_zero, (S.2.1 n hn).1.2.1]
theorem o1 (S : Sc h 1 84 σ) (hn : n < σ 0 0) : fX9_of (nI n) (nI 1) h = some (nI (σ 2 n)) := by
  have := lN14 S
  rw [mOf n 1 (by omega) (by omega), (S.2.1 n hn).2.1.2.1]
theorem o2 (S : Sc h 1 84 σ) (hn : n < σ 0 0) : fX9_of (nI n) (nI 2) h = some (nI (σ 3 n)) := by
  have := lN14 S
  rw [mOf n 2 (by omega) (by omega), (S.2.1 n hn).2.2.1.2.1]
theorem o3 (S : Sc h 1 84 σ) (hn : n < σ 0 0) : fX9_of (nI n) (nI 3) h = some (nI (σ 4 n)) := by
  have := lN14 S
  rw [mOf n 3 (by omega) (by omega), (S.2.1 n hn).2.2.2.1.2.1]
theorem o4 (S : Sc h 1 84 σ) (hn : n < σ 0 0) : fX9_of (nI n) (nI 4) h = some (lI (σ 5 n)) := by
  have := lN14 S
  rw [mOf n 4 (by omega) (by omega), (S.2.1 n hn).2.2.2.2.1.2.1]
theorem o5 (S : Sc h 1 84 σ) (hn : n < σ 0 0) : fX9_of (nI n) (nI 5) h = some (nI (σ 6 n)) := by
  have := lN14 S
  rw [mOf n 5 (by omega) (by omega), (S.2.1 n hn).2.2.2.2.2.1.2.1]
theorem o6 (S : Sc h 1 84 σ) (hn : n < σ 0 0) : fX9_of (nI n) (nI 6) h = some (nI (σ 7 n)) := by
  have := lN14 S
  rw [mOf n 6 (by omega) (by omega), (S.2.1 n hn).2.2.2.2.2.2.1.1]
theorem cNmS (S : Sc h 1 84 σ) (hn : n < σ 0 0) (hs : s < 1000000) : fX3_isAsName (nI n) (nI s) h = some (nmS σ n s) := by
  have := lN14 S
  obtain ⟨a, b, c⟩ := t5 S hn
  have hm : s % σ 2 n < σ 2 n := Nat.mod_lt _ (by omega)
  unfold fX3_isAsName nmS
  simp (disch := omega) [n_lit, n_eq, n_lt, n_le, n_mul, n_add, n_cl, grd_t, grd_T, su_c, su_s, su_k, wi_in, n_m1', n_m1, a, crest]
  by_cases z : s % σ 2 n = 0 <;> simp [z]
theorem cHrS (S : Sc h 1 84 σ) (hn : n < σ 0 0) (hs : s < 1000000) : fX3_isInHours (nI n) (nI s) h = some (hrS σ n s) := by
  have := lN14 S
  obtain ⟨a, b, c⟩ := t6 S hn
  have := hrN_lt s
  unfold fX3_isInHours hrS
  simp (disch := omega) [n_lit, n_eq, n_lt, n_le, n_mul, n_add, n_cl, grd_t, grd_T, su_c, su_s, su_k, wi_in, n_m1', n_m1, a, hO_c, hb]
theorem cPeS (S : Sc h 1 84 σ) (hn : n < σ 0 0) (hs : s < 1000000) : fX3_isAsPerson (nI n) (nI s) h = some (nmS σ n s && hrS σ n s) := by
  unfold fX3_isAsPerson
  rw [cNmS S hn hs, cHrS S hn hs]
  cases nmS σ n s <;> cases hrS σ n s <;> rfl
theorem cCkS (S : Sc h 1 84 σ) (hn : n < σ 0 0) (hs : s < 1000000) : fX3_isAsClock (nI n) (nI s) h = some (ckS σ n s) := by
  have := lN14 S
  obtain ⟨a, b, c⟩ := t5 S hn
  obtain ⟨d, e⟩ := t7 S hn
  have hm : s % σ 2 n < σ 2 n := Nat.mod_lt _ (by omega)
  have hd : s / σ 2 n ≤ s := Nat.div_le_self _ _
  have hj : (7 * (s / σ 2 n) + 3 * n) % (σ 4 n + 1) < σ 4 n + 1 := Nat.mod_lt _ (by omega)
  unfold fX3_isAsClock ckS
  simp (disch := omega) [n_lit, n_eq, n_lt, n_le, n_mul, n_add, n_cl, grd_t, grd_T, su_c, su_s, su_k, wi_in, n_m1', n_m1, a, d, ccut, crest, n_sub, j_min]
  by_cases z : s % σ 2 n = min (σ 2 n - 1) ((7 * (s / σ 2 n) + 3 * n) % (σ 4 n + 1))
  · simp [z]
  · simp [z]
theorem mNmS (S : Sc h 1 84 σ) (hn : n < σ 0 0) (hs : s < 1000000) : fX9_byGap (nI n) (nI s) h = some (nmS σ n s) := by
  obtain ⟨a, b, c⟩ := t5 S hn
  have hm : s % σ 2 n < σ 2 n := Nat.mod_lt _ (by omega)
  have : ¬ σ 2 n = 0 := by omega
  unfold fX9_byGap nmS
  simp (disch := omega) [n_lit, n_eq, n_lt, n_le, n_mul, n_add, n_cl, grd_t, grd_T, su_c, su_s, su_k, wi_in, n_m1', n_m1, o1 S hn, n_rem, this]
  by_cases z : s % σ 2 n = 0 <;> simp [z]
theorem mHrS (S : Sc h 1 84 σ) (hn : n < σ 0 0) (hs : s < 1000000) : fX9_isAwake (nI n) (nI s) h = some (hrS σ n s) := by
  obtain ⟨a, b, c⟩ := t6 S hn
  have := hrN_lt s
  unfold fX9_isAwake hrS
  simp (disch := omega) [n_lit, n_eq, n_lt, n_le, n_mul, n_add, n_cl, grd_t, grd_T, su_c, su_s, su_k, wi_in, n_m1', n_m1, o2 S hn, hO_m, mhas]
theorem mCkS (S : Sc h 1 84 σ) (hn : n < σ 0 0) (hs : s < 1000000) : fX9_byClock (nI n) (nI s) h = some (ckS σ n s) := by
  have := lN14 S
  obtain ⟨a, b, c⟩ := t5 S hn
  obtain ⟨d, e⟩ := t7 S hn
  have hm : s % σ 2 n < σ 2 n := Nat.mod_lt _ (by omega)
  have hd : s / σ 2 n ≤ s := Nat.div_le_self _ _
  have hj : (7 * (s / σ 2 n) + 3 * n) % (σ 4 n + 1) < σ 4 n + 1 := Nat.mod_lt _ (by omega)
  have z1 : ¬ σ 2 n = 0 := by omega
  unfold fX9_byClock ckS
  simp (disch := omega) [n_lit, n_eq, n_lt, n_le, n_mul, n_add, n_cl, grd_t, grd_T, su_c, su_s, su_k, wi_in, n_m1', n_m1, o1 S hn, o3 S hn, n_div, n_rem, z1]
  generalize (7 * (s / σ 2 n) + 3 * n) % (σ 4 n + 1) = L at hj ⊢
  by_cases z : σ 2 n ≤ L
  · rw [Nat.min_eq_left (by omega)]
    have hq : lI (σ 2 n) = nI (σ 2 n - 1) := by
      obtain ⟨g, hg⟩ : ∃ g, σ 2 n = g + 1 := ⟨σ 2 n - 1, by omega⟩
      rw [hg, lI_s]
      rfl
    simp (disch := omega) [n_lit, n_eq, n_lt, n_le, n_mul, n_add, n_cl, grd_t, grd_T, su_c, su_s, su_k, wi_in, n_m1', n_m1, z, hq]
    by_cases y : s % σ 2 n = σ 2 n - 1 <;> simp [y]
  · rw [Nat.min_eq_right (by omega)]
    simp (disch := omega) [n_lit, n_eq, n_lt, n_le, n_mul, n_add, n_cl, grd_t, grd_T, su_c, su_s, su_k, wi_in, n_m1', n_m1, z]
    by_cases y : s % σ 2 n = L <;> simp [y]
theorem mLed (S : Sc h 1 84 σ) (j : Nat) (hj : j < 14) (hs : s < 1000000) : fX9_isLed (nI j) (lI s) h = some (decide (∃ w, w < σ 0 2 ∧ s = σ 9 w + 1 ∧ σ 10 w = j)) := by
  have hW := lW S
  have hN := lN14 S
  have hNow := lNow S
  generalize hm : fi (fun w => decide (s = σ 9 w + 1 ∧ σ 10 w = j)) (σ 0 2) = m
  have hm1 : m ≤ σ 0 2 := hm ▸ fi_le _ _
  have hm2 : ∀ w, w < m → ¬ (s = σ 9 w + 1 ∧ σ 10 w = j) := fun w hw => by
    have := fi_no (fun w => decide (s = σ 9 w + 1 ∧ σ 10 w = j)) (σ 0 2) w (by rw [hm]; exact hw)
    exact of_decide_eq_false this
  have hl : lp (fun q => fX9_isLed_b2 (nI j) (lI s) h q) FUEL 0 = some (if m < σ 0 2 then .inr true else .inl ()) := by
    refine lp_F (g := fun i => nI i) m _ rfl (by omega) ?_ ?_
    · intro i hi
      have hi2 : i < σ 0 2 := by omega
      have hi' : ¬ σ 0 2 ≤ i := by omega
      have := b9 S hi2
      have := b10 S hi2
      have hx := hm2 i hi
      show fX9_isLed_b2 (nI j) (lI s) h (nI i) = _
      unfold fX9_isLed_b2
      simp (disch := omega) [n_lit, n_eq, n_lt, n_le, n_mul, n_add, n_cl, grd_t, grd_T, su_c, su_s, su_k, wi_in, n_m1', n_m1, mW S, hi', w1 S hi2, w0 S hi2, nI_lI]
      intro e1 e2
      exact absurd ⟨e2, e1⟩ hx
    · show fX9_isLed_b2 (nI j) (lI s) h (nI m) = _
      unfold fX9_isLed_b2
      by_cases z : m < σ 0 2
      · have hi' : ¬ σ 0 2 ≤ m := by omega
        have := b9 S z
        have := b10 S z
        have hx := fi_at (fun w => decide (s = σ 9 w + 1 ∧ σ 10 w = j)) (σ 0 2) (by rw [hm]; exact z)
        rw [hm] at hx
        have hx := of_decide_eq_true hx
        simp (disch := omega) [n_lit, n_eq, n_lt, n_le, n_mul, n_add, n_cl, grd_t, grd_T, su_c, su_s, su_k, wi_in, n_m1', n_m1, mW S, hi', w1 S z, w0 S z, nI_lI, hx.2, z]
        rw [← hx.1]
      · have hi' : σ 0 2 ≤ m := by omega
        simp (disch := omega) [n_lit, n_eq, n_lt, n_le, n_mul, n_add, n_cl, grd_t, grd_T, su_c, su_s, su_k, wi_in, n_m1', n_m1, mW S, hi', z]
  unfold fX9_isLed
  rw [hl]
  by_cases z : m < σ 0 2
  · have hx := fi_at (fun w => decide (s = σ 9 w + 1 ∧ σ 10 w = j)) (σ 0 2) (by rw [hm]; exact z)
    rw [hm] at hx
    have hx := of_decide_eq_true hx
    rw [if_pos z, decide_eq_true ⟨m, z, hx.1, hx.2⟩]
    rfl
  · rw [if_neg z, decide_eq_false]
    · rfl
    · rintro ⟨w, h1, h2, h3⟩
      exact hm2 w (by omega) ⟨h2, h3⟩
theorem cLed (S : Sc h 1 84 σ) (hn : n < σ 0 0) (hs : s < 1000000) : fX3_isBehindLeader (nI n) (nI s) h = some (ldS σ n s) := by
  have hW := lW S
  have hN := lN14 S
  obtain ⟨a, b⟩ := t8 S hn
  unfold fX3_isBehindLeader ldS
  simp (disch := omega) [n_lit, n_eq, n_lt, n_le, n_mul, n_add, n_cl, grd_t, grd_T, su_c, su_s, su_k, wi_in, n_m1', n_m1, a, lI_lt0, cBetw S, lI_toInt]
  by_cases z : σ 5 n = 0
  · simp [z]
  · obtain ⟨j, hj⟩ : ∃ j, σ 5 n = j + 1 := ⟨σ 5 n - 1, by omega⟩
    have hlt : bt (btw σ ((s : Int) - 1) ((s : Int) - 1)) (σ 10) (σ 0 2) < 2 ^ 14 := bt_lt (fun w hw => by have := b10 S hw; omega)
    have hz : 0 < σ 5 n := by omega
    rw [hj, lI_s]
    simp (disch := omega) [hb, bt_bit]
    have hiff : (∃ w, w < σ 0 2 ∧ btw σ ((s : Int) - 1) ((s : Int) - 1) w = true ∧ σ 10 w = j) ↔ (∃ w, w < σ 0 2 ∧ s = σ 9 w + 1 ∧ σ 10 w = j) := by
      constructor
      · rintro ⟨w, h1, h2, h3⟩
        unfold btw at h2
        simp at h2
        exact ⟨w, h1, by omega, h3⟩
      · rintro ⟨w, h1, h2, h3⟩
        refine ⟨w, h1, ?_, h3⟩
        unfold btw
        simp
        omega
    by_cases y : ∃ w, w < σ 0 2 ∧ s = σ 9 w + 1 ∧ σ 10 w = j
    · have y2 := hiff.mpr y
      simp [y, y2]
    · have y2 : ¬ _ := fun q => y (hiff.mp q)
      simp only [y, y2]
      simp
end SPK
