/-! 48: together -/
/-- a word of n near the second s -/
def nearP (σ : Gh) (n s d : Nat) : Bool := decide (∃ w, w < σ 0 2 ∧ σ 10 w = n ∧ σ 9 w ≤ s + d ∧ s ≤ σ 9 w + d)
def tgt (σ : Gh) (a b d : Nat) : Nat → Nat := sm (fun w => if σ 10 w = a ∧ nearP σ b (σ 9 w) d = true then 1 else 0)
theorem tgt_le (σ : Gh) (a b d : Nat) : ∀ W, tgt σ a b d W ≤ W
  | 0 => Nat.le_refl _
  | W + 1 => by
    have := tgt_le σ a b d W
    show tgt σ a b d W + (if _ then 1 else 0) ≤ W + 1
    split <;> omega
theorem tgt_s (σ : Gh) (a b d W : Nat) : tgt σ a b d (W + 1) = tgt σ a b d W + (if σ 10 W = a ∧ nearP σ b (σ 9 W) d = true then 1 else 0) := rfl
theorem sub_toInt {n k : Nat} (hn : n < 2147483648) (hk : k < 2147483648) : (nI n - nI k).toInt = (n : Int) - k := by
  rw [Int32.toInt_sub, n_toInt hn, n_toInt hk, Int.bmod_eq_of_le (by omega) (by omega)]
theorem neg_toInt {k : Nat} (hk : k < 2147483648) : (-nI k).toInt = -(k : Int) := by
  rw [Int32.toInt_neg, n_toInt hk, Int.bmod_eq_of_le (by omega) (by omega)]
section TOG
variable {h : Sto} {σ : Gh} {a b d : Nat}
theorem cNear (S : Sc h 1 84 σ) {w : Nat} (hw : w < σ 0 2) (hd : d ≤ 99) : fX0_speakersNear (nI w) (nI d) h = some (nI (bt (btw σ ((σ 9 w : Int) - d) ((σ 9 w : Int) + d)) (σ 10) (σ 0 2))) := by
  have hW := lW S
  have hb := b9 S hw
  have hNow := lNow S
  have e1 := sub_toInt (n := σ 9 w) (k := d) (by omega) (by omega)
  have e2 := n_toInt (n := σ 9 w + d) (by omega)
  unfold fX0_speakersNear
  simp (disch := omega) [n_lit, n_eq, n_lt, n_le, n_mul, n_add, n_cl, grd_t, grd_T, su_c, su_s, su_k, wi_in, n_m1', n_m1, c11 S hw, cBetw S, e1, e2]
theorem bt_near (S : Sc h 1 84 σ) (s : Nat) : (bt (btw σ ((s : Int) - d) ((s : Int) + d)) (σ 10) (σ 0 2)).testBit b = nearP σ b s d := by
  rw [bt_bit]
  unfold nearP
  apply decide_eq_decide.mpr
  constructor
  · rintro ⟨w, h1, h2, h3⟩
    unfold btw at h2
    simp at h2
    exact ⟨w, h1, h3, by omega, by omega⟩
  · rintro ⟨w, h1, h3, h4, h5⟩
    refine ⟨w, h1, ?_, h3⟩
    unfold btw
    simp
    omega
theorem cTog (S : Sc h 1 84 σ) (ha : a < σ 0 0) (hbb : b < σ 0 0) (hd : d ≤ 99) : fX0_countTogether (nI a) (nI b) (nI d) h = some (nI (tgt σ a b d (σ 0 2))) := by
  have hW := lW S
  have hN := lN14 S
  have hl : lp (fun s => fX0_countTogether_b6 (nI a) (nI b) (nI d) h s.1 s.2) FUEL (0, 0) = some (nI (tgt σ a b d (σ 0 2))) := by
    refine lp_F (g := fun i => (nI (tgt σ a b d i), nI i)) (σ 0 2) _ rfl (by omega) ?_ ?_
    · intro i hi
      have hi' : ¬ σ 0 2 ≤ i := by omega
      have hb2 := b10 S hi
      have hlt : bt (btw σ ((σ 9 i : Int) - d) ((σ 9 i : Int) + d)) (σ 10) (σ 0 2) < 2 ^ 14 := bt_lt (fun w hw => by have := b10 S hw; omega)
      have hn := bt_near (b := b) (d := d) S (σ 9 i)
      show fX0_countTogether_b6 (nI a) (nI b) (nI d) h (nI (tgt σ a b d i)) (nI i) = some (.inl (nI (tgt σ a b d (i + 1)), nI (i + 1)))
      rw [tgt_s]
      unfold fX0_countTogether_b6
      by_cases z : σ 10 i = a
      · simp (disch := omega) [n_lit, n_eq, n_lt, n_le, n_mul, n_add, n_cl, grd_t, grd_T, su_c, su_s, su_k, wi_in, n_m1', n_m1, cW S, hi', c12 S hi, z, cNear S hi hd]
        simp (disch := omega) [hb, hn]
        cases nearP σ b (σ 9 i) d
        · simp (disch := omega) [n_lit, n_eq, n_lt, n_le, n_mul, n_add, n_cl, grd_t, grd_T, su_c, su_s, su_k, wi_in, n_m1', n_m1, asI0, b2i, asIn0]
        · simp (disch := omega) [n_lit, n_eq, n_lt, n_le, n_mul, n_add, n_cl, grd_t, grd_T, su_c, su_s, su_k, wi_in, n_m1', n_m1, asI1, b2i, asIn1]
      · simp (disch := omega) [n_lit, n_eq, n_lt, n_le, n_mul, n_add, n_cl, grd_t, grd_T, su_c, su_s, su_k, wi_in, n_m1', n_m1, cW S, hi', c12 S hi, z, b2i, asIn0]
    · show fX0_countTogether_b6 (nI a) (nI b) (nI d) h _ (nI (σ 0 2)) = _
      unfold fX0_countTogether_b6
      simp (disch := omega) [n_lit, n_eq, n_lt, n_le, n_mul, n_add, n_cl, grd_t, grd_T, su_c, su_s, su_k, wi_in, n_m1', n_m1, cW S]
  unfold fX0_countTogether
  rw [hl]
  rfl
theorem mNear (S : Sc h 1 84 σ) (hb : b < σ 0 0) {s : Nat} (hs : s ≤ 29999) (hd : d ≤ 99) : fX9_isNear (nI b) (nI s) (nI d) h = some (nearP σ b s d) := by
  have hW := lW S
  have hN := lN14 S
  have hNow := lNow S
  generalize hm : fi (fun w => decide (σ 10 w = b ∧ σ 9 w ≤ s + d ∧ s ≤ σ 9 w + d)) (σ 0 2) = m
  have m1 : m ≤ σ 0 2 := hm ▸ fi_le _ _
  have m2 : ∀ w, w < m → ¬ (σ 10 w = b ∧ σ 9 w ≤ s + d ∧ s ≤ σ 9 w + d) := fun w hw => by
    have := fi_no (fun w => decide (σ 10 w = b ∧ σ 9 w ≤ s + d ∧ s ≤ σ 9 w + d)) (σ 0 2) w (by rw [hm]; exact hw)
    exact of_decide_eq_false this
  have m3 : m < σ 0 2 → (σ 10 m = b ∧ σ 9 m ≤ s + d ∧ s ≤ σ 9 m + d) := fun hw => by
    have := fi_at (fun w => decide (σ 10 w = b ∧ σ 9 w ≤ s + d ∧ s ≤ σ 9 w + d)) (σ 0 2) (by rw [hm]; exact hw)
    rw [hm] at this
    exact of_decide_eq_true this
  have ein : ∀ v, v ≤ 29999 → ((-nI d ≤ nI v - nI s ∧ nI v - nI s ≤ nI d) ↔ (v ≤ s + d ∧ s ≤ v + d)) := by
    intro v hv
    rw [Int32.le_iff_toInt_le, Int32.le_iff_toInt_le, sub_toInt (by omega) (by omega), neg_toInt (by omega), n_toInt (by omega)]
    omega
  have hl : lp (fun q => fX9_isNear_b3 (nI b) (nI s) (nI d) h q) FUEL 0 = some (if m < σ 0 2 then .inr true else .inl ()) := by
    refine lp_F (g := fun i => nI i) m _ rfl (by omega) ?_ ?_
    · intro i hi
      have hi2 : i < σ 0 2 := by omega
      have hi' : ¬ σ 0 2 ≤ i := by omega
      have hb9 := b9 S hi2
      have hb2 := b10 S hi2
      have hx := m2 i hi
      show fX9_isNear_b3 (nI b) (nI s) (nI d) h (nI i) = _
      unfold fX9_isNear_b3
      by_cases z : σ 10 i = b
      · have hy : ¬ (-nI d ≤ nI (σ 9 i) - nI s ∧ nI (σ 9 i) - nI s ≤ nI d) := by
          rw [ein _ (by omega)]
          exact fun q => hx ⟨z, q⟩
        simp (disch := omega) [n_lit, n_eq, n_lt, n_le, n_mul, n_add, n_cl, grd_t, grd_T, su_c, su_s, su_k, wi_in, n_m1', n_m1, mW S, hi', w1 S hi2, w0 S hi2, z, in_in, hy]
      · simp (disch := omega) [n_lit, n_eq, n_lt, n_le, n_mul, n_add, n_cl, grd_t, grd_T, su_c, su_s, su_k, wi_in, n_m1', n_m1, mW S, hi', w1 S hi2, z]
    · show fX9_isNear_b3 (nI b) (nI s) (nI d) h (nI m) = _
      unfold fX9_isNear_b3
      by_cases z : m < σ 0 2
      · have hi' : ¬ σ 0 2 ≤ m := by omega
        have hb9 := b9 S z
        have hx := m3 z
        have hy : (-nI d ≤ nI (σ 9 m) - nI s ∧ nI (σ 9 m) - nI s ≤ nI d) := (ein _ (by omega)).mpr hx.2
        simp (disch := omega) [n_lit, n_eq, n_lt, n_le, n_mul, n_add, n_cl, grd_t, grd_T, su_c, su_s, su_k, wi_in, n_m1', n_m1, mW S, hi', w1 S z, w0 S z, hx.1, in_in, hy, z]
      · have hi' : σ 0 2 ≤ m := by omega
        simp (disch := omega) [n_lit, n_eq, n_lt, n_le, n_mul, n_add, n_cl, grd_t, grd_T, su_c, su_s, su_k, wi_in, n_m1', n_m1, mW S, hi', z]
  unfold fX9_isNear
  rw [hl]
  unfold nearP
  by_cases z : m < σ 0 2
  · rw [if_pos z, decide_eq_true ⟨m, z, m3 z⟩]
    rfl
  · rw [if_neg z, decide_eq_false]
    · rfl
    · rintro ⟨w, q1, q2⟩
      exact m2 w (by omega) q2
theorem mTog (S : Sc h 1 84 σ) (ha : a < σ 0 0) (hb : b < σ 0 0) (hd : d ≤ 99) : fX9_togetherOf (nI a) (nI b) (nI d) h = some (nI (tgt σ a b d (σ 0 2))) := by
  have hW := lW S
  have hN := lN14 S
  have hNow := lNow S
  have hl : lp (fun s => fX9_togetherOf_b6 (nI a) (nI b) (nI d) h s.1 s.2) FUEL (0, 0) = some (nI (tgt σ a b d (σ 0 2))) := by
    refine lp_F (g := fun i => (nI (tgt σ a b d i), nI i)) (σ 0 2) _ rfl (by omega) ?_ ?_
    · intro i hi
      have hi' : ¬ σ 0 2 ≤ i := by omega
      have hb2 := b10 S hi
      have hb9 := b9 S hi
      show fX9_togetherOf_b6 (nI a) (nI b) (nI d) h (nI (tgt σ a b d i)) (nI i) = some (.inl (nI (tgt σ a b d (i + 1)), nI (i + 1)))
      rw [tgt_s]
      unfold fX9_togetherOf_b6
      by_cases z : σ 10 i = a
      · simp (disch := omega) [n_lit, n_eq, n_lt, n_le, n_mul, n_add, n_cl, grd_t, grd_T, su_c, su_s, su_k, wi_in, n_m1', n_m1, mW S, hi', w1 S hi, w0 S hi, z, mNear S hb (show σ 9 i ≤ 29999 by omega) hd]
        cases nearP σ b (σ 9 i) d
        · simp
        · simp
      · simp (disch := omega) [n_lit, n_eq, n_lt, n_le, n_mul, n_add, n_cl, grd_t, grd_T, su_c, su_s, su_k, wi_in, n_m1', n_m1, mW S, hi', w1 S hi, z]
    · show fX9_togetherOf_b6 (nI a) (nI b) (nI d) h _ (nI (σ 0 2)) = _
      unfold fX9_togetherOf_b6
      simp (disch := omega) [n_lit, n_eq, n_lt, n_le, n_mul, n_add, n_cl, grd_t, grd_T, su_c, su_s, su_k, wi_in, n_m1', n_m1, mW S]
  unfold fX9_togetherOf
  rw [hl]
  rfl
end TOG
theorem cSpan (x : Int32) (h : Sto) : fX8_isSpan x h = some (decide (nI 0 ≤ x ∧ x ≤ nI 99)) := by
  unfold fX8_isSpan
  rw [wi_in]
  rfl
theorem st_together (a b c : Int32) (h : Sto) (I : Inv h) : Agr (fX8_together a b c) (fX9_together a b c) h := by
  obtain ⟨σ, S⟩ := I.1
  have hN := lN14 S
  have ein : ∀ h', fX9_in c.toInt64 0 99 h' = some (decide (nI 0 ≤ c ∧ c ≤ nI 99)) := fun h' => in_n c 0 99 (by omega) (by omega) h'
  by_cases h1 : (nI 0 ≤ a ∧ a ≤ lI (σ 0 0)) ∧ (nI 0 ≤ b ∧ b ≤ lI (σ 0 0)) ∧ ¬ a = b
  · by_cases h2 : nI 0 ≤ c ∧ c ≤ nI 99
    · obtain ⟨i, hi, rfl⟩ := (arg_nm (by omega)).mp h1.1
      obtain ⟨j, hj, rfl⟩ := (arg_nm (by omega)).mp h1.2.1
      obtain ⟨d, rfl, -, hd⟩ := arg_in (by omega) (by omega) h2
      refine agr (nI (tgt σ i j d (σ 0 2))) h h ?_ ?_ I
      · unfold fX8_together
        rw [cTwo S, cSpan, cTog S hi hj hd]
        simp [h1, h2]
      · unfold fX9_together
        rw [mTwo S, ein, mTog S hi hj hd]
        simp [h1, h2]
    · refine ag_f0 I ?_ ?_
      · unfold fX8_together
        rw [cTwo S, cSpan]
        simp [h1, h2]
      · intro h1' e
        subst e
        unfold fX9_together
        rw [mTwo (Sc_find S), ein]
        simp [h1, h2]
  · refine ag_f0 I ?_ ?_
    · unfold fX8_together
      rw [cTwo S]
      simp only [h1, decide_false]
      rfl
    · intro h1' e
      subst e
      unfold fX9_together
      rw [mTwo (Sc_find S)]
      simp only [h1, decide_false]
      rfl
