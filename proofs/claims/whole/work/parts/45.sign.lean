/-! 45: signs -/
def gp (σ : Gh) (n : Nat) : Nat → Nat × Nat × Nat × Nat := fo (fun w a => if σ 10 w = n then (if a.1 = 0 then (1, a.2.1, a.2.2.1, σ 9 w) else (a.1 + 1, a.2.1 + (σ 9 w - a.2.2.2), min a.2.2.1 (σ 9 w - a.2.2.2), σ 9 w)) else a) (0, 0, 29999, 0)
theorem gp_s (σ : Gh) (n W : Nat) : gp σ n (W + 1) = if σ 10 W = n then (if (gp σ n W).1 = 0 then (1, (gp σ n W).2.1, (gp σ n W).2.2.1, σ 9 W) else ((gp σ n W).1 + 1, (gp σ n W).2.1 + (σ 9 W - (gp σ n W).2.2.2), min (gp σ n W).2.2.1 (σ 9 W - (gp σ n W).2.2.2), σ 9 W)) else gp σ n W := rfl
def ff (σ : Gh) (n : Nat) : Nat → Nat × Nat := fo (fun w a => if σ 10 w = n ∧ 0 < fol σ w then (a.1 + 1, min a.2 (σ 9 w - σ 9 (fol σ w - 1))) else a) (0, 99)
theorem ff_s (σ : Gh) (n W : Nat) : ff σ n (W + 1) = if σ 10 W = n ∧ 0 < fol σ W then ((ff σ n W).1 + 1, min (ff σ n W).2 (σ 9 W - σ 9 (fol σ W - 1))) else ff σ n W := rfl
def tps (σ : Gh) (n : Nat) : Nat := bt (fun w => decide (σ 10 w = n)) (σ 11) (σ 0 2)
def gpI (σ : Gh) (n : Nat) : Nat := if 2 ≤ (gp σ n (σ 0 2)).1 then (gp σ n (σ 0 2)).2.1 / ((gp σ n (σ 0 2)).1 - 1) else 0
def gpM (σ : Gh) (n : Nat) : Nat := if 2 ≤ (gp σ n (σ 0 2)).1 then (gp σ n (σ 0 2)).2.2.1 else 0
section SGN
variable {h : Sto} {σ : Gh} {n : Nat}
theorem gp_b (S : Sc h 1 84 σ) : ∀ W, W ≤ σ 0 2 → (gp σ n W).1 = cnt σ n W ∧ (gp σ n W).1 ≤ W ∧ (gp σ n W).2.1 ≤ (gp σ n W).2.2.2 ∧ (gp σ n W).2.2.1 ≤ 29999 ∧ (gp σ n W).2.2.2 ≤ 29999 ∧ ((gp σ n W).1 = 0 → (gp σ n W).2.1 = 0 ∧ (gp σ n W).2.2.1 = 29999) ∧ ((gp σ n W).1 = 1 → (gp σ n W).2.1 = 0 ∧ (gp σ n W).2.2.1 = 29999) ∧ (∀ w, W ≤ w → w < σ 0 2 → (gp σ n W).2.2.2 ≤ σ 9 w)
  | 0, _ => ⟨rfl, Nat.le_refl _, Nat.le_refl _, Nat.le_refl _, by show 0 ≤ 29999; omega, fun _ => ⟨rfl, rfl⟩, fun q => absurd q (by show ¬ 0 = 1; omega), fun w _ _ => Nat.zero_le _⟩
  | W + 1, hW => by
    obtain ⟨i1, i2, i3, i4, i5, i6, i7, i8⟩ := gp_b S W (by omega)
    have hNow := lNow S
    have hb := b9 S (show W < σ 0 2 by omega)
    have h8 := i8 W (Nat.le_refl _) (by omega)
    have hc : cnt σ n (W + 1) = cnt σ n W + (if σ 10 W = n then 1 else 0) := rfl
    rw [gp_s, hc]
    by_cases z : σ 10 W = n
    · by_cases y : (gp σ n W).1 = 0
      · have := i6 y
        rw [if_pos z, if_pos y, if_pos z]
        refine ⟨by show 1 = _; omega, by show 1 ≤ W + 1; omega, by show (gp σ n W).2.1 ≤ σ 9 W; omega, i4, by show σ 9 W ≤ 29999; omega, fun q => absurd q (by show ¬ 1 = 0; omega), fun _ => this, fun w h1 h2 => ?_⟩
        exact mono S W w (by omega) h2
      · rw [if_pos z, if_neg y, if_pos z]
        refine ⟨by show (gp σ n W).1 + 1 = _; omega, by show (gp σ n W).1 + 1 ≤ W + 1; omega, by show (gp σ n W).2.1 + (σ 9 W - (gp σ n W).2.2.2) ≤ σ 9 W; omega, by show min (gp σ n W).2.2.1 (σ 9 W - (gp σ n W).2.2.2) ≤ 29999; omega, by show σ 9 W ≤ 29999; omega, fun q => absurd q (by show ¬ (gp σ n W).1 + 1 = 0; omega), fun q => ?_, fun w h1 h2 => ?_⟩
        · have : (gp σ n W).1 + 1 = 1 := q
          omega
        · exact mono S W w (by omega) h2
    · rw [if_neg z, if_neg z]
      exact ⟨by omega, by omega, i3, i4, i5, i6, i7, fun w h1 h2 => i8 w (by omega) h2⟩
theorem cGap (S : Sc h 1 84 σ) (hn : n < 14) : lp (fun s => fX5_gatherGaps_b16 (nI n) h s.1 s.2.1 s.2.2.1 s.2.2.2.1 s.2.2.2.2) FUEL (nI 0, nI 0, nI 29999, nI 0, nI 0) = some (nI (gp σ n (σ 0 2)).1, nI (gp σ n (σ 0 2)).2.1, nI (gp σ n (σ 0 2)).2.2.1) := by
  have hW := lW S
  have hN := lN14 S
  have hNow := lNow S
  refine lp_F (g := fun i => (nI (gp σ n i).1, nI (gp σ n i).2.1, nI (gp σ n i).2.2.1, nI (gp σ n i).2.2.2, nI i)) (σ 0 2) _ rfl (by omega) ?_ ?_
  · intro i hi
    have hi' : ¬ σ 0 2 ≤ i := by omega
    have hb := b9 S hi
    have hb2 := b10 S hi
    obtain ⟨i1, i2, i3, i4, i5, i6, i7, i8⟩ := gp_b (n := n) S i (by omega)
    have h8 := i8 i (Nat.le_refl _) hi
    show fX5_gatherGaps_b16 (nI n) h (nI (gp σ n i).1) (nI (gp σ n i).2.1) (nI (gp σ n i).2.2.1) (nI (gp σ n i).2.2.2) (nI i) = some (.inl (nI (gp σ n (i + 1)).1, nI (gp σ n (i + 1)).2.1, nI (gp σ n (i + 1)).2.2.1, nI (gp σ n (i + 1)).2.2.2, nI (i + 1)))
    rw [gp_s]
    generalize gp σ n i = p at *
    obtain ⟨c, g, m, l⟩ := p
    dsimp only at *
    unfold fX5_gatherGaps_b16
    by_cases z : σ 10 i = n
    · by_cases y : c = 0
      · simp (disch := omega) [n_lit, n_eq, n_lt, n_le, n_mul, n_add, n_cl, grd_t, grd_T, su_c, su_s, su_k, wi_in, n_m1', n_m1, cW S, hi', c12 S hi, c11 S hi, z, y]
      · have y' : ¬ c ≤ 0 := by omega
        simp (disch := omega) [n_lit, n_eq, n_lt, n_le, n_mul, n_add, n_cl, grd_t, grd_T, su_c, su_s, su_k, wi_in, n_m1', n_m1, cW S, hi', c12 S hi, c11 S hi, z, y, y', n_sub, j_min]
    · simp (disch := omega) [n_lit, n_eq, n_lt, n_le, n_mul, n_add, n_cl, grd_t, grd_T, su_c, su_s, su_k, wi_in, n_m1', n_m1, cW S, hi', c12 S hi, z]
  · show fX5_gatherGaps_b16 (nI n) h _ _ _ _ (nI (σ 0 2)) = _
    unfold fX5_gatherGaps_b16
    simp (disch := omega) [n_lit, n_eq, n_lt, n_le, n_mul, n_add, n_cl, grd_t, grd_T, su_c, su_s, su_k, wi_in, n_m1', n_m1, cW S]
theorem mGap (S : Sc h 1 84 σ) (hn : n < 14) (x2 : Int32) : lp (fun s => fX9_gapOf_b14 (nI n) x2 h s.1 s.2.1 s.2.2.1 s.2.2.2.1 s.2.2.2.2) FUEL (nI 0, nI 0, nI 0, lI 0, nI 0) = some (nI (gp σ n (σ 0 2)).2.1, nI ((gp σ n (σ 0 2)).1 - 1), nI (gpM σ n)) := by
  have hW := lW S
  have hN := lN14 S
  have hNow := lNow S
  refine lp_F (g := fun i => (nI (gp σ n i).2.1, nI ((gp σ n i).1 - 1), nI (if 2 ≤ (gp σ n i).1 then (gp σ n i).2.2.1 else 0), lI (if (gp σ n i).1 = 0 then 0 else (gp σ n i).2.2.2 + 1), nI i)) (σ 0 2) _ rfl (by omega) ?_ ?_
  · intro i hi
    have hi' : ¬ σ 0 2 ≤ i := by omega
    have hb := b9 S hi
    have hb2 := b10 S hi
    obtain ⟨i1, i2, i3, i4, i5, i6, i7, i8⟩ := gp_b (n := n) S i (by omega)
    have h8 := i8 i (Nat.le_refl _) hi
    show fX9_gapOf_b14 (nI n) x2 h (nI (gp σ n i).2.1) (nI ((gp σ n i).1 - 1)) (nI (if 2 ≤ (gp σ n i).1 then (gp σ n i).2.2.1 else 0)) (lI (if (gp σ n i).1 = 0 then 0 else (gp σ n i).2.2.2 + 1)) (nI i) = some (.inl (nI (gp σ n (i + 1)).2.1, nI ((gp σ n (i + 1)).1 - 1), nI (if 2 ≤ (gp σ n (i + 1)).1 then (gp σ n (i + 1)).2.2.1 else 0), lI (if (gp σ n (i + 1)).1 = 0 then 0 else (gp σ n (i + 1)).2.2.2 + 1), nI (i + 1)))
    rw [gp_s]
    generalize gp σ n i = p at *
    obtain ⟨c, g, m, l⟩ := p
    dsimp only at *
    unfold fX9_gapOf_b14
    by_cases z : σ 10 i = n
    · by_cases y : c = 0
      · subst y
        have e0 : lI 0 < nI 0 := by decide
        simp (disch := omega) [n_lit, n_eq, n_lt, n_le, n_mul, n_add, n_cl, grd_t, grd_T, su_c, su_s, su_k, wi_in, n_m1', n_m1, mW S, hi', w1 S hi, w0 S hi, z, e0, lI_s]
      · by_cases y1 : c = 1
        · have i7 := i7 y1
          subst y1
          have e9 : min m (σ 9 i - l) = σ 9 i - l := by omega
          simp (disch := omega) [n_lit, n_eq, n_lt, n_le, n_mul, n_add, n_cl, grd_t, grd_T, su_c, su_s, su_k, wi_in, n_m1', n_m1, mW S, hi', w1 S hi, w0 S hi, z, lI_s, n_sub, e9]
        · have y2 : 2 ≤ c := by omega
          have y3 : ¬ c - 1 = 0 := by omega
          have y4 : 2 ≤ c + 1 := by omega
          have y5 : c - 1 + 1 = c := by omega
          by_cases q : m ≤ σ 9 i - l
          · have e9 : min m (σ 9 i - l) = m := by omega
            simp (disch := omega) [n_lit, n_eq, n_lt, n_le, n_mul, n_add, n_cl, grd_t, grd_T, su_c, su_s, su_k, wi_in, n_m1', n_m1, mW S, hi', w1 S hi, w0 S hi, z, y, y2, y3, y4, y5, lI_s, n_sub, e9, q]
          · have e9 : min m (σ 9 i - l) = σ 9 i - l := by omega
            simp (disch := omega) [n_lit, n_eq, n_lt, n_le, n_mul, n_add, n_cl, grd_t, grd_T, su_c, su_s, su_k, wi_in, n_m1', n_m1, mW S, hi', w1 S hi, w0 S hi, z, y, y2, y3, y4, y5, lI_s, n_sub, e9, q]
    · simp (disch := omega) [n_lit, n_eq, n_lt, n_le, n_mul, n_add, n_cl, grd_t, grd_T, su_c, su_s, su_k, wi_in, n_m1', n_m1, mW S, hi', w1 S hi, z]
  · show fX9_gapOf_b14 (nI n) x2 h _ _ _ _ (nI (σ 0 2)) = _
    unfold fX9_gapOf_b14 gpM
    simp (disch := omega) [n_lit, n_eq, n_lt, n_le, n_mul, n_add, n_cl, grd_t, grd_T, su_c, su_s, su_k, wi_in, n_m1', n_m1, mW S]
end SGN
