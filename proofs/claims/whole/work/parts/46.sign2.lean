/-! 46: signs, the rest -/
section SGN2
variable {h : Sto} {σ : Gh} {n : Nat}
theorem ff_b : ∀ W, (ff σ n W).1 ≤ W ∧ (ff σ n W).2 ≤ 99
  | 0 => ⟨Nat.le_refl _, Nat.le_refl _⟩
  | W + 1 => by
    have := ff_b W
    rw [ff_s]
    split
    · exact ⟨by show (ff σ n W).1 + 1 ≤ W + 1; omega, by show min (ff σ n W).2 _ ≤ 99; omega⟩
    · omega
theorem fol_lt (σ : Gh) (w : Nat) : fol σ w ≤ w := la_le _ _
theorem fol_9 (S : Sc h 1 84 σ) {w : Nat} (hw : w < σ 0 2) : σ 9 (fol σ w - 1) ≤ σ 9 w := mono S _ _ (by have := fol_lt σ w; omega) hw
theorem cFoS (S : Sc h 1 84 σ) (hn : n < 14) : lp (fun s => fX5_gatherFollowing_b9 (nI n) h s.1 s.2.1 s.2.2) FUEL (nI 0, nI 99, nI 0) = some (nI (ff σ n (σ 0 2)).1, nI (ff σ n (σ 0 2)).2) := by
  have hW := lW S
  have hN := lN14 S
  have hNow := lNow S
  refine lp_F (g := fun i => (nI (ff σ n i).1, nI (ff σ n i).2, nI i)) (σ 0 2) _ rfl (by omega) ?_ ?_
  · intro i hi
    have hi' : ¬ σ 0 2 ≤ i := by omega
    have hb := b9 S hi
    have hb2 := b10 S hi
    have hf := fol_lt σ i
    have hf9 := fol_9 S hi
    have i1 := ff_b (σ := σ) (n := n) i
    show fX5_gatherFollowing_b9 (nI n) h (nI (ff σ n i).1) (nI (ff σ n i).2) (nI i) = some (.inl (nI (ff σ n (i + 1)).1, nI (ff σ n (i + 1)).2, nI (i + 1)))
    rw [ff_s]
    generalize ff σ n i = p at *
    obtain ⟨c, m⟩ := p
    dsimp only at *
    unfold fX5_gatherFollowing_b9
    by_cases z : σ 10 i = n
    · by_cases y : fol σ i = 0
      · have e0 : lI 0 < nI 0 := by decide
        simp (disch := omega) [n_lit, n_eq, n_lt, n_le, n_mul, n_add, n_cl, grd_t, grd_T, su_c, su_s, su_k, wi_in, n_m1', n_m1, cW S, hi', c12 S hi, c14 S hi, z, y, e0]
      · obtain ⟨v, hv⟩ : ∃ v, fol σ i = v + 1 := ⟨fol σ i - 1, by omega⟩
        rw [hv] at hf9 ⊢
        rw [show v + 1 - 1 = v by omega] at hf9 ⊢
        have hv2 : v < σ 0 2 := by omega
        simp (disch := omega) [n_lit, n_eq, n_lt, n_le, n_mul, n_add, n_cl, grd_t, grd_T, su_c, su_s, su_k, wi_in, n_m1', n_m1, cW S, hi', c12 S hi, c11 S hi, c11 S hv2, c14 S hi, z, hv, lI_s, n_sub, j_min]
    · simp (disch := omega) [n_lit, n_eq, n_lt, n_le, n_mul, n_add, n_cl, grd_t, grd_T, su_c, su_s, su_k, wi_in, n_m1', n_m1, cW S, hi', c12 S hi, z]
  · show fX5_gatherFollowing_b9 (nI n) h _ _ (nI (σ 0 2)) = _
    unfold fX5_gatherFollowing_b9
    simp (disch := omega) [n_lit, n_eq, n_lt, n_le, n_mul, n_add, n_cl, grd_t, grd_T, su_c, su_s, su_k, wi_in, n_m1', n_m1, cW S]
theorem mFoS (S : Sc h 1 84 σ) (hn : n < 14) (x2 : Int32) : lp (fun s => fX9_followOf_b9 (nI n) x2 h s.1 s.2.1 s.2.2) FUEL (nI 0, nI 99, nI 0) = some (nI (ff σ n (σ 0 2)).1, nI (ff σ n (σ 0 2)).2) := by
  have hW := lW S
  have hN := lN14 S
  have hNow := lNow S
  refine lp_F (g := fun i => (nI (ff σ n i).1, nI (ff σ n i).2, nI i)) (σ 0 2) _ rfl (by omega) ?_ ?_
  · intro i hi
    have hi' : ¬ σ 0 2 ≤ i := by omega
    have hb := b9 S hi
    have hb2 := b10 S hi
    have hf := fol_lt σ i
    have hf9 := fol_9 S hi
    have i1 := ff_b (σ := σ) (n := n) i
    have mf := mFol S hi
    show fX9_followOf_b9 (nI n) x2 h (nI (ff σ n i).1) (nI (ff σ n i).2) (nI i) = some (.inl (nI (ff σ n (i + 1)).1, nI (ff σ n (i + 1)).2, nI (i + 1)))
    rw [ff_s]
    generalize ff σ n i = p at *
    obtain ⟨c, m⟩ := p
    dsimp only at *
    have e0 : ¬ nI 0 ≤ lI 0 := by decide
    unfold fX9_followOf_b9
    by_cases z : σ 10 i = n
    · by_cases y : fol σ i = 0
      · rw [y] at mf
        simp (disch := omega) [n_lit, n_eq, n_lt, n_le, n_mul, n_add, n_cl, grd_t, grd_T, su_c, su_s, su_k, wi_in, n_m1', n_m1, mW S, hi', w1 S hi, z, y, mf, e0]
      · obtain ⟨v, hv⟩ : ∃ v, fol σ i = v + 1 := ⟨fol σ i - 1, by omega⟩
        rw [hv] at hf9 mf ⊢
        rw [show v + 1 - 1 = v by omega] at hf9 ⊢
        rw [lI_s] at mf
        have hv2 : v < σ 0 2 := by omega
        by_cases q : m ≤ σ 9 i - σ 9 v
        · have e9 : min m (σ 9 i - σ 9 v) = m := by omega
          simp (disch := omega) [n_lit, n_eq, n_lt, n_le, n_mul, n_add, n_cl, grd_t, grd_T, su_c, su_s, su_k, wi_in, n_m1', n_m1, mW S, hi', w1 S hi, w0 S hi, w0 S hv2, mf, z, n_sub, e9, q]
        · have e9 : min m (σ 9 i - σ 9 v) = σ 9 i - σ 9 v := by omega
          simp (disch := omega) [n_lit, n_eq, n_lt, n_le, n_mul, n_add, n_cl, grd_t, grd_T, su_c, su_s, su_k, wi_in, n_m1', n_m1, mW S, hi', w1 S hi, w0 S hi, w0 S hv2, mf, z, n_sub, e9, q]
    · simp (disch := omega) [n_lit, n_eq, n_lt, n_le, n_mul, n_add, n_cl, grd_t, grd_T, su_c, su_s, su_k, wi_in, n_m1', n_m1, mW S, hi', w1 S hi, z, e0]
  · show fX9_followOf_b9 (nI n) x2 h _ _ (nI (σ 0 2)) = _
    unfold fX9_followOf_b9
    simp (disch := omega) [n_lit, n_eq, n_lt, n_le, n_mul, n_add, n_cl, grd_t, grd_T, su_c, su_s, su_k, wi_in, n_m1', n_m1, mW S]
theorem tps_lt (S : Sc h 1 84 σ) : ∀ W, W ≤ σ 0 2 → bt (fun w => decide (σ 10 w = n)) (σ 11) W < 1024 := fun W hW => bt_lt (k := 10) (fun w hw => by have := b11 S (show w < σ 0 2 by omega); omega)
theorem bt_s (p : Nat → Bool) (f : Nat → Nat) (W : Nat) : bt p f (W + 1) = if p W then bt p f W ||| 2 ^ f W else bt p f W := rfl
theorem cTpS (S : Sc h 1 84 σ) (hn : n < 14) : fX5_countTopics (nI n) h = some (nI (pcN (tps σ n))) := by
  have hW := lW S
  have hN := lN14 S
  have hl : lp (fun s => fX5_countTopics_b4 (nI n) h s.1 s.2) FUEL (0, 0) = some (nI (tps σ n)) := by
    refine lp_F (g := fun i => (nI (bt (fun w => decide (σ 10 w = n)) (σ 11) i), nI i)) (σ 0 2) _ rfl (by omega) ?_ ?_
    · intro i hi
      have hi' : ¬ σ 0 2 ≤ i := by omega
      have hb2 := b10 S hi
      have hb3 := b11 S hi
      show fX5_countTopics_b4 (nI n) h (nI (bt (fun w => decide (σ 10 w = n)) (σ 11) i)) (nI i) = some (.inl (nI (bt (fun w => decide (σ 10 w = n)) (σ 11) (i + 1)), nI (i + 1)))
      rw [bt_s]
      unfold fX5_countTopics_b4
      by_cases z : σ 10 i = n
      · simp (disch := omega) [n_lit, n_eq, n_lt, n_le, n_mul, n_add, n_cl, grd_t, grd_T, su_c, su_s, su_k, wi_in, n_m1', n_m1, cW S, hi', c12 S hi, c13 S hi, z, n_shl, n_or]
      · simp (disch := omega) [n_lit, n_eq, n_lt, n_le, n_mul, n_add, n_cl, grd_t, grd_T, su_c, su_s, su_k, wi_in, n_m1', n_m1, cW S, hi', c12 S hi, z]
    · show fX5_countTopics_b4 (nI n) h _ (nI (σ 0 2)) = _
      unfold fX5_countTopics_b4
      simp (disch := omega) [n_lit, n_eq, n_lt, n_le, n_mul, n_add, n_cl, grd_t, grd_T, su_c, su_s, su_k, wi_in, n_m1', n_m1, cW S]
      rfl
  unfold fX5_countTopics
  rw [hl]
  have ht : tps σ n < 1024 := tps_lt S (σ 0 2) (Nat.le_refl _)
  rw [Option.bind_some, bc (by omega)]
  rfl
theorem mTpS (S : Sc h 1 84 σ) (hn : n < 14) : lp (fun s => fX9_signOf_b94 (nI n) h s.1 s.2) FUEL (0, 0) = some (nI (tps σ n)) := by
  have hW := lW S
  have hN := lN14 S
  refine lp_F (g := fun i => (nI (bt (fun w => decide (σ 10 w = n)) (σ 11) i), nI i)) (σ 0 2) _ rfl (by omega) ?_ ?_
  · intro i hi
    have hi' : ¬ σ 0 2 ≤ i := by omega
    have hb2 := b10 S hi
    have hb3 := b11 S hi
    show fX9_signOf_b94 (nI n) h (nI (bt (fun w => decide (σ 10 w = n)) (σ 11) i)) (nI i) = some (.inl (nI (bt (fun w => decide (σ 10 w = n)) (σ 11) (i + 1)), nI (i + 1)))
    rw [bt_s]
    unfold fX9_signOf_b94
    by_cases z : σ 10 i = n
    · simp (disch := omega) [n_lit, n_eq, n_lt, n_le, n_mul, n_add, n_cl, grd_t, grd_T, su_c, su_s, su_k, wi_in, n_m1', n_m1, mW S, hi', w1 S hi, w2 S hi, z, n_shl, n_or]
    · simp (disch := omega) [n_lit, n_eq, n_lt, n_le, n_mul, n_add, n_cl, grd_t, grd_T, su_c, su_s, su_k, wi_in, n_m1', n_m1, mW S, hi', w1 S hi, z, n_or]
  · show fX9_signOf_b94 (nI n) h _ (nI (σ 0 2)) = _
    unfold fX9_signOf_b94
    simp (disch := omega) [n_lit, n_eq, n_lt, n_le, n_mul, n_add, n_cl, grd_t, grd_T, su_c, su_s, su_k, wi_in, n_m1', n_m1, mW S]
    rfl
def sgn (σ : Gh) (n k : Nat) : Nat := if k = 0 then cnt σ n (σ 0 2) else if k = 1 then gpI σ n else if k = 2 then gpM σ n else if k = 3 then pcN (hs σ n (σ 0 2)) else if k = 4 then (ff σ n (σ 0 2)).1 else if k = 5 then (ff σ n (σ 0 2)).2 else if k = 6 then pcN (tps σ n) else n
theorem Sc_63 {h' : Sto} (S : Sc h 1 84 σ) (e : ∀ c, c ≠ 63 → h' c = h c) : Sc h' 1 84 σ :=
  Sc_congr (by rw [e _ (by omega)]) (fun j h1 h2 h3 => e _ (by omega)) (e _ (by omega)) (fun j _ => by rw [e 84 (by omega)]) S
theorem Inv_63 {h' : Sto} (I : Inv h) (e : ∀ c, c ≠ 63 → h' c = h c) : Inv h' :=
  Inv_congr (fun c h1 h2 => e c (by omega)) (by rw [e _ (by omega)]) (by rw [e _ (by omega)]) (fun c hc => e c (by omega)) I
theorem cGath (S : Sc h 1 84 σ) (hn : n < 14) : ∃ H, fX5_gather (nI n) h = some H ∧ (∀ c, c ≠ 63 → H c = h c) ∧ ∀ k, k ≤ 7 → H 63 k = nI (sgn σ n k) := by
  have hW := lW S
  have hG := cGap S hn
  obtain ⟨g1, g2, g3, g4, g5, -⟩ := gp_b (n := n) S (σ 0 2) (Nat.le_refl _)
  have hL := hs_lt σ n (σ 0 2)
  -- the gaps
  have eG : fX5_gatherGaps (nI n) h = some (su (su (su h 63 0 (nI (sgn σ n 0))) 63 1 (nI (sgn σ n 1))) 63 2 (nI (sgn σ n 2))) := by
    unfold fX5_gatherGaps
    rw [show ((0 : Int32), (0 : Int32), (29999 : Int32), (0 : Int32), (0 : Int32)) = (nI 0, nI 0, nI 29999, nI 0, nI 0) from rfl, hG]
    unfold sgn gpI gpM
    rw [← g1]
    generalize gp σ n (σ 0 2) = p at *
    obtain ⟨c, g, m, l⟩ := p
    dsimp only at *
    by_cases z : 2 ≤ c
    · simp (disch := omega) [n_lit, n_eq, n_lt, n_le, n_mul, n_add, n_cl, grd_t, grd_T, su_c, su_s, su_k, wi_in, n_m1', n_m1, z, n_sub, ccut]
    · simp (disch := omega) [n_lit, n_eq, n_lt, n_le, n_mul, n_add, n_cl, grd_t, grd_T, su_c, su_s, su_k, wi_in, n_m1', n_m1, z]
  refine ⟨su (su (su (su (su (su (su (su h 63 0 (nI (sgn σ n 0))) 63 1 (nI (sgn σ n 1))) 63 2 (nI (sgn σ n 2))) 63 4 (nI (sgn σ n 4))) 63 5 (nI (sgn σ n 5))) 63 3 (nI (sgn σ n 3))) 63 6 (nI (sgn σ n 6))) 63 7 (nI (sgn σ n 7)), ?_, ?_, ?_⟩
  · have S1 : Sc (su (su (su h 63 0 (nI (sgn σ n 0))) 63 1 (nI (sgn σ n 1))) 63 2 (nI (sgn σ n 2))) 1 84 σ := Sc_63 S (fun c hc => by simp (disch := omega) [su_c])
    have eF : fX5_gatherFollowing (nI n) (su (su (su h 63 0 (nI (sgn σ n 0))) 63 1 (nI (sgn σ n 1))) 63 2 (nI (sgn σ n 2))) = some (su (su (su (su (su h 63 0 (nI (sgn σ n 0))) 63 1 (nI (sgn σ n 1))) 63 2 (nI (sgn σ n 2))) 63 4 (nI (sgn σ n 4))) 63 5 (nI (sgn σ n 5))) := by
      unfold fX5_gatherFollowing
      rw [show ((0 : Int32), (99 : Int32), (0 : Int32)) = (nI 0, nI 99, nI 0) from rfl, cFoS S1 hn]
      rfl
    have S2 : Sc (su (su (su (su (su h 63 0 (nI (sgn σ n 0))) 63 1 (nI (sgn σ n 1))) 63 2 (nI (sgn σ n 2))) 63 4 (nI (sgn σ n 4))) 63 5 (nI (sgn σ n 5))) 1 84 σ := Sc_63 S1 (fun c hc => by simp (disch := omega) [su_c])
    have S3 : Sc (su (su (su (su (su (su h 63 0 (nI (sgn σ n 0))) 63 1 (nI (sgn σ n 1))) 63 2 (nI (sgn σ n 2))) 63 4 (nI (sgn σ n 4))) 63 5 (nI (sgn σ n 5))) 63 3 (nI (sgn σ n 3))) 1 84 σ := Sc_63 S2 (fun c hc => by simp (disch := omega) [su_c])
    unfold fX5_gather
    rw [eG, Option.bind_some, eF, Option.bind_some, cHs S2 n hn, Option.bind_some, bc (by omega), Option.bind_some, Option.bind_some]
    rw [show pcN (hs σ n (σ 0 2)) = sgn σ n 3 from rfl, cTpS S3 hn]
    rfl
  · intro c hc
    simp (disch := omega) [su_c]
  · intro k hk
    rcases (show k = 0 ∨ k = 1 ∨ k = 2 ∨ k = 3 ∨ k = 4 ∨ k = 5 ∨ k = 6 ∨ k = 7 by omega) with rfl | rfl | rfl | rfl | rfl | rfl | rfl | rfl <;> simp (disch := omega) [su_c, su_s, su_k]
theorem mSgn (S : Sc h 1 84 σ) (hn : n < 14) (k : Nat) (hk : k ≤ 6) : fX9_signOf (nI n) (nI k) h = some (nI (sgn σ n k)) := by
  have hW := lW S
  obtain ⟨g1, g2, g3, g4, g5, -⟩ := gp_b (n := n) S (σ 0 2) (Nat.le_refl _)
  have hL := hs_lt σ n (σ 0 2)
  have ht : tps σ n < 1024 := tps_lt S (σ 0 2) (Nat.le_refl _)
  have eG : ∀ b, fX9_gapOf (nI n) (b2i b) h = some (nI (if b then gpM σ n else gpI σ n)) := by
    intro b
    unfold fX9_gapOf
    rw [show ((0 : Int32), (0 : Int32), (0 : Int32), (-1 : Int32), (0 : Int32)) = (nI 0, nI 0, nI 0, lI 0, nI 0) from rfl, mGap S hn]
    unfold gpI gpM
    generalize gp σ n (σ 0 2) = p at *
    obtain ⟨c, g, m, l⟩ := p
    dsimp only at *
    by_cases z : 2 ≤ c
    · have z' : ¬ c - 1 = 0 := by omega
      cases b
      · simp (disch := omega) [n_lit, n_eq, n_lt, n_le, n_mul, n_add, n_cl, grd_t, grd_T, su_c, su_s, su_k, wi_in, n_m1', n_m1, z, z', n_div, b2i]
      · simp (disch := omega) [n_lit, n_eq, n_lt, n_le, n_mul, n_add, n_cl, grd_t, grd_T, su_c, su_s, su_k, wi_in, n_m1', n_m1, z, z', n_div, b2i]
    · have z' : c - 1 = 0 := by omega
      cases b
      · simp (disch := omega) [n_lit, n_eq, n_lt, n_le, n_mul, n_add, n_cl, grd_t, grd_T, su_c, su_s, su_k, wi_in, n_m1', n_m1, z, z', b2i]
      · simp (disch := omega) [n_lit, n_eq, n_lt, n_le, n_mul, n_add, n_cl, grd_t, grd_T, su_c, su_s, su_k, wi_in, n_m1', n_m1, z, z', b2i]
  have eF : ∀ b, fX9_followOf (nI n) (b2i b) h = some (nI (if b then (ff σ n (σ 0 2)).2 else (ff σ n (σ 0 2)).1)) := by
    intro b
    unfold fX9_followOf
    rw [show ((0 : Int32), (99 : Int32), (0 : Int32)) = (nI 0, nI 99, nI 0) from rfl, mFoS S hn]
    cases b <;> rfl
  rcases (show k = 0 ∨ k = 1 ∨ k = 2 ∨ k = 3 ∨ k = 4 ∨ k = 5 ∨ k = 6 by omega) with rfl | rfl | rfl | rfl | rfl | rfl | rfl
  · show (fX9_wordsOf (nI n) h).bind (fun q => some q) = _
    rw [mCnt S n hn]
    rfl
  · show (fX9_gapOf (nI n) (b2i false) h).bind (fun q => some q) = _
    rw [eG]
    rfl
  · show (fX9_gapOf (nI n) (b2i true) h).bind (fun q => some q) = _
    rw [eG]
    rfl
  · show (fX9_hoursOf (nI n) h).bind (fun q => (fX9_many q h).bind (fun q => some q)) = _
    rw [mHs S n hn, Option.bind_some, mmany (show hs σ n (σ 0 2) < 2147483648 by omega) h]
    rfl
  · show (fX9_followOf (nI n) (b2i false) h).bind (fun q => some q) = _
    rw [eF]
    rfl
  · show (fX9_followOf (nI n) (b2i true) h).bind (fun q => some q) = _
    rw [eF]
    rfl
  · show (lp (fun s => fX9_signOf_b94 (nI n) h s.1 s.2) FUEL (0, 0)).bind (fun q => (fX9_many q h).bind (fun q => some q)) = _
    rw [mTpS S hn, Option.bind_some, mmany (show tps σ n < 2147483648 by omega) h]
    rfl
end SGN2
theorem st_sign (a b : Int32) (h : Sto) (I : Inv h) : Agr (fX8_sign a b) (fX9_sign a b) h := by
  obtain ⟨σ, S⟩ := I.1
  have hN := lN14 S
  have ein : ∀ h', fX9_in b.toInt64 0 6 h' = some (decide (nI 0 ≤ b ∧ b ≤ nI 6)) := fun h' => in_n b 0 6 (by omega) (by omega) h'
  by_cases h1 : nI 0 ≤ a ∧ a ≤ lI (σ 0 0)
  · by_cases h2 : nI 0 ≤ b ∧ b ≤ nI 6
    · obtain ⟨n, hn, rfl⟩ := (arg_nm (by omega)).mp h1
      obtain ⟨k, rfl, -, hk⟩ := arg_in (by omega) (by omega) h2
      obtain ⟨H, e1, e2, e3⟩ := cGath S (show n < 14 by omega)
      have S2 := Sc_63 S e2
      refine agr (nI (sgn σ n k)) H H ?_ ?_ (Inv_63 I e2)
      · unfold fX8_sign
        rw [cHas S, wi_in, e1]
        simp (disch := omega) [n_lit, n_eq, n_lt, n_le, n_mul, n_add, n_cl, grd_t, grd_T, su_c, su_s, su_k, wi_in, n_m1', n_m1, h1, h2, e3 k]
      · unfold fX9_sign
        rw [mHas S2, ein, mSgn S2 (by omega) k hk]
        simp [h1, h2]
    · refine ag_f0 I ?_ ?_
      · unfold fX8_sign
        rw [cHas S, wi_in]
        simp [n_lit, h1, h2]
      · intro h1' e
        subst e
        unfold fX9_sign
        rw [mHas (Sc_find S), ein]
        simp [h1, h2]
  · refine ag_f0 I ?_ ?_
    · unfold fX8_sign
      rw [cHas S]
      simp [h1]
    · intro h1' e
      subst e
      unfold fX9_sign
      rw [mHas (Sc_find S)]
      simp [h1]
