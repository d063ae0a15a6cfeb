/-! 31: words: counts, hours, the first one -/
theorem asIn0 (h : Sto) : fX8_asInt (nI 0) h = some (nI 0) := rfl
theorem asIn1 (h : Sto) : fX8_asInt (nI 1) h = some (nI 1) := rfl
section WD
variable {h : Sto} {σ : Gh} {w : Nat}
theorem c11 (S : Sc h 1 84 σ) (hw : w < σ 0 2) : h 11 w = nI (σ 9 w) := (S.2.2.2.1.1 w hw).1.1
theorem c12 (S : Sc h 1 84 σ) (hw : w < σ 0 2) : h 12 w = nI (σ 10 w) := (S.2.2.2.1.1 w hw).2.1.1
theorem c13 (S : Sc h 1 84 σ) (hw : w < σ 0 2) : h 13 w = nI (σ 11 w) := (S.2.2.2.1.1 w hw).2.2.1.1
theorem c14 (S : Sc h 1 84 σ) (hw : w < σ 0 2) : h 14 w = lI (fol σ w) := (S.2.2.2.1.1 w hw).2.2.2
theorem b9 (S : Sc h 1 84 σ) (hw : w < σ 0 2) : σ 9 w ≤ σ 0 1 := (S.2.2.2.1.1 w hw).1.2.2
theorem b10 (S : Sc h 1 84 σ) (hw : w < σ 0 2) : σ 10 w < σ 0 0 := (S.2.2.2.1.1 w hw).2.1.2.2
theorem b11 (S : Sc h 1 84 σ) (hw : w < σ 0 2) : σ 11 w ≤ 9 := (S.2.2.2.1.1 w hw).2.2.1.2.2
theorem mono (S : Sc h 1 84 σ) : ∀ v w, v ≤ w → w < σ 0 2 → σ 9 v ≤ σ 9 w := S.2.2.2.1.2
theorem w0 (S : Sc h 1 84 σ) (hw : w < σ 0 2) : fX9_word (nI w) (nI 0) h = some (nI (σ 9 w)) := by
  have := lW S
  rw [mWd w 0 (by omega) (by omega), Nat.add_zero, (S.2.2.2.1.1 w hw).1.2.1]
theorem w1 (S : Sc h 1 84 σ) (hw : w < σ 0 2) : fX9_word (nI w) (nI 1) h = some (nI (σ 10 w)) := by
  have := lW S
  rw [mWd w 1 (by omega) (by omega), (S.2.2.2.1.1 w hw).2.1.2.1]
theorem w2 (S : Sc h 1 84 σ) (hw : w < σ 0 2) : fX9_word (nI w) (nI 2) h = some (nI (σ 11 w)) := by
  have := lW S
  rw [mWd w 2 (by omega) (by omega), (S.2.2.2.1.1 w hw).2.2.1.2.1]
theorem hO_c {s : Nat} (hs : s < 2147483648) (h : Sto) : fX8_hourOf (nI s) h = some (nI (hrN s)) := by
  unfold fX8_hourOf
  have : s / 100 < 2147483648 := by omega
  simp (disch := omega) [n_lit, n_div, n_rem, hrN]
theorem hO_m {s : Nat} (hs : s < 2147483648) (h : Sto) : fX9_hourOf (nI s) h = some (nI (hrN s)) := by
  unfold fX9_hourOf
  have : s / 100 < 2147483648 := by omega
  simp (disch := omega) [n_lit, n_div, n_rem, hrN]
theorem hrN_lt (s : Nat) : hrN s < 10 := by unfold hrN; omega
-- how many words a name has
def cnt (σ : Gh) (n : Nat) : Nat → Nat := sm (fun w => if σ 10 w = n then 1 else 0)
theorem cnt_le (σ : Gh) (n : Nat) : ∀ W, cnt σ n W ≤ W
  | 0 => Nat.le_refl _
  | W + 1 => by
    have := cnt_le σ n W
    show cnt σ n W + (if σ 10 W = n then 1 else 0) ≤ W + 1
    split <;> omega
theorem cCnt (S : Sc h 1 84 σ) (n : Nat) (hn : n < 14) : fX0_countOf (nI n) h = some (nI (cnt σ n (σ 0 2))) := by
  have hW := lW S
  have hN := lN14 S
  have hl : lp (fun s => fX0_countOf_b4 (nI n) h s.1 s.2) FUEL (0, 0) = some (nI (cnt σ n (σ 0 2))) := by
    refine lp_F (g := fun i => (nI (cnt σ n i), nI i)) (σ 0 2) _ rfl (by omega) ?_ ?_
    · intro i hi
      show fX0_countOf_b4 (nI n) h _ _ = _
      unfold fX0_countOf_b4
      have hi' : ¬ σ 0 2 ≤ i := by omega
      have := b10 S hi
      by_cases e : σ 10 i = n
      · simp (disch := omega) [n_lit, n_eq, n_lt, n_le, n_mul, n_add, n_cl, grd_t, grd_T, su_c, su_s, su_k, wi_in, n_m1', n_m1, cW S, hi', c12 S hi, e, asIn0, asIn1, b2i]
        simp [cnt, sm, e]
      · simp (disch := omega) [n_lit, n_eq, n_lt, n_le, n_mul, n_add, n_cl, grd_t, grd_T, su_c, su_s, su_k, wi_in, n_m1', n_m1, cW S, hi', c12 S hi, e, asIn0, asIn1, b2i]
        simp [cnt, sm, e]
    · show fX0_countOf_b4 (nI n) h _ _ = _
      unfold fX0_countOf_b4
      simp (disch := omega) [n_lit, n_eq, n_lt, n_le, n_mul, n_add, n_cl, grd_t, grd_T, su_c, su_s, su_k, wi_in, n_m1', n_m1, cW S]
  unfold fX0_countOf
  rw [hl]
  rfl
theorem mCnt (S : Sc h 1 84 σ) (n : Nat) (hn : n < 14) : fX9_wordsOf (nI n) h = some (nI (cnt σ n (σ 0 2))) := by
  have hW := lW S
  have hN := lN14 S
  have hl : lp (fun s => fX9_wordsOf_b4 (nI n) h s.1 s.2) FUEL (0, 0) = some (nI (cnt σ n (σ 0 2))) := by
    refine lp_F (g := fun i => (nI (cnt σ n i), nI i)) (σ 0 2) _ rfl (by omega) ?_ ?_
    · intro i hi
      show fX9_wordsOf_b4 (nI n) h _ _ = _
      unfold fX9_wordsOf_b4
      have hi' : ¬ σ 0 2 ≤ i := by omega
      have := b10 S hi
      by_cases e : σ 10 i = n
      · simp (disch := omega) [n_lit, n_eq, n_lt, n_le, n_mul, n_add, n_cl, grd_t, grd_T, su_c, su_s, su_k, wi_in, n_m1', n_m1, mW S, hi', w1 S hi, e]
        simp [cnt, sm, e]
      · simp (disch := omega) [n_lit, n_eq, n_lt, n_le, n_mul, n_add, n_cl, grd_t, grd_T, su_c, su_s, su_k, wi_in, n_m1', n_m1, mW S, hi', w1 S hi, e]
        simp [cnt, sm, e]
    · show fX9_wordsOf_b4 (nI n) h _ _ = _
      unfold fX9_wordsOf_b4
      simp (disch := omega) [n_lit, n_eq, n_lt, n_le, n_mul, n_add, n_cl, grd_t, grd_T, su_c, su_s, su_k, wi_in, n_m1', n_m1, mW S]
  unfold fX9_wordsOf
  rw [hl]
  rfl
-- hours in which a name has words
def hs (σ : Gh) (n : Nat) : Nat → Nat := fo (fun w a => if σ 10 w = n then a ||| 2 ^ hrN (σ 9 w) else a) 0
theorem or_lt {a b k : Nat} (ha : a < 2 ^ k) (hb : b < 2 ^ k) : a ||| b < 2 ^ k := Nat.or_lt_two_pow ha hb
theorem hs_lt (σ : Gh) (n : Nat) : ∀ W, hs σ n W < 1024
  | 0 => by show 0 < 1024; omega
  | W + 1 => by
    have h1 := hs_lt σ n W
    have h2 := hrN_lt (σ 9 W)
    have h3 : 2 ^ hrN (σ 9 W) < 2 ^ 10 := Nat.pow_lt_pow_right (by decide) h2
    show (if σ 10 W = n then hs σ n W ||| 2 ^ hrN (σ 9 W) else hs σ n W) < 1024
    split
    · exact or_lt (k := 10) h1 h3
    · exact h1
theorem cHs (S : Sc h 1 84 σ) (n : Nat) (hn : n < 14) : fX0_hourSet (nI n) h = some (nI (hs σ n (σ 0 2))) := by
  have hW := lW S
  have hN := lN14 S
  have hw := lNow S
  have hl : lp (fun s => fX0_hourSet_b4 (nI n) h s.1 s.2) FUEL (0, 0) = some (nI (hs σ n (σ 0 2))) := by
    refine lp_F (g := fun i => (nI (hs σ n i), nI i)) (σ 0 2) _ rfl (by omega) ?_ ?_
    · intro i hi
      show fX0_hourSet_b4 (nI n) h _ _ = _
      unfold fX0_hourSet_b4
      have hi' : ¬ σ 0 2 ≤ i := by omega
      have := b10 S hi
      have := b9 S hi
      have := hrN_lt (σ 9 i)
      by_cases e : σ 10 i = n
      · simp (disch := omega) [n_lit, n_eq, n_lt, n_le, n_mul, n_add, n_cl, grd_t, grd_T, su_c, su_s, su_k, wi_in, n_m1', n_m1, cW S, hi', c12 S hi, c11 S hi, e, hO_c, n_shl, n_or]
        simp [hs, fo, e]
      · simp (disch := omega) [n_lit, n_eq, n_lt, n_le, n_mul, n_add, n_cl, grd_t, grd_T, su_c, su_s, su_k, wi_in, n_m1', n_m1, cW S, hi', c12 S hi, e]
        simp [hs, fo, e]
    · show fX0_hourSet_b4 (nI n) h _ _ = _
      unfold fX0_hourSet_b4
      simp (disch := omega) [n_lit, n_eq, n_lt, n_le, n_mul, n_add, n_cl, grd_t, grd_T, su_c, su_s, su_k, wi_in, n_m1', n_m1, cW S]
  unfold fX0_hourSet
  rw [hl]
  rfl
theorem mHs (S : Sc h 1 84 σ) (n : Nat) (hn : n < 14) : fX9_hoursOf (nI n) h = some (nI (hs σ n (σ 0 2))) := by
  have hW := lW S
  have hN := lN14 S
  have hw := lNow S
  have hl : lp (fun s => fX9_hoursOf_b4 (nI n) h s.1 s.2) FUEL (0, 0) = some (nI (hs σ n (σ 0 2))) := by
    refine lp_F (g := fun i => (nI (hs σ n i), nI i)) (σ 0 2) _ rfl (by omega) ?_ ?_
    · intro i hi
      show fX9_hoursOf_b4 (nI n) h _ _ = _
      unfold fX9_hoursOf_b4
      have hi' : ¬ σ 0 2 ≤ i := by omega
      have := b10 S hi
      have := b9 S hi
      have := hrN_lt (σ 9 i)
      by_cases e : σ 10 i = n
      · simp (disch := omega) [n_lit, n_eq, n_lt, n_le, n_mul, n_add, n_cl, grd_t, grd_T, su_c, su_s, su_k, wi_in, n_m1', n_m1, mW S, hi', w1 S hi, w0 S hi, e, hO_m, n_shl, n_or]
        simp [hs, fo, e]
      · simp (disch := omega) [n_lit, n_eq, n_lt, n_le, n_mul, n_add, n_cl, grd_t, grd_T, su_c, su_s, su_k, wi_in, n_m1', n_m1, mW S, hi', w1 S hi, e, n_or]
        simp [hs, fo, e]
    · show fX9_hoursOf_b4 (nI n) h _ _ = _
      unfold fX9_hoursOf_b4
      simp (disch := omega) [n_lit, n_eq, n_lt, n_le, n_mul, n_add, n_cl, grd_t, grd_T, su_c, su_s, su_k, wi_in, n_m1', n_m1, mW S]
  unfold fX9_hoursOf
  rw [hl]
  rfl
-- how many words tell something
def ctl (σ : Gh) (p : Nat → Bool) (c : Nat) : Nat → Nat := sm (fun w => if p (σ 11 w) && !(c.testBit (σ 10 w)) then 1 else 0)
theorem ctl_le (σ : Gh) (p : Nat → Bool) (c : Nat) : ∀ W, ctl σ p c W ≤ W
  | 0 => Nat.le_refl _
  | W + 1 => by
    have := ctl_le σ p c W
    show ctl σ p c W + (if p (σ 11 W) && !(c.testBit (σ 10 W)) then 1 else 0) ≤ W + 1
    split <;> omega
def tpP (x : Nat) : Nat → Bool := fun t => x == 0 || t + 1 == x
theorem cCtl (S : Sc h 1 84 σ) (x c : Nat) (hx : x ≤ 10) (hc : c < 16384) : fX0_countTelling (lI x) (nI c) h = some (nI (ctl σ (tpP x) c (σ 0 2))) := by
  have hW := lW S
  have hN := lN14 S
  have hl : lp (fun s => fX0_countTelling_b5 (lI x) (nI c) h s.1 s.2) FUEL (0, 0) = some (nI (ctl σ (tpP x) c (σ 0 2))) := by
    refine lp_F (g := fun i => (nI (ctl σ (tpP x) c i), nI i)) (σ 0 2) _ rfl (by omega) ?_ ?_
    · intro i hi
      show fX0_countTelling_b5 (lI x) (nI c) h _ _ = _
      unfold fX0_countTelling_b5
      have hi' : ¬ σ 0 2 ≤ i := by omega
      have h10 := b10 S hi
      have h11 := b11 S hi
      simp (disch := omega) [n_lit, n_eq, n_lt, n_le, n_mul, n_add, n_cl, grd_t, grd_T, su_c, su_s, su_k, wi_in, n_m1', n_m1, cW S, hi', c12 S hi, c13 S hi, lI_inj, lI_nI, nI_lI, hb, asI]
      by_cases e0 : x = 0
      · cases e2 : c.testBit (σ 10 i) <;> simp [ctl, sm, tpP, e0, e2, b2i_n, b2n, n_add, asI]
      · by_cases e1 : x = σ 11 i + 1
        · cases e2 : c.testBit (σ 10 i) <;> simp [ctl, sm, tpP, e0, e1, e2, b2i_n, b2n, n_add, asI]
        · have e1' : ¬ σ 11 i + 1 = x := fun q => e1 q.symm
          cases e2 : c.testBit (σ 10 i) <;> simp [ctl, sm, tpP, e0, e1, e1', e2, b2i_n, b2n, n_add, asI]
    · show fX0_countTelling_b5 (lI x) (nI c) h _ _ = _
      unfold fX0_countTelling_b5
      simp (disch := omega) [n_lit, n_eq, n_lt, n_le, n_mul, n_add, n_cl, grd_t, grd_T, su_c, su_s, su_k, wi_in, n_m1', n_m1, cW S]
  unfold fX0_countTelling
  rw [hl]
  rfl
theorem mCtl (S : Sc h 1 84 σ) (x c : Nat) (hx : x ≤ 10) (hc : c < 16384) : fX9_countOf (lI x) (nI c) h = some (nI (ctl σ (tpP x) c (σ 0 2))) := by
  have hW := lW S
  have hN := lN14 S
  have hl : lp (fun s => fX9_countOf_b5 (lI x) (nI c) h s.1 s.2) FUEL (0, 0) = some (nI (ctl σ (tpP x) c (σ 0 2))) := by
    refine lp_F (g := fun i => (nI (ctl σ (tpP x) c i), nI i)) (σ 0 2) _ rfl (by omega) ?_ ?_
    · intro i hi
      show fX9_countOf_b5 (lI x) (nI c) h _ _ = _
      unfold fX9_countOf_b5
      have hi' : ¬ σ 0 2 ≤ i := by omega
      have h10 := b10 S hi
      have h11 := b11 S hi
      simp (disch := omega) [n_lit, n_eq, n_lt, n_le, n_mul, n_add, n_cl, grd_t, grd_T, su_c, su_s, su_k, wi_in, n_m1', n_m1, mW S, hi', w1 S hi, w2 S hi, lI_lt0, nI_lI, mhas]
      by_cases e0 : x = 0
      · cases e2 : c.testBit (σ 10 i) <;> simp [ctl, sm, tpP, e0, e2]
      · by_cases e1 : x = σ 11 i + 1
        · cases e2 : c.testBit (σ 10 i) <;> simp [ctl, sm, tpP, e0, e1, e2]
        · have e1' : ¬ σ 11 i + 1 = x := fun q => e1 q.symm
          cases e2 : c.testBit (σ 10 i) <;> simp [ctl, sm, tpP, e0, e1, e1', e2]
    · show fX9_countOf_b5 (lI x) (nI c) h _ _ = _
      unfold fX9_countOf_b5
      simp (disch := omega) [n_lit, n_eq, n_lt, n_le, n_mul, n_add, n_cl, grd_t, grd_T, su_c, su_s, su_k, wi_in, n_m1', n_m1, mW S]
  unfold fX9_countOf
  rw [hl]
  rfl
end WD
