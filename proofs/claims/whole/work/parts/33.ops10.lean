/-! 33: most, what follows what, wordOf, below -/
def cT (σ : Gh) (c t : Nat) : Nat := ctl σ (tpP (t + 1)) c (σ 0 2)
def am (σ : Gh) (c : Nat) : Nat → Nat
  | 0 => 0
  | i + 1 => if cT σ c (am σ c i) < cT σ c i then i else am σ c i
theorem am_le (σ : Gh) (c : Nat) : ∀ i, am σ c i ≤ i
  | 0 => Nat.le_refl _
  | i + 1 => by
    have := am_le σ c i
    show (if cT σ c (am σ c i) < cT σ c i then i else am σ c i) ≤ i + 1
    split <;> omega
theorem am_lt (σ : Gh) (c i : Nat) : am σ c (i + 1) ≤ i := by
  have := am_le σ c i
  show (if cT σ c (am σ c i) < cT σ c i then i else am σ c i) ≤ i
  split <;> omega
theorem am_max (σ : Gh) (c : Nat) : ∀ i t, t < i → cT σ c t ≤ cT σ c (am σ c i) := by
  intro i
  induction i with
  | zero => intro t h; exact absurd h (Nat.not_lt_zero _)
  | succ i ih =>
    intro t ht
    show cT σ c t ≤ cT σ c (if cT σ c (am σ c i) < cT σ c i then i else am σ c i)
    by_cases e : t = i
    · subst e; split <;> omega
    · have := ih t (by omega)
      split <;> omega
theorem st_most (a : Int32) (h : Sto) (I : Inv h) : Agr (fX8_most a) (fX9_most a) h := by
  obtain ⟨σ, S⟩ := I.1
  have hW := lW S
  by_cases h1 : nI 0 ≤ a ∧ a ≤ nI (2 ^ σ 0 0 - 1)
  · obtain ⟨c, rfl, hc⟩ := arg_set S h1
    have cl : ∀ t, cT σ c t ≤ 200 := fun t => Nat.le_trans (ctl_le σ _ c _) hW
    have cc : ∀ t, t < 10 → fX0_countTelling (nI t) (nI c) h = some (nI (cT σ c t)) := fun t ht => by
      rw [← lI_s]; exact cCtl S (t + 1) c (by omega) hc
    have mc : ∀ h', Sc h' 1 84 σ → ∀ t, t < 10 → fX9_countOf (nI t) (nI c) h' = some (nI (cT σ c t)) := fun h' S' t ht => by
      rw [← lI_s]; exact mCtl S' (t + 1) c (by omega) hc
    -- the class's loop
    have e1 : lp (fun s => fX8_most_b28 (nI c) h s.1 s.2.1 s.2.2) FUEL ((-1), 0, 0) = some (if cT σ c (am σ c 10) = 0 then lI 0 else nI (am σ c 10)) := by
      refine lp_F (g := fun i => (if i = 0 ∨ cT σ c (am σ c i) = 0 then lI 0 else nI (am σ c i), if i = 0 ∨ cT σ c (am σ c i) = 0 then nI 0 else nI (cT σ c (am σ c i)), nI i)) 10 _ rfl (by omega) ?_ ?_
      · intro i hi
        show fX8_most_b28 (nI c) h _ _ _ = _
        unfold fX8_most_b28
        have hi' : ¬ 9 < i := by omega
        have l1 := cl i
        have l2 := cl (am σ c i)
        simp (disch := omega) [n_lit, n_eq, n_lt, n_le, n_mul, n_add, n_cl, grd_t, grd_T, su_c, su_s, su_k, wi_in, n_m1', n_m1, hi', cc i hi]
        by_cases z : i = 0 ∨ cT σ c (am σ c i) = 0
        · simp only [z, if_true]
          by_cases y : cT σ c i = 0
          · have : cT σ c (am σ c (i + 1)) = 0 := by
              show cT σ c (if cT σ c (am σ c i) < cT σ c i then i else am σ c i) = 0
              rw [y, if_neg (by omega)]
              rcases z with rfl | z
              · exact y
              · exact z
            simp (disch := omega) [n_lit, n_eq, n_lt, n_le, n_mul, n_add, n_cl, grd_t, grd_T, su_c, su_s, su_k, wi_in, n_m1', n_m1, y, this]
          · have am1 : am σ c (i + 1) = i := by
              show (if cT σ c (am σ c i) < cT σ c i then i else am σ c i) = i
              rcases z with rfl | z
              · split
                · rfl
                · rfl
              · rw [z, if_pos (by omega)]
            simp (disch := omega) [n_lit, n_eq, n_lt, n_le, n_mul, n_add, n_cl, grd_t, grd_T, su_c, su_s, su_k, wi_in, n_m1', n_m1, y, am1]
        · have z1 : ¬ i = 0 := fun q => z (Or.inl q)
          have z2 : ¬ cT σ c (am σ c i) = 0 := fun q => z (Or.inr q)
          simp only [z, if_false]
          by_cases y : cT σ c i ≤ cT σ c (am σ c i)
          · have am1 : am σ c (i + 1) = am σ c i := by
              show (if cT σ c (am σ c i) < cT σ c i then i else am σ c i) = _
              rw [if_neg (by omega)]
            simp (disch := omega) [n_lit, n_eq, n_lt, n_le, n_mul, n_add, n_cl, grd_t, grd_T, su_c, su_s, su_k, wi_in, n_m1', n_m1, y, am1, z2]
          · have am1 : am σ c (i + 1) = i := by
              show (if cT σ c (am σ c i) < cT σ c i then i else am σ c i) = _
              rw [if_pos (by omega)]
            have y2 : ¬ cT σ c i = 0 := by omega
            simp (disch := omega) [n_lit, n_eq, n_lt, n_le, n_mul, n_add, n_cl, grd_t, grd_T, su_c, su_s, su_k, wi_in, n_m1', n_m1, y, am1, y2]
      · show fX8_most_b28 (nI c) h _ _ _ = _
        unfold fX8_most_b28
        simp (disch := omega) [n_lit, n_eq, n_lt, n_le, n_mul, n_add, n_cl, grd_t, grd_T, su_c, su_s, su_k, wi_in, n_m1', n_m1]
    have tot : ctl σ (tpP 0) c (σ 0 2) = 0 ↔ cT σ c (am σ c 10) = 0 := by
      constructor
      · intro hz
        by_cases y : 0 < cT σ c (am σ c 10)
        · obtain ⟨w, hw, hy⟩ := sm_pos.mp y
          have : 0 < ctl σ (tpP 0) c (σ 0 2) := by
            refine sm_pos.mpr ⟨w, hw, ?_⟩
            by_cases q : c.testBit (σ 10 w) = true
            · simp [q] at hy
            · simp [tpP, q]
          omega
        · omega
      · intro hz
        by_cases y : 0 < ctl σ (tpP 0) c (σ 0 2)
        · obtain ⟨w, hw, hy⟩ := sm_pos.mp y
          have h11 := b11 S hw
          have : 0 < cT σ c (σ 11 w) := by
            refine sm_pos.mpr ⟨w, hw, ?_⟩
            by_cases q : c.testBit (σ 10 w) = true
            · simp [q] at hy
            · simp [tpP, q]
          have := am_max σ c 10 (σ 11 w) (by omega)
          omega
        · omega
    have ltot : ctl σ (tpP 0) c (σ 0 2) ≤ 200 := Nat.le_trans (ctl_le σ _ c _) hW
    by_cases z : cT σ c (am σ c 10) = 0
    · refine ag_f3 I ?_ ?_
      · unfold fX8_most
        rw [cAll S, e1]
        simp (disch := omega) [n_lit, h1, z, lI_ge0]
      · intro h' e
        have S' : Sc h' 1 84 σ := by rw [e]; exact Sc_find S
        unfold fX9_most
        rw [mAll S', show (-1 : Int32) = lI 0 from lI_0.symm, mCtl S' 0 c (by omega) hc]
        simp (disch := omega) [n_lit, h1, tot.mpr z]
    · have z0 : ¬ ctl σ (tpP 0) c (σ 0 2) = 0 := fun q => z (tot.mp q)
      have lam : am σ c 10 ≤ 9 := am_lt σ c 9
      have e2 : lp (fun s => fX9_most_b35 (nI c) h s.1 s.2) FUEL (0, 1) = some (nI (am σ c 10)) := by
        refine lp_F (g := fun i => (nI (am σ c (i + 1)), nI (i + 1))) 9 _ (by show (nI (am σ c 1), nI 1) = _; rw [show am σ c 1 = 0 from Nat.le_zero.mp (am_lt σ c 0)]; rfl) (by omega) ?_ ?_
        · intro i hi
          show fX9_most_b35 (nI c) h _ _ = _
          unfold fX9_most_b35
          have hi' : ¬ 10 ≤ i + 1 := by omega
          have l0 := am_lt σ c i
          have l1 := cl (i + 1)
          have l2 := cl (am σ c (i + 1))
          simp (disch := omega) [n_lit, n_eq, n_lt, n_le, n_mul, n_add, n_cl, grd_t, grd_T, su_c, su_s, su_k, wi_in, n_m1', n_m1, hi', mc h S (i + 1) (by omega), mc h S (am σ c (i + 1)) (by omega)]
          by_cases y : cT σ c (i + 1) ≤ cT σ c (am σ c (i + 1))
          · have am1 : am σ c (i + 1 + 1) = am σ c (i + 1) := by
              show (if cT σ c (am σ c (i + 1)) < cT σ c (i + 1) then i + 1 else am σ c (i + 1)) = _
              rw [if_neg (by omega)]
            simp [y, am1]
          · have am1 : am σ c (i + 1 + 1) = i + 1 := by
              show (if cT σ c (am σ c (i + 1)) < cT σ c (i + 1) then i + 1 else am σ c (i + 1)) = _
              rw [if_pos (by omega)]
            simp [y, am1]
        · show fX9_most_b35 (nI c) h _ _ = _
          unfold fX9_most_b35
          simp (disch := omega) [n_lit, n_eq, n_lt, n_le, n_mul, n_add, n_cl, grd_t, grd_T, su_c, su_s, su_k, wi_in, n_m1', n_m1]
      refine agr (nI (am σ c 10)) h h ?_ ?_ I
      · unfold fX8_most
        rw [cAll S, e1]
        simp (disch := omega) [n_lit, n_eq, n_lt, n_le, n_mul, n_add, n_cl, grd_t, grd_T, su_c, su_s, su_k, wi_in, n_m1', n_m1, h1, z]
      · unfold fX9_most
        rw [mAll S, show (-1 : Int32) = lI 0 from lI_0.symm, mCtl S 0 c (by omega) hc, e2]
        simp (disch := omega) [n_lit, n_eq, n_lt, n_le, n_mul, n_add, n_cl, grd_t, grd_T, su_c, su_s, su_k, wi_in, n_m1', n_m1, h1, z0]
  · refine ag_f0 I ?_ ?_
    · unfold fX8_most
      rw [cAll S]
      simp [h1]
    · intro h' e
      subst e
      unfold fX9_most
      rw [mAll (Sc_find S)]
      simp [h1]
-- what a word follows, as the reference finds it
theorem mFol {h : Sto} {σ : Gh} (S : Sc h 1 84 σ) {w : Nat} (hw : w < σ 0 2) : fX9_follows (nI w) h = some (lI (fol σ w)) := by
  have hW := lW S
  have hN := lN14 S
  have hw9 := lNow S
  have b9w := b9 S hw
  have b10w := b10 S hw
  generalize hm : fol σ w = m
  have hm1 : m ≤ w := by rw [← hm]; exact la_le _ _
  have step : ∀ v, v < w → fX9_follows_b4 (nI w) h (nI v) = if folP σ w v then some (.inr (.inr (nI v))) else some (.inl (lI v)) := by
    intro v hv
    have hv2 : v < σ 0 2 := by omega
    have := b9 S hv2
    have := b10 S hv2
    have mn := mono S v w (by omega) hw
    unfold fX9_follows_b4 folP
    simp (disch := omega) [n_lit, n_eq, n_lt, n_le, n_mul, n_add, n_cl, grd_t, grd_T, su_c, su_s, su_k, wi_in, n_m1', n_m1, w1 S hv2, w1 S hw, w0 S hv2, w0 S hw, n_sub, in_n _ 1 9 (by omega) (by omega), n_pre]
    by_cases e : σ 10 v = σ 10 w
    · simp [e]
    · by_cases e2 : 1 ≤ σ 9 w - σ 9 v ∧ σ 9 w - σ 9 v ≤ 9
      · simp [e, e2]
      · by_cases e3 : 1 ≤ σ 9 w - σ 9 v
        · have e4 : ¬ σ 9 w - σ 9 v ≤ 9 := fun q => e2 ⟨e3, q⟩
          simp [e, e3, e4]
        · simp [e, e3]
  have hl : lp (fun s => fX9_follows_b4 (nI w) h s) FUEL (lI w) = some (if m = 0 then .inl () else .inr (lI m)) := by
    refine lp_F (g := fun i => lI (w - i)) (w - m) _ (by show lI (w - 0) = lI w; rw [Nat.sub_zero]) (by omega) ?_ ?_
    · intro i hi
      obtain ⟨v, hv⟩ : ∃ v, w - i = v + 1 := ⟨w - i - 1, by omega⟩
      show fX9_follows_b4 (nI w) h (lI (w - i)) = some (.inl (lI (w - (i + 1))))
      rw [show w - (i + 1) = v by omega, hv, lI_s, step v (by omega)]
      have : folP σ w v = false := la_no (folP σ w) w v (by show fol σ w ≤ v; omega) (by omega)
      rw [this]
      rfl
    · show fX9_follows_b4 (nI w) h (lI (w - (w - m))) = _
      rw [show w - (w - m) = m by omega]
      cases m with
      | zero =>
        unfold fX9_follows_b4
        simp (disch := omega) [n_lit, n_eq, n_lt, n_le, n_mul, n_add, n_cl, grd_t, grd_T, su_c, su_s, su_k, wi_in, n_m1', n_m1, lI_lt0]
      | succ v =>
        rw [lI_s, step v (by omega)]
        have : folP σ w v = true := by
          have := la_at (folP σ w) w (by show 0 < fol σ w; omega)
          rw [show la (folP σ w) w = v + 1 from hm] at this
          exact this
        rw [this]
        rfl
  unfold fX9_follows
  rw [show nI w - 1 = lI w from rfl, hl]
  by_cases z : m = 0
  · subst z; rfl
  · rw [if_neg z]; rfl
theorem cHasW {h : Sto} {σ : Gh} (S : Sc h 1 84 σ) (x : Int32) : fX0_has x h = some (decide (nI 0 ≤ x ∧ x ≤ lI (σ 0 2))) := by
  unfold fX0_has
  rw [wi_in, cW S]
  rfl
theorem mHasW {h : Sto} {σ : Gh} (S : Sc h 1 84 σ) (x : Int32) : fX9_isWord x h = some (decide (nI 0 ≤ x ∧ x ≤ lI (σ 0 2))) := by
  unfold fX9_isWord
  rw [mW S, in_v]
  rfl
theorem st_wordOf (a b : Int32) (h : Sto) (I : Inv h) : Agr (fX8_wordOf a b) (fX9_wordOf a b) h := by
  obtain ⟨σ, S⟩ := I.1
  have hW := lW S
  by_cases h1 : nI 0 ≤ a ∧ a ≤ lI (σ 0 2)
  · obtain ⟨w, hw, rfl⟩ := (arg_nm (by omega)).mp h1
    by_cases h2 : nI 0 ≤ b ∧ b ≤ nI 3
    · obtain ⟨k, rfl, -, hk⟩ := arg_in (by omega) (by omega) h2
      rcases (show k = 0 ∨ k = 1 ∨ k = 2 ∨ k = 3 by omega) with rfl | rfl | rfl | rfl
      · refine agr (nI (σ 9 w)) h h ?_ ?_ I
        · unfold fX8_wordOf; simp (disch := omega) [n_lit, n_eq, n_lt, n_le, n_mul, n_add, n_cl, grd_t, grd_T, su_c, su_s, su_k, wi_in, n_m1', n_m1, cHasW S, h1, c11 S hw]
        · unfold fX9_wordOf; simp (disch := omega) [n_lit, n_eq, n_lt, n_le, n_mul, n_add, n_cl, grd_t, grd_T, su_c, su_s, su_k, wi_in, n_m1', n_m1, mHasW S, h1, h2, in_n _ 0 3 (by omega) (by omega), w0 S hw]
      · refine agr (nI (σ 10 w)) h h ?_ ?_ I
        · unfold fX8_wordOf; simp (disch := omega) [n_lit, n_eq, n_lt, n_le, n_mul, n_add, n_cl, grd_t, grd_T, su_c, su_s, su_k, wi_in, n_m1', n_m1, cHasW S, h1, c12 S hw]
        · unfold fX9_wordOf; simp (disch := omega) [n_lit, n_eq, n_lt, n_le, n_mul, n_add, n_cl, grd_t, grd_T, su_c, su_s, su_k, wi_in, n_m1', n_m1, mHasW S, h1, h2, in_n _ 0 3 (by omega) (by omega), w1 S hw]
      · refine agr (nI (σ 11 w)) h h ?_ ?_ I
        · unfold fX8_wordOf; simp (disch := omega) [n_lit, n_eq, n_lt, n_le, n_mul, n_add, n_cl, grd_t, grd_T, su_c, su_s, su_k, wi_in, n_m1', n_m1, cHasW S, h1, c13 S hw]
        · unfold fX9_wordOf; simp (disch := omega) [n_lit, n_eq, n_lt, n_le, n_mul, n_add, n_cl, grd_t, grd_T, su_c, su_s, su_k, wi_in, n_m1', n_m1, mHasW S, h1, h2, in_n _ 0 3 (by omega) (by omega), w2 S hw]
      · refine agr (lI (fol σ w)) h h ?_ ?_ I
        · unfold fX8_wordOf; simp (disch := omega) [n_lit, n_eq, n_lt, n_le, n_mul, n_add, n_cl, grd_t, grd_T, su_c, su_s, su_k, wi_in, n_m1', n_m1, cHasW S, h1, c14 S hw]
        · unfold fX9_wordOf; simp (disch := omega) [n_lit, n_eq, n_lt, n_le, n_mul, n_add, n_cl, grd_t, grd_T, su_c, su_s, su_k, wi_in, n_m1', n_m1, mHasW S, h1, h2, in_n _ 0 3 (by omega) (by omega), mFol S hw]
    · have z : b < 0 ∨ 3 < b := by
        by_cases z0 : b < 0
        · exact Or.inl z0
        · refine Or.inr ?_
          by_cases z1 : 3 < b
          · exact z1
          · exact absurd ⟨Int32.not_lt.mp z0, Int32.not_lt.mp z1⟩ h2
      refine ag_f0 I ?_ ?_
      · unfold fX8_wordOf; simp [cHasW S, h1, z]
      · intro h' e
        subst e
        unfold fX9_wordOf; simp [mHasW (Sc_find S), h1, h2, in_n _ 0 3 (by omega) (by omega)]
  · refine ag_f0 I ?_ ?_
    · unfold fX8_wordOf; simp [cHasW S, h1]
    · intro h' e
      subst e
      unfold fX9_wordOf; simp [mHasW (Sc_find S), h1]
