/-! 62: line -/
def br (i : Nat) : Int32 := nI i - nI 200
theorem br_i {i : Nat} (hi : i < 1000) : (br i).toInt = (i : Int) - 200 := by unfold br; rw [sub_toInt (by omega) (by omega)]; rfl
theorem br_s (i : Nat) : br i + nI 1 = br (i + 1) := by
  unfold br
  rw [← n_add i 1, Int32.sub_eq_add_neg, Int32.sub_eq_add_neg, Int32.add_assoc, Int32.add_assoc, Int32.add_comm (-nI 200)]
def lsv (σ : Gh) (cs : List Nat) (a b : Int32) (i : Nat) : Int32 := a * nI (pcN (wrN σ cs (br i))) + b * nI (pcN (msN σ cs (br i)))
def bst (f : Nat → Int32) : Nat → Nat
  | 0 => 0
  | i + 1 => if f (i + 1) < f (bst f i) then i + 1 else bst f i
theorem bst_le (f : Nat → Int32) : ∀ i, bst f i ≤ i
  | 0 => Nat.le_refl _
  | i + 1 => by
    have := bst_le f i
    unfold bst
    split <;> omega
section LIN
variable {g : Sto} {σ : Gh} {cs : List Nat} {a b : Int32}
theorem cLs (S : Sc g 1 84 σ) (hs : ∀ i, i < σ 0 0 → g 82 i = scv σ cs i) (i : Nat) : fX8_lineSum (br i) a b g = some (lsv σ cs a b i) := by
  unfold fX8_lineSum
  rw [cWr S hs, Option.bind_some, bc (wrN_lt S _), Option.bind_some, cMs S hs, Option.bind_some, bc (msN_lt S _), Option.bind_some]
  rfl
theorem br_end : ¬ nI 200 < br 400 ∧ nI 200 < br 401 := by decide
theorem br_mid {i : Nat} (hi : i ≤ 400) : ¬ nI 200 < br i := by
  rw [lt_x (by omega), br_i (by omega)]; omega
theorem br_low {i : Nat} (hi : i ≤ 400) : ¬ br i < -nI 200 := by
  rw [Int32.lt_iff_toInt_lt, br_i (by omega), neg_toInt (by omega)]; omega
theorem cLine (S : Sc g 1 84 σ) (hs : ∀ i, i < σ 0 0 → g 82 i = scv σ cs i) (x : Int32) : lp (fun s => fX8_line_b88 a b x g s.1 s.2.1 s.2.2) FUEL (br 0, lsv σ cs a b 0, br 1) = some (br (bst (lsv σ cs a b) 400), lsv σ cs a b (bst (lsv σ cs a b) 400)) := by
  refine lp_F (g := fun i => (br (bst (lsv σ cs a b) i), lsv σ cs a b (bst (lsv σ cs a b) i), br (i + 1))) 400 _ rfl (by omega) ?_ ?_
  · intro i hi
    have h1 := br_mid (i := i + 1) (by omega)
    have h1' : ¬ (200 : Int32) < br (i + 1) := h1
    have hb : bst (lsv σ cs a b) (i + 1) = if lsv σ cs a b (i + 1) < lsv σ cs a b (bst (lsv σ cs a b) i) then i + 1 else bst (lsv σ cs a b) i := rfl
    have e1 : br (i + 1) + 1 = br (i + 1 + 1) := br_s (i + 1)
    show fX8_line_b88 a b x g (br (bst (lsv σ cs a b) i)) (lsv σ cs a b (bst (lsv σ cs a b) i)) (br (i + 1)) = some (.inl (br (bst (lsv σ cs a b) (i + 1)), lsv σ cs a b (bst (lsv σ cs a b) (i + 1)), br (i + 1 + 1)))
    unfold fX8_line_b88
    rw [if_neg h1', cLs S hs, Option.bind_some, e1, hb]
    by_cases z : lsv σ cs a b (i + 1) < lsv σ cs a b (bst (lsv σ cs a b) i)
    · rw [if_pos z, if_neg (Int32.not_le.mpr z)]
    · rw [if_neg z, if_pos (Int32.not_lt.mp z)]
  · show fX8_line_b88 a b x g _ _ (br 401) = _
    unfold fX8_line_b88
    rw [if_pos (show (200 : Int32) < br 401 from br_end.2)]
theorem mLine (S : Sc g 1 84 σ) (hs : ∀ i, i < σ 0 0 → g 91 i = scv σ cs i) (x : Int32) : lp (fun s => fX9_line_b68 a b x g s.1 s.2.1 s.2.2) FUEL (-201, 0, br 0) = some (br (bst (lsv σ cs a b) 400), lsv σ cs a b (bst (lsv σ cs a b) 400)) := by
  refine lp_F (g := fun i => if i = 0 then (-201, 0, br 0) else (br (bst (lsv σ cs a b) (i - 1)), lsv σ cs a b (bst (lsv σ cs a b) (i - 1)), br i)) 401 _ rfl (by omega) ?_ ?_
  · intro i hi
    have h1' : ¬ (200 : Int32) < br i := br_mid (by omega)
    have e1 : br i + 1 = br (i + 1) := br_s i
    have hstep : ∀ u w, fX9_line_b68 a b x g u w (br i) = (if u < -200 then (some (.inl (br i, lsv σ cs a b i, br (i + 1)))) else (if lsv σ cs a b i < w then (some (.inl (br i, lsv σ cs a b i, br (i + 1)))) else (some (.inl (u, w, br (i + 1)))))) := by
      intro u w
      unfold fX9_line_b68
      rw [if_neg h1', mFs S rfl hs, Option.bind_some, mPeople S, Option.bind_some, n_and, show bs (fd σ cs (br i)) (σ 0 0) &&& bs (ppl σ) (σ 0 0) = wrN σ cs (br i) from rfl, mmany (by have := wrN_lt (cs := cs) S (br i); omega), Option.bind_some, mEv S, Option.bind_some, Option.bind_some, mMs S, mmany (by have := msN_lt (cs := cs) S (br i); omega), Option.bind_some, e1]
      rfl
    cases i with
    | zero =>
      show fX9_line_b68 a b x g (-201) 0 (br 0) = some (.inl (br 0, lsv σ cs a b 0, br 1))
      rw [hstep, if_pos (by decide)]
    | succ i =>
      show fX9_line_b68 a b x g (br (bst (lsv σ cs a b) i)) (lsv σ cs a b (bst (lsv σ cs a b) i)) (br (i + 1)) = some (.inl (br (bst (lsv σ cs a b) (i + 1)), lsv σ cs a b (bst (lsv σ cs a b) (i + 1)), br (i + 1 + 1)))
      have hb : bst (lsv σ cs a b) (i + 1) = if lsv σ cs a b (i + 1) < lsv σ cs a b (bst (lsv σ cs a b) i) then i + 1 else bst (lsv σ cs a b) i := rfl
      have hle := bst_le (lsv σ cs a b) i
      have h2 : ¬ br (bst (lsv σ cs a b) i) < -200 := br_low (by omega)
      rw [hstep, if_neg h2, hb]
      by_cases z : lsv σ cs a b (i + 1) < lsv σ cs a b (bst (lsv σ cs a b) i)
      · rw [if_pos z, if_pos z]
      · rw [if_neg z, if_neg z]
  · show fX9_line_b68 a b x g (br (bst (lsv σ cs a b) 400)) (lsv σ cs a b (bst (lsv σ cs a b) 400)) (br 401) = _
    unfold fX9_line_b68
    rw [if_pos (show (200 : Int32) < br 401 from br_end.2)]
end LIN
theorem st_line (a b c d : Int32) (h : Sto) (I : Inv h) : Agr (fX8_line a b c d) (fX9_line a b c d) h := by
  obtain ⟨σ, S⟩ := I.1
  obtain ⟨T, X⟩ := I.2.1
  have hN := lN14 S
  have hT := X.1
  have x1 : h 16 0 = nI T := X.2.1
  have x2 : h 84 4 = nI T := X.2.2.1
  have i1 : ∀ h', fX9_in b.toInt64 0 99 h' = some (decide (nI 0 ≤ b ∧ b ≤ nI 99)) := fun h' => in_n b 0 99 (by omega) (by omega) h'
  have i2 : ∀ h', fX9_in c.toInt64 0 99 h' = some (decide (nI 0 ≤ c ∧ c ≤ nI 99)) := fun h' => in_n c 0 99 (by omega) (by omega) h'
  have i3 : ∀ h', fX9_in d.toInt64 0 1 h' = some (decide (nI 0 ≤ d ∧ d ≤ nI 1)) := fun h' => in_n d 0 1 (by omega) (by omega) h'
  by_cases hall : (nI 0 ≤ a ∧ a ≤ lI T) ∧ (nI 0 ≤ b ∧ b ≤ nI 99) ∧ (nI 0 ≤ c ∧ c ≤ nI 99) ∧ (nI 0 ≤ d ∧ d ≤ nI 1)
  · obtain ⟨h1, h2, h3, h4⟩ := hall
    obtain ⟨t, ht, rfl⟩ := (arg_nm (by omega)).mp h1
    obtain ⟨w, rfl, -, hw⟩ := arg_in (by omega) (by omega) h4
    obtain ⟨cs, N, U⟩ := X.tu ht
    obtain ⟨H, e1, e2, e3⟩ := cGsc S U (FrS.refl h) (by omega)
    have F1 : FrS h H := fun c c1 c2 c3 c4 c5 => e3 c c1 c2 c3
    obtain ⟨H2, e4, e5, e6⟩ := mGsc S U (F1 84 (by omega) (by omega) (by omega) (by omega) (by omega)) (by omega)
    have F2 : FrS h H2 := F1.trans (fun c c1 c2 c3 c4 c5 => e6 c c4 c5)
    have S1 := Sc_frS S F1
    have S2 := Sc_frS S F2
    have x3 : H 84 4 = nI T := by rw [e3 84 (by omega) (by omega) (by omega)]; exact x2
    refine agr (if w = 0 then br (bst (lsv σ cs b c) 400) else lsv σ cs b c (bst (lsv σ cs b c) 400)) H H2 ?_ ?_ (Inv_frS I F2)
    · have l0 := cLs (a := b) (b := c) S1 e2 0
      have l1 := cLine (a := b) (b := c) S1 e2 (nI w)
      unfold fX8_line
      rw [cTx x1, wi_in, wi_in, wi_in, e1]
      simp only [Option.bind_some]
      rw [show (-200 : Int32) = br 0 from by decide, show (-199 : Int32) = br 1 from by decide, l0]
      simp only [Option.bind_some]
      rw [l1]
      rcases (show w = 0 ∨ w = 1 by omega) with rfl | rfl
      · simp (disch := omega) [n_lit, n_eq, n_lt, n_le, n_mul, n_add, n_cl, grd_t, grd_T, su_c, su_s, su_k, wi_in, n_m1', n_m1, h1, h2, h3, h4]
      · simp (disch := omega) [n_lit, n_eq, n_lt, n_le, n_mul, n_add, n_cl, grd_t, grd_T, su_c, su_s, su_k, wi_in, n_m1', n_m1, h1, h2, h3, h4]
    · have l1 := mLine (a := b) (b := c) S2 e5 (nI w)
      unfold fX9_line
      rw [mTx x3, i1, i2, i3, e4]
      simp only [Option.bind_some]
      rw [show (-200 : Int32) = br 0 from by decide, l1]
      rcases (show w = 0 ∨ w = 1 by omega) with rfl | rfl
      · simp (disch := omega) [n_lit, n_eq, n_lt, n_le, n_mul, n_add, n_cl, grd_t, grd_T, su_c, su_s, su_k, wi_in, n_m1', n_m1, h1, h2, h3, h4]
      · simp (disch := omega) [n_lit, n_eq, n_lt, n_le, n_mul, n_add, n_cl, grd_t, grd_T, su_c, su_s, su_k, wi_in, n_m1', n_m1, h1, h2, h3, h4]
  · refine ag_f0 I ?_ ?_
    · unfold fX8_line
      rw [cTx x1, wi_in, wi_in, wi_in]
      by_cases h1 : nI 0 ≤ a ∧ a ≤ lI T <;> by_cases h2 : nI 0 ≤ b ∧ b ≤ nI 99 <;> by_cases h3 : nI 0 ≤ c ∧ c ≤ nI 99 <;> by_cases h4 : nI 0 ≤ d ∧ d ≤ nI 1 <;> first | exact hall.elim (And.intro h1 (And.intro h2 (And.intro h3 h4))) | simp [n_lit, h1, h2, h3, h4]
    · intro h1' e
      subst e
      unfold fX9_line
      rw [mTx (by rw [su_c _ _ _ (by omega)]; exact x2), i1, i2, i3]
      by_cases h1 : nI 0 ≤ a ∧ a ≤ lI T <;> by_cases h2 : nI 0 ≤ b ∧ b ≤ nI 99 <;> by_cases h3 : nI 0 ≤ c ∧ c ≤ nI 99 <;> by_cases h4 : nI 0 ≤ d ∧ d ≤ nI 1 <;> first | exact hall.elim (And.intro h1 (And.intro h2 (And.intro h3 h4))) | simp [h1, h2, h3, h4]
