/-! 34: below -/
def blC (σ : Gh) (t w : Nat) (a : Nat → Bool) : Bool := fol σ w == t + 1 || (decide (t + 1 < fol σ w) && a (fol σ w - 1))
def blA (σ : Gh) (t : Nat) : Nat → Nat → Bool := fo (fun k a j => if j = t + 1 + k then blC σ t (t + 1 + k) a else a j) (fun _ => false)
def blN (σ : Gh) (t : Nat) : Nat → Nat := sm (fun k => b2n (blC σ t (t + 1 + k) (blA σ t k)))
theorem blA_s (σ : Gh) (t k j : Nat) : blA σ t (k + 1) j = if j = t + 1 + k then blC σ t (t + 1 + k) (blA σ t k) else blA σ t k j := rfl
theorem nz_b (b : Bool) : nzb (b2i b) = nI (b2n b) := by cases b <;> decide
theorem asI_b (b : Bool) (h : Sto) : fX8_asInt (nI (b2n b)) h = some (nI (b2n b)) := by cases b <;> rfl
theorem b2n_0 (b : Bool) : (b2n b = 0) = (b = false) := by cases b <;> decide
theorem bl_in {σ : Gh} {t w : Nat} {a : Nat → Bool} {f : Nat → Int32} {x : Int32} (ex : x = lI (fol σ w)) (hf : ∀ j, t < j → j < w → f j = nI (b2n (a j))) (hw : w ≤ 200) (ht : t < 200) : (if x = nI t then (some true) else (if x ≤ nI t then (some false) else (grd (inb x 200) <| if (f (Int32.toNatClampNeg x)) = 0 then (some false) else (some true)))) = some (blC σ t w a) := by
  subst ex
  have fl : fol σ w ≤ w := la_le _ _
  unfold blC
  generalize fol σ w = m at fl ⊢
  cases m with
  | zero =>
    have l0 : lI 0 ≤ nI t := by
      rw [Int32.le_iff_toInt_le, n_toInt (by omega)]
      have : (lI 0).toInt = -1 := by decide
      omega
    have l1 : ¬ lI 0 = nI t := by rw [lI_nI (by omega) (by omega)]; omega
    rw [if_neg l1, if_pos l0]
    simp
  | succ v =>
    rw [lI_s]
    by_cases z : v = t
    · subst z; simp
    · by_cases y : v ≤ t
      · have y2 : ¬ t < v := by omega
        simp (disch := omega) [n_lit, n_eq, n_lt, n_le, n_mul, n_add, n_cl, grd_t, grd_T, su_c, su_s, su_k, wi_in, n_m1', n_m1, z, y, y2]
      · have y2 : t < v := by omega
        rw [if_neg (by rw [n_eq (by omega) (by omega)]; exact z), if_neg (by rw [n_le (by omega) (by omega)]; exact y), g_in (by omega) (by omega), n_cl (by omega), hf v y2 (by omega)]
        have z1 : (v + 1 == t + 1) = false := by simp [z]
        have z2 : decide (t + 1 < v + 1) = true := by simp [y2]
        rw [z1, z2, Nat.add_sub_cancel]
        cases a v <;> rfl
theorem cBelow {h : Sto} {σ : Gh} (S : Sc h 1 84 σ) {t : Nat} (ht : t < σ 0 2) : ∃ h1, fX0_countBelow (nI t) h = some (nI (blN σ t (σ 0 2 - (t + 1))), h1) ∧ ∀ c, c ≠ 15 → h1 c = h c := by
  have hW := lW S
  obtain ⟨⟨r, h1⟩, e, q1, q2⟩ : ∃ x, lp (fun s => fX0_countBelow_b6 (nI t) s.1 s.2.1 s.2.2) FUEL (0, (nI t + 1), h) = some x ∧ x.1 = nI (blN σ t (σ 0 2 - (t + 1))) ∧ ∀ c, c ≠ 15 → x.2 c = h c := by
    refine lp_I (P := fun k s => s.1 = nI (blN σ t k) ∧ s.2.1 = nI (t + 1 + k) ∧ (∀ c, c ≠ 15 → s.2.2 c = h c) ∧ (∀ j, t < j → j < t + 1 + k → s.2.2 15 j = nI (b2n (blA σ t k j)))) _ (σ 0 2 - (t + 1)) _ ?_ (by omega) ?_ ?_
    · refine ⟨rfl, ?_, fun c _ => rfl, fun j h1 h2 => by omega⟩
      show nI t + 1 = nI (t + 1 + 0)
      rw [Nat.add_zero]; exact nI_1 t
    · rintro k ⟨a, b, hs⟩ hk ⟨p1, p2, p3, p4⟩
      dsimp only at p1 p2 p3 p4
      subst p1; subst p2
      have hw : t + 1 + k < σ 0 2 := by omega
      have hw' : ¬ σ 0 2 ≤ t + 1 + k := by omega
      have fl : fol σ (t + 1 + k) ≤ t + 1 + k := la_le _ _
      have k1 : hs 10 = h 10 := p3 10 (by omega)
      have k2 : hs 14 = h 14 := p3 14 (by omega)
      refine ⟨(nI (blN σ t (k + 1)), nI (t + 1 + (k + 1)), su hs 15 (t + 1 + k) (nI (b2n (blC σ t (t + 1 + k) (blA σ t k))))), ?_, rfl, rfl, ?_, ?_⟩
      · show fX0_countBelow_b6 (nI t) (nI (blN σ t k)) (nI (t + 1 + k)) hs = _
        unfold fX0_countBelow_b6
        have e10 : hs 10 1 = nI (σ 0 2) := by rw [k1]; exact cW S
        have e14 : hs 14 (t + 1 + k) = lI (fol σ (t + 1 + k)) := by rw [k2]; exact c14 S hw
        rw [e10, if_neg (by rw [n_le (by omega) (by omega)]; exact hw'), g_in (by omega) (by omega), bl_in (x := hs 14 (Int32.toNatClampNeg (nI (t + 1 + k)))) (by rw [n_cl (by omega), e14]) p4 (by omega) (by omega)]
        simp (disch := omega) [n_lit, n_eq, n_lt, n_le, n_mul, n_add, n_cl, grd_t, grd_T, su_c, su_s, su_k, wi_in, n_m1', n_m1, nz_b, asI_b]
        exact ⟨rfl, by omega⟩
      · intro c hc
        show su hs 15 _ _ c = h c
        rw [su_c _ _ _ hc]; exact p3 c hc
      · intro j h1 h2
        show su hs 15 _ _ 15 j = _
        rw [blA_s]
        by_cases e : j = t + 1 + k
        · subst e; rw [su_s, if_pos rfl]
        · rw [su_k _ _ _ e, if_neg e]; exact p4 j h1 (by omega)
    · rintro ⟨a, b, hs⟩ ⟨p1, p2, p3, p4⟩
      dsimp only at p1 p2 p3 p4
      subst p1; subst p2
      have e10 : hs 10 1 = nI (σ 0 2) := by rw [p3 10 (by omega)]; exact cW S
      refine ⟨(nI (blN σ t (σ 0 2 - (t + 1))), hs), ?_, rfl, p3⟩
      show fX0_countBelow_b6 _ _ _ _ = _
      unfold fX0_countBelow_b6
      simp (disch := omega) [n_lit, n_eq, n_lt, n_le, n_mul, n_add, n_cl, grd_t, grd_T, su_c, su_s, su_k, wi_in, n_m1', n_m1, e10]
  dsimp only at q1 q2
  subst q1
  exact ⟨h1, by unfold fX0_countBelow; rw [e]; rfl, q2⟩
theorem mBelow {h : Sto} {σ : Gh} (S : Sc h 1 84 σ) {t : Nat} (ht : t < σ 0 2) : ∃ h1, lp (fun s => fX9_below_b19 (nI t) s.1 s.2.1 s.2.2) FUEL (0, nI t, h) = some (nI (blN σ t (σ 0 2 - (t + 1))), h1) ∧ ∀ c, c ≠ 87 → h1 c = h c := by
  have hW := lW S
  have key : ∃ x, lp (fun s => fX9_below_b19 (nI t) s.1 s.2.1 s.2.2) FUEL (0, nI t, h) = some x ∧ x.1 = nI (blN σ t (σ 0 2 - (t + 1))) ∧ ∀ c, c ≠ 87 → x.2 c = h c := by
    refine lp_I (P := fun k s => (k = 0 ∧ s = (0, nI t, h)) ∨ ∃ k', k = k' + 1 ∧ s.1 = nI (blN σ t k') ∧ s.2.1 = nI (t + 1 + k') ∧ (∀ c, c ≠ 87 → s.2.2 c = h c) ∧ (∀ j, t < j → j < t + 1 + k' → s.2.2 87 j = nI (b2n (blA σ t k' j)))) _ (σ 0 2 - t) _ (Or.inl ⟨rfl, rfl⟩) (by omega) ?_ ?_
    · rintro k s hk (⟨rfl, rfl⟩ | ⟨k', rfl, p1, p2, p3, p4⟩)
      · refine ⟨(nI (blN σ t 0), nI (t + 1 + 0), su h 87 t (nI 0)), ?_, Or.inr ⟨0, rfl, rfl, rfl, ?_, fun j h1 h2 => by omega⟩⟩
        · have hw' : ¬ σ 0 2 ≤ t := by omega
          have l1 : ¬ lI 0 = nI t := by rw [lI_nI (by omega) (by omega)]; omega
          have l0 : lI 0 ≤ nI t := by
            rw [Int32.le_iff_toInt_le, n_toInt (by omega)]
            have : (lI 0).toInt = -1 := by decide
            omega
          show fX9_below_b19 _ _ _ _ = _
          unfold fX9_below_b19
          simp (disch := omega) [n_lit, n_eq, n_lt, n_le, n_mul, n_add, n_cl, grd_t, grd_T, su_c, su_s, su_k, wi_in, n_m1', n_m1, mW S, hw', l1, l0]
          simp [b2i, n_lit, su_s, show nzb (nI 0) = nI 0 by decide, blN, sm]
        · intro c hc
          show su h 87 t _ c = h c
          exact su_c _ _ _ hc
      · obtain ⟨a, b, hs⟩ := s
        dsimp only at p1 p2 p3 p4
        subst p1; subst p2
        have hw : t + 1 + k' < σ 0 2 := by omega
        have hw' : ¬ σ 0 2 ≤ t + 1 + k' := by omega
        have Ss : Sc hs 1 84 σ := Sc_cells S (fun c h1 h2 => p3 c (by omega)) (p3 84 (by omega))
        have ne : ¬ nI (t + 1 + k') = nI t := by rw [n_eq (by omega) (by omega)]; omega
        refine ⟨(nI (blN σ t (k' + 1)), nI (t + 1 + (k' + 1)), su hs 87 (t + 1 + k') (nI (b2n (blC σ t (t + 1 + k') (blA σ t k'))))), ?_, Or.inr ⟨k' + 1, rfl, rfl, rfl, ?_, ?_⟩⟩
        · show fX9_below_b19 (nI t) (nI (blN σ t k')) (nI (t + 1 + k')) hs = _
          unfold fX9_below_b19
          rw [mW Ss, if_neg (by rw [n_le (by omega) (by omega)]; exact hw'), if_pos ne, mFol Ss hw]
          show Option.bind (some (lI (fol σ (t + 1 + k')))) _ = _
          rw [Option.bind_some, bl_in rfl p4 (by omega) (by omega)]
          simp (disch := omega) [n_lit, n_eq, n_lt, n_le, n_mul, n_add, n_cl, grd_t, grd_T, su_c, su_s, su_k, wi_in, n_m1', n_m1, nz_b]
          cases hb : blC σ t (t + 1 + k') (blA σ t k') <;> simp [b2n, n_eq, blN, sm, hb] <;> rfl
        · intro c hc
          show su hs 87 _ _ c = h c
          rw [su_c _ _ _ hc]; exact p3 c hc
        · intro j h1 h2
          show su hs 87 _ _ 87 j = _
          rw [blA_s]
          by_cases e : j = t + 1 + k'
          · subst e; rw [su_s, if_pos rfl]
          · rw [su_k _ _ _ e, if_neg e]; exact p4 j h1 (by omega)
    · rintro s (⟨hk, -⟩ | ⟨k', hk, p1, p2, p3, p4⟩)
      · omega
      · obtain ⟨a, b, hs⟩ := s
        dsimp only at p1 p2 p3 p4
        subst p1; subst p2
        have ek : k' = σ 0 2 - (t + 1) := by omega
        subst ek
        have Ss : Sc hs 1 84 σ := Sc_cells S (fun c h1 h2 => p3 c (by omega)) (p3 84 (by omega))
        refine ⟨(nI (blN σ t (σ 0 2 - (t + 1))), hs), ?_, rfl, p3⟩
        show fX9_below_b19 _ _ _ _ = _
        unfold fX9_below_b19
        simp (disch := omega) [n_lit, n_eq, n_lt, n_le, n_mul, n_add, n_cl, grd_t, grd_T, su_c, su_s, su_k, wi_in, n_m1', n_m1, mW Ss]
  obtain ⟨⟨r, h1⟩, e, q1, q2⟩ := key
  dsimp only at q1 q2
  subst q1
  exact ⟨h1, e, q2⟩
theorem st_below (a : Int32) (h : Sto) (I : Inv h) : Agr (fX8_below a) (fX9_below a) h := by
  obtain ⟨σ, S⟩ := I.1
  have hW := lW S
  by_cases h1 : nI 0 ≤ a ∧ a ≤ lI (σ 0 2)
  · obtain ⟨t, ht, rfl⟩ := (arg_nm (by omega)).mp h1
    obtain ⟨hc, e1, q1⟩ := cBelow S ht
    have S1 : Sc hc 1 84 σ := Sc_congr (by rw [q1 1 (by omega)]) (fun j h1 h2 h3 => q1 _ (by omega)) (q1 _ (by omega)) (fun j _ => by rw [q1 84 (by omega)]) S
    obtain ⟨hm, e2, q2⟩ := mBelow S1 ht
    refine agr (nI (blN σ t (σ 0 2 - (t + 1)))) hc hm ?_ ?_ (Inv_congr (h := h) (fun c h1 h2 => ?_) ?_ ?_ (fun c hc => ?_) I)
    · unfold fX8_below
      rw [cHasW S, decide_eq_true h1]
      show Option.bind _ _ = _
      rw [e1]
      rfl
    · unfold fX9_below
      rw [mHasW S1, decide_eq_true h1]
      show Option.bind (lp _ _ _) _ = _
      rw [e2]
      rfl
    · rw [q2 c (by omega), q1 c h2]
    · rw [q2 83 (by omega), q1 83 (by omega)]
    · rw [q2 83 (by omega), q1 83 (by omega)]
    · rw [q2 c (by omega), q1 c (by omega)]
  · refine ag_f0 I ?_ ?_
    · unfold fX8_below; simp [cHasW S, h1]
    · intro h' e
      subst e
      unfold fX9_below; simp [mHasW (Sc_find S), h1]
