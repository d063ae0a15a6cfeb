/-! 61: score, found -/
def TU (h : Sto) (t : Nat) (cs : List Nat) (N : Nat) : Prop := h 24 t = nI N ∧ cs.length ≤ 80 ∧ h 84 (718 + 81 * t) = nI cs.length ∧ (∀ j, j < cs.length → h 84 (718 + 81 * t + (1 + j)) = nI (cs.getD j 0)) ∧ okc cs ∧ ∀ R : Nat → Int32, ∃ v, evs R cs [] = some [v] ∧ ∀ (h' : Sto) (p : Nat), 0 < p → p < 63 → shp p = (0, 80, []) → (∀ j, j < N → h' p j = h (18 + t) j) → (∀ k, k < 8 → h' 63 k = R k) → ∃ H, fX2_read p (nI N) h' = some (v, H) ∧ ∀ c, c ≠ 64 → H c = h' c
theorem TxS.tu {h : Sto} {T t : Nat} (X : TxS h 1 84 T) (ht : t < T) : ∃ cs N, TU h t cs N := by
  obtain ⟨cs, N, e1, e2, e3, e4, e5, e6, e7⟩ := X.2.2.2 t ht
  have e1 : h 24 t = nI N := e1
  exact ⟨cs, N, e1, e3, e4, e5, e6, e7⟩
/-- cells in which sums are reckoned -/
def FrS (h H : Sto) : Prop := ∀ c, c ≠ 63 → c ≠ 64 → c ≠ 82 → c ≠ 90 → c ≠ 91 → H c = h c
theorem FrS.refl (h : Sto) : FrS h h := fun _ _ _ _ _ _ => rfl
theorem FrS.trans {a b c : Sto} (x : FrS a b) (y : FrS b c) : FrS a c := fun i h1 h2 h3 h4 h5 => (y i h1 h2 h3 h4 h5).trans (x i h1 h2 h3 h4 h5)
theorem Inv_frS {h H : Sto} (I : Inv h) (e : FrS h H) : Inv H :=
  Inv_congr (fun c h1 h2 => e c (by omega) (by omega) (by omega) (by omega) (by omega)) (by rw [e 83 (by omega) (by omega) (by omega) (by omega) (by omega)]) (by rw [e 83 (by omega) (by omega) (by omega) (by omega) (by omega)]) (fun c hc => e c (by omega) (by omega) (by omega) (by omega) (by omega)) I
section FND
variable {h g : Sto} {σ : Gh} {i t N : Nat} {cs : List Nat}
theorem Sc_frS (S : Sc h 1 84 σ) (e : FrS h g) : Sc g 1 84 σ := Sc_cells S (fun c h1 h2 => e c (by omega) (by omega) (by omega) (by omega) (by omega)) (e 84 (by omega) (by omega) (by omega) (by omega) (by omega))
theorem cSc (S : Sc h 1 84 σ) (U : TU h t cs N) (e : FrS h g) (hi : i < σ 0 0) (ht : t < 6) : ∃ H, fX8_scoreOf (nI t) (nI i) g = some (scv σ cs i, H) ∧ ∀ c, c ≠ 63 → c ≠ 64 → H c = g c := by
  obtain ⟨u1, u2, u3, u4, u5, u6⟩ := U
  obtain ⟨v, v1, v2⟩ := u6 (sgR σ i)
  have ev : scv σ cs i = v := by unfold scv; rw [v1]; rfl
  rw [ev]
  refine cScore (Sc_frS S e) hi ht (N := N) (by rw [e 24 (by omega) (by omega) (by omega) (by omega) (by omega)]; exact u1) (fun h' p p1 p2 p3 p4 p5 => v2 h' p p1 p2 p3 (fun j hj => ?_) p5)
  rw [p4 j hj, e (18 + t) (by omega) (by omega) (by omega) (by omega) (by omega)]
theorem mSc (S : Sc h 1 84 σ) (U : TU h t cs N) (e84 : g 84 = h 84) (hi : i < σ 0 0) (ht : t < 6) : ∃ H, fX9_scoreOf (nI t) (nI i) g = some (scv σ cs i, H) ∧ ∀ c, c ≠ 90 → H c = g c := by
  obtain ⟨u1, u2, u3, u4, u5, u6⟩ := U
  obtain ⟨v, v1, v2⟩ := u6 (sgR σ i)
  have ev : scv σ cs i = v := by unfold scv; rw [v1]; rfl
  rw [ev]
  exact mScore S e84 hi ht u2 (by rw [e84]; exact u3) (fun j hj => by rw [e84]; exact u4 j hj) u5 v1
theorem cGsc (S : Sc h 1 84 σ) (U : TU h t cs N) (e : FrS h g) (ht : t < 6) : ∃ H, fX8_gatherScores (nI t) g = some H ∧ (∀ i, i < σ 0 0 → H 82 i = scv σ cs i) ∧ ∀ c, c ≠ 63 → c ≠ 64 → c ≠ 82 → H c = g c := by
  have hN := lN14 S
  have key : ∃ H, lp (fun s : Int32 × Sto => fX8_gatherScores_b2 (nI t) s.1 s.2) FUEL (nI 0, g) = some H ∧ ((∀ i, i < σ 0 0 → H 82 i = scv σ cs i) ∧ ∀ c, c ≠ 63 → c ≠ 64 → c ≠ 82 → H c = g c) := by
    refine lp_I (f := fun s : Int32 × Sto => fX8_gatherScores_b2 (nI t) s.1 s.2) (fun j s => s.1 = nI j ∧ (∀ i, i < j → s.2 82 i = scv σ cs i) ∧ ∀ c, c ≠ 63 → c ≠ 64 → c ≠ 82 → s.2 c = g c) _ (σ 0 0) (nI 0, g) ⟨rfl, fun i hi => absurd hi (Nat.not_lt_zero _), fun _ _ _ _ => rfl⟩ (by omega) ?_ ?_
    · rintro j ⟨k, s⟩ hj ⟨rfl, a1, a2⟩
      dsimp only at *
      have e2 : FrS h s := fun c h1 h2 h3 h4 h5 => (a2 c h1 h2 h3).trans (e c h1 h2 h3 h4 h5)
      obtain ⟨H, b1, b2⟩ := cSc S U e2 hj ht
      have hj' : ¬ σ 0 0 ≤ j := by omega
      have S2 := Sc_frS S e2
      refine ⟨(nI (j + 1), su H 82 j (scv σ cs j)), ?_, rfl, fun i hi => ?_, fun c c1 c2 c3 => (su_c _ _ _ c3).trans ((b2 c c1 c2).trans (a2 c c1 c2 c3))⟩
      · show fX8_gatherScores_b2 (nI t) (nI j) s = _
        unfold fX8_gatherScores_b2
        simp (disch := omega) [n_lit, n_eq, n_lt, n_le, n_mul, n_add, n_cl, grd_t, grd_T, su_c, su_s, su_k, wi_in, n_m1', n_m1, cN S2, hj', b1, n_in]
      · show su H 82 j (scv σ cs j) 82 i = _
        by_cases z : i = j
        · subst z; rw [su_s]
        · rw [su_k _ _ _ z, b2 82 (by omega) (by omega)]; exact a1 i (by omega)
    · rintro ⟨k, s⟩ ⟨rfl, a1, a2⟩
      dsimp only at *
      have e2 : FrS h s := fun c h1 h2 h3 h4 h5 => (a2 c h1 h2 h3).trans (e c h1 h2 h3 h4 h5)
      refine ⟨s, ?_, a1, a2⟩
      show fX8_gatherScores_b2 (nI t) (nI (σ 0 0)) s = _
      unfold fX8_gatherScores_b2
      simp (disch := omega) [n_lit, n_eq, n_lt, n_le, n_mul, n_add, n_cl, grd_t, grd_T, su_c, su_s, su_k, wi_in, n_m1', n_m1, cN (Sc_frS S e2)]
  obtain ⟨H, k1, k2⟩ := key
  refine ⟨H, ?_, k2⟩
  unfold fX8_gatherScores
  rw [show ((0 : Int32), g) = (nI 0, g) from rfl, k1]
  rfl
theorem mGsc (S : Sc h 1 84 σ) (U : TU h t cs N) (e : g 84 = h 84) (ht : t < 6) : ∃ H, fX9_findScores (nI t) g = some H ∧ (∀ i, i < σ 0 0 → H 91 i = scv σ cs i) ∧ ∀ c, c ≠ 90 → c ≠ 91 → H c = g c := by
  have hN := lN14 S
  have key : ∃ H, lp (fun s : Int32 × Sto => fX9_findScores_b2 (nI t) s.1 s.2) FUEL (nI 0, g) = some H ∧ ((∀ i, i < σ 0 0 → H 91 i = scv σ cs i) ∧ ∀ c, c ≠ 90 → c ≠ 91 → H c = g c) := by
    refine lp_I (f := fun s : Int32 × Sto => fX9_findScores_b2 (nI t) s.1 s.2) (fun j s => s.1 = nI j ∧ (∀ i, i < j → s.2 91 i = scv σ cs i) ∧ ∀ c, c ≠ 90 → c ≠ 91 → s.2 c = g c) _ (σ 0 0) (nI 0, g) ⟨rfl, fun i hi => absurd hi (Nat.not_lt_zero _), fun _ _ _ => rfl⟩ (by omega) ?_ ?_
    · rintro j ⟨k, s⟩ hj ⟨rfl, a1, a2⟩
      dsimp only at *
      have e2 : s 84 = h 84 := (a2 84 (by omega) (by omega)).trans e
      have e0 : s 84 0 = nI (σ 0 0) := by rw [e2]; exact mN S
      obtain ⟨H, b1, b2⟩ := mSc S U e2 hj ht
      have hj' : ¬ σ 0 0 ≤ j := by omega
      refine ⟨(nI (j + 1), su H 91 j (scv σ cs j)), ?_, rfl, fun i hi => ?_, fun c c1 c2 => (su_c _ _ _ c2).trans ((b2 c c1).trans (a2 c c1 c2))⟩
      · show fX9_findScores_b2 (nI t) (nI j) s = _
        unfold fX9_findScores_b2
        simp (disch := omega) [n_lit, n_eq, n_lt, n_le, n_mul, n_add, n_cl, grd_t, grd_T, su_c, su_s, su_k, wi_in, n_m1', n_m1, e0, hj', b1, n_in]
      · show su H 91 j (scv σ cs j) 91 i = _
        by_cases z : i = j
        · subst z; rw [su_s]
        · rw [su_k _ _ _ z, b2 91 (by omega)]; exact a1 i (by omega)
    · rintro ⟨k, s⟩ ⟨rfl, a1, a2⟩
      dsimp only at *
      have e2 : s 84 = h 84 := (a2 84 (by omega) (by omega)).trans e
      have e0 : s 84 0 = nI (σ 0 0) := by rw [e2]; exact mN S
      refine ⟨s, ?_, a1, a2⟩
      show fX9_findScores_b2 (nI t) (nI (σ 0 0)) s = _
      unfold fX9_findScores_b2
      simp (disch := omega) [n_lit, n_eq, n_lt, n_le, n_mul, n_add, n_cl, grd_t, grd_T, su_c, su_s, su_k, wi_in, n_m1', n_m1, e0]
  obtain ⟨H, k1, k2⟩ := key
  refine ⟨H, ?_, k2⟩
  unfold fX9_findScores
  rw [show ((0 : Int32), g) = (nI 0, g) from rfl, k1]
  rfl
def fd (σ : Gh) (cs : List Nat) (x : Int32) (i : Nat) : Nat := if scv σ cs i < x then 0 else 1
theorem fd_le (x : Int32) (j : Nat) : fd σ cs x j ≤ 1 := by unfold fd; split <;> omega
theorem cFs (S : Sc g 1 84 σ) (hs : ∀ i, i < σ 0 0 → g 82 i = scv σ cs i) (x : Int32) : fX8_foundSet x g = some (nI (bs (fd σ cs x) (σ 0 0))) := by
  have hN := lN14 S
  have hl : lp (fun s => fX8_foundSet_b4 x g s.1 s.2) FUEL (0, 0) = some (nI (bs (fd σ cs x) (σ 0 0))) := by
    refine lp_F (g := fun i => (nI (bs (fd σ cs x) i), nI i)) (σ 0 0) _ rfl (by omega) ?_ ?_
    · intro i hi
      show fX8_foundSet_b4 x g (nI (bs (fd σ cs x) i)) (nI i) = _
      unfold fX8_foundSet_b4
      have hi' : ¬ σ 0 0 ≤ i := by omega
      have e82 := hs i hi
      by_cases z : scv σ cs i < x
      · have h1 : fd σ cs x i = 0 := if_pos z
        simp (disch := omega) [n_lit, n_eq, n_lt, n_le, n_mul, n_add, n_cl, grd_t, grd_T, su_c, su_s, su_k, wi_in, n_m1', n_m1, cN S, hi', n_in, e82, z, bs_0 h1]
      · have h1 : fd σ cs x i = 1 := if_neg z
        simp (disch := omega) [n_lit, n_eq, n_lt, n_le, n_mul, n_add, n_cl, grd_t, grd_T, su_c, su_s, su_k, wi_in, n_m1', n_m1, cN S, hi', n_in, e82, z, n_shl, n_or, bs_or (f := fd σ cs x) (fun i _ => fd_le x i) h1]
    · show fX8_foundSet_b4 x g _ (nI (σ 0 0)) = _
      unfold fX8_foundSet_b4
      simp (disch := omega) [n_lit, n_eq, n_lt, n_le, n_mul, n_add, n_cl, grd_t, grd_T, su_c, su_s, su_k, wi_in, n_m1', n_m1, cN S]
  unfold fX8_foundSet
  rw [hl]
  rfl
theorem mFs (S : Sc h 1 84 σ) (e84 : g 84 = h 84) (hs : ∀ i, i < σ 0 0 → g 91 i = scv σ cs i) (x : Int32) : fX9_foundBy x g = some (nI (bs (fd σ cs x) (σ 0 0))) := by
  have hN := lN14 S
  have e0 : g 84 0 = nI (σ 0 0) := by rw [e84]; exact mN S
  have hl : lp (fun s => fX9_foundBy_b4 x g s.1 s.2) FUEL (0, 0) = some (nI (bs (fd σ cs x) (σ 0 0))) := by
    refine lp_F (g := fun i => (nI (bs (fd σ cs x) i), nI i)) (σ 0 0) _ rfl (by omega) ?_ ?_
    · intro i hi
      show fX9_foundBy_b4 x g (nI (bs (fd σ cs x) i)) (nI i) = _
      unfold fX9_foundBy_b4
      have hi' : ¬ σ 0 0 ≤ i := by omega
      have e82 := hs i hi
      by_cases z : scv σ cs i < x
      · have h1 : fd σ cs x i = 0 := if_pos z
        simp (disch := omega) [n_lit, n_eq, n_lt, n_le, n_mul, n_add, n_cl, grd_t, grd_T, su_c, su_s, su_k, wi_in, n_m1', n_m1, e0, hi', n_in, e82, z, n_or, bs_0 h1]
      · have h1 : fd σ cs x i = 1 := if_neg z
        simp (disch := omega) [n_lit, n_eq, n_lt, n_le, n_mul, n_add, n_cl, grd_t, grd_T, su_c, su_s, su_k, wi_in, n_m1', n_m1, e0, hi', n_in, e82, z, n_shl, n_or, bs_or (f := fd σ cs x) (fun i _ => fd_le x i) h1]
    · show fX9_foundBy_b4 x g _ (nI (σ 0 0)) = _
      unfold fX9_foundBy_b4
      simp (disch := omega) [n_lit, n_eq, n_lt, n_le, n_mul, n_add, n_cl, grd_t, grd_T, su_c, su_s, su_k, wi_in, n_m1', n_m1, e0]
  unfold fX9_foundBy
  rw [hl]
  rfl
theorem mPeople (S : Sc g 1 84 σ) : fX9_people g = some (nI (bs (ppl σ) (σ 0 0))) := by
  have hN := lN14 S
  have hp : ∀ i, ppl σ i ≤ 1 := fun i => b2n_le _
  have hl : lp (fun s => fX9_people_b4 g s.1 s.2) FUEL (0, 0) = some (nI (bs (ppl σ) (σ 0 0))) := by
    refine lp_F (g := fun i => (nI (bs (ppl σ) i), nI i)) (σ 0 0) _ rfl (by omega) ?_ ?_
    · intro i hi
      show fX9_people_b4 g (nI (bs (ppl σ) i)) (nI i) = _
      unfold fX9_people_b4
      have hi' : ¬ σ 0 0 ≤ i := by omega
      cases ho : isO (σ 1 i) 1 with
      | true =>
        have h1 : ppl σ i = 1 := by unfold ppl; rw [ho]; rfl
        simp (disch := omega) [n_lit, n_eq, n_lt, n_le, n_mul, n_add, n_cl, grd_t, grd_T, su_c, su_s, su_k, wi_in, n_m1', n_m1, mN S, hi', mIsP S hi, ho, n_shl, n_or, bs_or (f := ppl σ) (fun i _ => hp i) h1]
      | false =>
        have h1 : ppl σ i = 0 := by unfold ppl; rw [ho]; rfl
        simp (disch := omega) [n_lit, n_eq, n_lt, n_le, n_mul, n_add, n_cl, grd_t, grd_T, su_c, su_s, su_k, wi_in, n_m1', n_m1, mN S, hi', mIsP S hi, ho, n_or, bs_0 h1]
    · show fX9_people_b4 g _ (nI (σ 0 0)) = _
      unfold fX9_people_b4
      simp (disch := omega) [n_lit, n_eq, n_lt, n_le, n_mul, n_add, n_cl, grd_t, grd_T, su_c, su_s, su_k, wi_in, n_m1', n_m1, mN S]
  unfold fX9_people
  rw [hl]
  rfl
theorem ev_all {k : Nat} (hk : k ≤ 14) : jshl 1 (nI k) - 1 = nI (2 ^ k - 1) := by
  have : 0 < 2 ^ k := Nat.two_pow_pos k
  rw [show (1 : Int32) = nI 1 from rfl, n_shl (by omega), n_sub (by omega)]
theorem an_lt {a b : Nat} (ha : a < 16384) : anN a b < 16384 := by
  unfold anN
  have h1 : a &&& b ≤ a := Nat.and_le_left
  have : a ^^^ (a &&& b) < 2 ^ 14 := Nat.xor_lt_two_pow ha (by omega)
  exact this
theorem an_comm (a b c : Nat) : anN (anN a b) c = anN (anN a c) b := by
  apply Nat.eq_of_testBit_eq
  intro i
  rw [anN_bit, anN_bit, anN_bit, anN_bit]
  cases a.testBit i <;> cases b.testBit i <;> cases c.testBit i <;> rfl
def wrN (σ : Gh) (cs : List Nat) (x : Int32) : Nat := bs (fd σ cs x) (σ 0 0) &&& bs (ppl σ) (σ 0 0)
def msN (σ : Gh) (cs : List Nat) (x : Int32) : Nat := anN (anN (2 ^ σ 0 0 - 1) (bs (ppl σ) (σ 0 0))) (bs (fd σ cs x) (σ 0 0))
theorem wrN_lt (S : Sc g 1 84 σ) (x : Int32) : wrN σ cs x < 16384 := by
  have h1 := bs_l31 (lN14 S) (fun i _ => fd_le (σ := σ) (cs := cs) x i)
  have : wrN σ cs x ≤ bs (fd σ cs x) (σ 0 0) := Nat.and_le_left
  omega
theorem pw_lt (S : Sc g 1 84 σ) : 2 ^ σ 0 0 - 1 < 16384 := by
  have : 2 ^ σ 0 0 ≤ 2 ^ 14 := Nat.pow_le_pow_right (by decide) (lN14 S)
  omega
theorem msN_lt (S : Sc g 1 84 σ) (x : Int32) : msN σ cs x < 16384 := an_lt (an_lt (pw_lt S))
theorem cWr (S : Sc g 1 84 σ) (hs : ∀ i, i < σ 0 0 → g 82 i = scv σ cs i) (x : Int32) : fX8_wrongedSet x g = some (nI (wrN σ cs x)) := by
  unfold fX8_wrongedSet
  rw [cFs S hs, Option.bind_some, cPeople S, Option.bind_some, n_and]
  rfl
theorem cMs (S : Sc g 1 84 σ) (hs : ∀ i, i < σ 0 0 → g 82 i = scv σ cs i) (x : Int32) : fX8_missedSet x g = some (nI (msN σ cs x)) := by
  unfold fX8_missedSet fX1_machineSet
  rw [cPeople S, Option.bind_some, Option.bind_some, cFs S hs, Option.bind_some, cN S, ev_all (lN14 S), show (-1 : Int32) = lI 0 from rfl, n_an, n_an]
  rfl
theorem mMs (S : Sc g 1 84 σ) (x : Int32) : (nI (2 ^ σ 0 0 - 1) &&& (nI (bs (fd σ cs x) (σ 0 0)) ^^^ (-1))) &&& (nI (bs (ppl σ) (σ 0 0)) ^^^ (-1)) = nI (msN σ cs x) := by
  rw [show (-1 : Int32) = lI 0 from rfl, n_an, n_an, an_comm]
  rfl
theorem mEv (S : Sc g 1 84 σ) : fX9_every g = some (nI (2 ^ σ 0 0 - 1)) := by
  unfold fX9_every
  rw [mN S, ev_all (lN14 S)]
end FND
theorem cTx {h : Sto} {T : Nat} (e : h 16 0 = nI T) (x : Int32) : fX6_has x h = some (decide (nI 0 ≤ x ∧ x ≤ lI T)) := by
  unfold fX6_has
  rw [wi_in, e]
  rfl
theorem mTx {h : Sto} {T : Nat} (e : h 84 4 = nI T) (x : Int32) : fX9_isText x h = some (decide (nI 0 ≤ x ∧ x ≤ lI T)) := by
  unfold fX9_isText
  rw [e, show nI T - 1 = lI T from rfl, in_v]
  rfl
theorem st_score (a b : Int32) (h : Sto) (I : Inv h) : Agr (fX8_score a b) (fX9_score a b) h := by
  obtain ⟨σ, S⟩ := I.1
  obtain ⟨T, X⟩ := I.2.1
  have hN := lN14 S
  have hT := X.1
  have x1 : h 16 0 = nI T := X.2.1
  have x2 : h 84 4 = nI T := X.2.2.1
  by_cases h1 : nI 0 ≤ a ∧ a ≤ lI T
  · by_cases h2 : nI 0 ≤ b ∧ b ≤ lI (σ 0 0)
    · obtain ⟨t, ht, rfl⟩ := (arg_nm (by omega)).mp h1
      obtain ⟨i, hi, rfl⟩ := (arg_nm (by omega)).mp h2
      obtain ⟨cs, N, U⟩ := X.tu ht
      obtain ⟨H, e1, e2⟩ := cSc S U (FrS.refl h) hi (by omega)
      have F1 : FrS h H := fun c c1 c2 c3 c4 c5 => e2 c c1 c2
      obtain ⟨H2, e3, e4⟩ := mSc S U (F1 84 (by omega) (by omega) (by omega) (by omega) (by omega)) hi (by omega)
      refine agr (scv σ cs i) H H2 ?_ ?_ (Inv_frS I (F1.trans (fun c c1 c2 c3 c4 c5 => e4 c c4)))
      · unfold fX8_score
        rw [cTx x1, cHas S, e1]
        simp [h1, h2]
      · unfold fX9_score
        rw [mTx (by rw [e2 84 (by omega) (by omega)]; exact x2), mHas (Sc_frS S F1), e3]
        simp [h1, h2]
    · refine ag_f0 I ?_ ?_
      · unfold fX8_score
        rw [cTx x1, cHas S]
        simp [h1, h2]
      · intro h1' e
        subst e
        unfold fX9_score
        rw [mTx (by rw [su_c _ _ _ (by omega)]; exact x2), mHas (Sc_find S)]
        simp [h1, h2]
  · refine ag_f0 I ?_ ?_
    · unfold fX8_score
      rw [cTx x1]
      simp [h1]
    · intro h1' e
      subst e
      unfold fX9_score
      rw [mTx (by rw [su_c _ _ _ (by omega)]; exact x2)]
      simp [h1]
theorem st_found (a b c : Int32) (h : Sto) (I : Inv h) : Agr (fX8_found a b c) (fX9_found a b c) h := by
  obtain ⟨σ, S⟩ := I.1
  obtain ⟨T, X⟩ := I.2.1
  have hN := lN14 S
  have hT := X.1
  have x1 : h 16 0 = nI T := X.2.1
  have x2 : h 84 4 = nI T := X.2.2.1
  have ein : ∀ h', fX9_in c.toInt64 0 2 h' = some (decide (nI 0 ≤ c ∧ c ≤ nI 2)) := fun h' => in_n c 0 2 (by omega) (by omega) h'
  by_cases h1 : nI 0 ≤ a ∧ a ≤ lI T
  · by_cases h2 : nI 0 ≤ c ∧ c ≤ nI 2
    · obtain ⟨t, ht, rfl⟩ := (arg_nm (by omega)).mp h1
      obtain ⟨w, rfl, -, hw⟩ := arg_in (by omega) (by omega) h2
      obtain ⟨cs, N, U⟩ := X.tu ht
      obtain ⟨H, e1, e2, e3⟩ := cGsc S U (FrS.refl h) (by omega)
      have F1 : FrS h H := fun c c1 c2 c3 c4 c5 => e3 c c1 c2 c3
      obtain ⟨H2, e4, e5, e6⟩ := mGsc S U (F1 84 (by omega) (by omega) (by omega) (by omega) (by omega)) (by omega)
      have F2 : FrS h H2 := F1.trans (fun c c1 c2 c3 c4 c5 => e6 c c4 c5)
      have S1 := Sc_frS S F1
      have S2 := Sc_frS S F2
      have x3 : H 84 4 = nI T := by rw [e3 84 (by omega) (by omega) (by omega)]; exact x2
      refine agr (if w = 0 then nI (bs (fd σ cs b) (σ 0 0)) else if w = 1 then nI (wrN σ cs b) else nI (msN σ cs b)) H H2 ?_ ?_ (Inv_frS I F2)
      · unfold fX8_found
        rw [cTx x1, wi_in, e1, Option.bind_some, Option.bind_some, Option.bind_some, cMs S1 e2, cWr S1 e2, cFs S1 e2]
        rcases (show w = 0 ∨ w = 1 ∨ w = 2 by omega) with rfl | rfl | rfl
        · simp (disch := omega) [n_lit, n_eq, n_lt, n_le, n_mul, n_add, n_cl, grd_t, grd_T, su_c, su_s, su_k, wi_in, n_m1', n_m1, h1, h2]
        · simp (disch := omega) [n_lit, n_eq, n_lt, n_le, n_mul, n_add, n_cl, grd_t, grd_T, su_c, su_s, su_k, wi_in, n_m1', n_m1, h1, h2]
        · simp (disch := omega) [n_lit, n_eq, n_lt, n_le, n_mul, n_add, n_cl, grd_t, grd_T, su_c, su_s, su_k, wi_in, n_m1', n_m1, h1, h2]
      · unfold fX9_found
        rw [mTx x3, ein, e4, Option.bind_some, Option.bind_some, Option.bind_some, mFs S2 rfl e5, Option.bind_some, mEv S2, mPeople S2, Option.bind_some, Option.bind_some, Option.bind_some, mMs S2, n_and]
        rcases (show w = 0 ∨ w = 1 ∨ w = 2 by omega) with rfl | rfl | rfl
        · simp (disch := omega) [n_lit, n_eq, n_lt, n_le, n_mul, n_add, n_cl, grd_t, grd_T, su_c, su_s, su_k, wi_in, n_m1', n_m1, h1, h2]
        · simp (disch := omega) [n_lit, n_eq, n_lt, n_le, n_mul, n_add, n_cl, grd_t, grd_T, su_c, su_s, su_k, wi_in, n_m1', n_m1, h1, h2]
          rfl
        · simp (disch := omega) [n_lit, n_eq, n_lt, n_le, n_mul, n_add, n_cl, grd_t, grd_T, su_c, su_s, su_k, wi_in, n_m1', n_m1, h1, h2]
    · refine ag_f0 I ?_ ?_
      · unfold fX8_found
        rw [cTx x1, wi_in]
        simp [n_lit, h1, h2]
      · intro h1' e
        subst e
        unfold fX9_found
        rw [mTx (by rw [su_c _ _ _ (by omega)]; exact x2), ein]
        simp [h1, h2]
  · refine ag_f0 I ?_ ?_
    · unfold fX8_found
      rw [cTx x1]
      simp [h1]
    · intro h1' e
      subst e
      unfold fX9_found
      rw [mTx (by rw [su_c _ _ _ (by omega)]; exact x2)]
      simp [h1]
