/-! 37: speaks, next -/
section SPK2
variable {h : Sto} {σ : Gh} {n s : Nat}
theorem mBr (a b : Bool) : (some a).bind (fun q => if q = true then (some b).bind (fun r => if r = true then some true else some false) else some false) = some (a && b) := by cases a <;> cases b <;> rfl
theorem ifb (a : Bool) : (if a = true then some true else some false) = some a := by cases a <;> rfl
theorem cSpeak (S : Sc h 1 84 σ) (hn : n < σ 0 0) (hs : s < 1000000) : fX3_isSpeaking (nI n) (nI s) h = some (spS σ n s) := by
  have hN := lN14 S
  obtain ⟨a, b⟩ := t4 S hn
  unfold fX3_isSpeaking spS
  rcases (show σ 1 n = 0 ∨ σ 1 n = 1 ∨ σ 1 n = 2 ∨ σ 1 n = 3 ∨ σ 1 n = 4 ∨ σ 1 n = 5 ∨ σ 1 n = 6 ∨ σ 1 n = 7 by omega) with k | k | k | k | k | k | k | k
  · simp (disch := omega) [n_lit, n_eq, n_lt, n_le, n_mul, n_add, n_cl, grd_t, grd_T, su_c, su_s, su_k, wi_in, n_m1', n_m1, a, k, cNmS S hn hs]
  · simp (disch := omega) [n_lit, n_eq, n_lt, n_le, n_mul, n_add, n_cl, grd_t, grd_T, su_c, su_s, su_k, wi_in, n_m1', n_m1, a, k, cPeS S hn hs]
  · simp (disch := omega) [n_lit, n_eq, n_lt, n_le, n_mul, n_add, n_cl, grd_t, grd_T, su_c, su_s, su_k, wi_in, n_m1', n_m1, a, k, cCkS S hn hs]
  · simp (disch := omega) [n_lit, n_eq, n_lt, n_le, n_mul, n_add, n_cl, grd_t, grd_T, su_c, su_s, su_k, wi_in, n_m1', n_m1, a, k, cPeS S hn hs]
  · simp (disch := omega) [n_lit, n_eq, n_lt, n_le, n_mul, n_add, n_cl, grd_t, grd_T, su_c, su_s, su_k, wi_in, n_m1', n_m1, a, k, cCkS S hn hs, cHrS S hn hs, ifb]
    cases ckS σ n s <;> simp
  · by_cases z : 2 * n ≤ s
    · have z' : ¬ s < 2 * n := by omega
      simp (disch := omega) [n_lit, n_eq, n_lt, n_le, n_mul, n_add, n_cl, grd_t, grd_T, su_c, su_s, su_k, wi_in, n_m1', n_m1, a, k, n_sub, cNmS S hn (show s - 2 * n < 1000000 by omega), z, z']
      unfold nmS
      by_cases y : (s - 2 * n) % σ 2 n = 0 <;> simp [y]
    · have z' : s < 2 * n := by omega
      simp (disch := omega) [n_lit, n_eq, n_lt, n_le, n_mul, n_add, n_cl, grd_t, grd_T, su_c, su_s, su_k, wi_in, n_m1', n_m1, a, k, z, z']
  · simp (disch := omega) [n_lit, n_eq, n_lt, n_le, n_mul, n_add, n_cl, grd_t, grd_T, su_c, su_s, su_k, wi_in, n_m1', n_m1, a, k, cPeS S hn hs, cLed S hn hs, ifb]
    cases nmS σ n s <;> cases hrS σ n s <;> simp
  · unfold fX3_isAsHalf fX8_dayOf
    by_cases z : s / 1000 % 7 = 6
    · simp (disch := omega) [n_lit, n_eq, n_lt, n_le, n_mul, n_add, n_cl, grd_t, grd_T, su_c, su_s, su_k, wi_in, n_m1', n_m1, a, k, n_div, n_rem, z, cCkS S hn hs, cHrS S hn hs, ifb]
      cases ckS σ n s <;> simp
    · simp (disch := omega) [n_lit, n_eq, n_lt, n_le, n_mul, n_add, n_cl, grd_t, grd_T, su_c, su_s, su_k, wi_in, n_m1', n_m1, a, k, n_div, n_rem, z, cNmS S hn hs, cHrS S hn hs, ifb]
      cases nmS σ n s <;> simp
theorem mLedS (S : Sc h 1 84 σ) (hn : n < σ 0 0) (hs : s < 1000000) : ((fX9_of (nI n) (nI 4) h).bind fun q_54 => if q_54 < nI 0 then (some false) else ((fX9_of (nI n) (nI 4) h).bind fun q_57 => (fX9_isLed q_57 (lI s) h).bind fun q_59 => if q_59 = true then (some true) else (some false))) = some (ldS σ n s) := by
  have hN := lN14 S
  obtain ⟨a, b⟩ := t8 S hn
  rw [o4 S hn]
  show (if lI (σ 5 n) < nI 0 then some false else Option.bind (fX9_isLed (lI (σ 5 n)) (lI s) h) _) = _
  unfold ldS
  by_cases z : σ 5 n = 0
  · simp [z, lI_lt0]
  · obtain ⟨j, hj⟩ : ∃ j, σ 5 n = j + 1 := ⟨σ 5 n - 1, by omega⟩
    rw [hj, lI_s, mLed S j (by omega) hs]
    have : ¬ nI j < nI 0 := by rw [n_lt (by omega) (by omega)]; omega
    rw [if_neg this]
    show (if _ = true then some true else some false) = _
    rw [ifb]
    simp
theorem mSpeak (S : Sc h 1 84 σ) (hn : n < σ 0 0) (hs : s < 1000000) : fX9_doesSpeak (nI n) (nI s) h = some (spS σ n s) := by
  have hN := lN14 S
  have hk := t4 S hn
  have hg := t5 S hn
  have hL := mLedS S hn hs
  have e4 : fX9_of (nI n) 4 h = fX9_of (nI n) (nI 4) h := rfl
  have e0 : fX9_of (nI n) 0 h = some (nI (σ 1 n)) := o0 S hn
  have e1 : fX9_of (nI n) 1 h = some (nI (σ 2 n)) := o1 S hn
  have es : nI s - 1 = lI s := rfl
  unfold fX9_doesSpeak spS
  rw [e0]
  rcases (show σ 1 n = 0 ∨ σ 1 n = 1 ∨ σ 1 n = 2 ∨ σ 1 n = 3 ∨ σ 1 n = 4 ∨ σ 1 n = 5 ∨ σ 1 n = 6 ∨ σ 1 n = 7 by omega) with k | k | k | k | k | k | k | k
  · rw [k, Option.bind_some, if_neg (by decide), if_pos (by decide)]
    rw [mNmS S hn hs]
    rfl
  · rw [k, Option.bind_some, if_neg (by decide), if_neg (by decide), if_pos (by decide)]
    rw [mNmS S hn hs, mHrS S hn hs]
    cases nmS σ n s <;> cases hrS σ n s <;> rfl
  · rw [k, Option.bind_some, if_neg (by decide), if_neg (by decide), if_neg (by decide), if_pos (by decide)]
    rw [mCkS S hn hs]
    rfl
  · rw [k, Option.bind_some, if_neg (by decide), if_neg (by decide), if_neg (by decide), if_neg (by decide), if_pos (by decide)]
    rw [mNmS S hn hs, mHrS S hn hs]
    cases nmS σ n s <;> cases hrS σ n s <;> rfl
  · rw [k, Option.bind_some, if_neg (by decide), if_neg (by decide), if_neg (by decide), if_neg (by decide), if_neg (by decide), if_pos (by decide)]
    rw [mCkS S hn hs, mHrS S hn hs]
    cases ckS σ n s <;> cases hrS σ n s <;> rfl
  · rw [k, Option.bind_some, if_neg (by decide), if_neg (by decide), if_neg (by decide), if_neg (by decide), if_neg (by decide), if_neg (by decide), if_pos (by decide)]
    rw [e1]
    by_cases z : 2 * n ≤ s
    · have z' : ¬ s < 2 * n := by omega
      have z3 : ¬ σ 2 n = 0 := by omega
      have hm : (s - 2 * n) % σ 2 n < σ 2 n := Nat.mod_lt _ (by omega)
      simp (disch := omega) [n_lit, n_eq, n_lt, n_le, n_mul, n_add, n_cl, grd_t, grd_T, su_c, su_s, su_k, wi_in, n_m1', n_m1, n_sub, z, z', n_rem, z3]
      by_cases y : (s - 2 * n) % σ 2 n = 0 <;> simp [y]
    · have z' : s < 2 * n := by omega
      simp (disch := omega) [n_lit, n_eq, n_lt, n_le, n_mul, n_add, n_cl, grd_t, grd_T, su_c, su_s, su_k, wi_in, n_m1', n_m1, z, z']
  · rw [k, Option.bind_some, if_neg (by decide), if_neg (by decide), if_neg (by decide), if_neg (by decide), if_neg (by decide), if_neg (by decide), if_neg (by decide), if_pos (by decide)]
    rw [mNmS S hn hs, mHrS S hn hs, es]
    rw [← e4] at hL
    have hL' : ∀ X : Option Bool, X = some (ldS σ n s) → (Option.bind (some (nmS σ n s)) fun q_48 => if q_48 = true then (Option.bind (some (hrS σ n s)) fun q_51 => if q_51 = true then some true else X) else X) = some (nmS σ n s && hrS σ n s || ldS σ n s) := by
      intro X e
      rw [e]
      cases nmS σ n s <;> cases hrS σ n s <;> rfl
    exact hL' _ hL
  · rw [k, Option.bind_some, if_pos (by decide)]
    rw [mNmS S hn hs, mHrS S hn hs, mCkS S hn hs]
    by_cases z : s / 1000 % 7 = 6
    · have : jrem (nI s / 1000) 7 = 6 := by
        rw [show (1000 : Int32) = nI 1000 from rfl, show (7 : Int32) = nI 7 from rfl, n_div (by omega) (by omega) (by omega), n_rem (by omega) (by omega) (by omega), z]
        rfl
      rw [this, if_pos z]
      cases ckS σ n s <;> cases hrS σ n s <;> rfl
    · have : ¬ jrem (nI s / 1000) 7 = 6 := by
        rw [show (1000 : Int32) = nI 1000 from rfl, show (7 : Int32) = nI 7 from rfl, show (6 : Int32) = nI 6 from rfl, n_div (by omega) (by omega) (by omega), n_rem (by omega) (by omega) (by omega), n_eq (by omega) (by omega)]
        exact z
      rw [if_pos this, if_neg z]
      cases nmS σ n s <;> cases hrS σ n s <;> rfl
end SPK2
theorem cSec (x : Int32) (h : Sto) : fX8_isSecond x h = some (decide (nI 0 ≤ x ∧ x ≤ nI 29999)) := by
  unfold fX8_isSecond
  rw [wi_in]
  rfl
theorem mSec (x : Int32) (h : Sto) : fX9_isSecond x h = some (decide (nI 0 ≤ x ∧ x ≤ nI 29999)) := by
  unfold fX9_isSecond
  rw [in_n x 0 29999 (by omega) (by omega)]
  rfl
theorem st_speaks (a b : Int32) (h : Sto) (I : Inv h) : Agr (fX8_speaks a b) (fX9_speaks a b) h := by
  obtain ⟨σ, S⟩ := I.1
  have hN := lN14 S
  by_cases h1 : nI 0 ≤ a ∧ a ≤ lI (σ 0 0)
  · by_cases h2 : nI 0 ≤ b ∧ b ≤ nI 29999
    · obtain ⟨i, hi, rfl⟩ := (arg_nm (by omega)).mp h1
      obtain ⟨s, rfl, -, hs⟩ := arg_in (by omega) (by omega) h2
      refine agr (b2i (spS σ i s)) h h ?_ ?_ I
      · unfold fX8_speaks
        rw [cHas S, cSec, cSpeak S hi (by omega)]
        simp [h1, h2, asI]
      · unfold fX9_speaks
        rw [mHas S, mSec, mSpeak S hi (by omega)]
        simp [h1, h2]
        cases spS σ i s <;> rfl
    · refine ag_f0 I ?_ ?_
      · unfold fX8_speaks
        rw [cHas S, cSec]
        simp [h1, h2]
      · intro h1' e
        subst e
        unfold fX9_speaks
        rw [mHas (Sc_find S), mSec]
        simp [h1, h2]
  · refine ag_f0 I ?_ ?_
    · unfold fX8_speaks
      rw [cHas S]
      simp [h1]
    · intro h1' e
      subst e
      unfold fX9_speaks
      rw [mHas (Sc_find S)]
      simp [h1]
theorem st_next (a b : Int32) (h : Sto) (I : Inv h) : Agr (fX8_next a b) (fX9_next a b) h := by
  obtain ⟨σ, S⟩ := I.1
  have hN := lN14 S
  by_cases h1 : nI 0 ≤ a ∧ a ≤ lI (σ 0 0)
  · by_cases h2 : nI 0 ≤ b ∧ b ≤ nI 29999
    · obtain ⟨i, hi, rfl⟩ := (arg_nm (by omega)).mp h1
      obtain ⟨s, rfl, -, hs⟩ := arg_in (by omega) (by omega) h2
      generalize hK : min 2000 (30000 - s) = K
      generalize hm : fi (fun j => spS σ i (s + j)) K = m
      have m1 : m ≤ K := hm ▸ fi_le _ _
      have m2 : ∀ w, w < m → spS σ i (s + w) = false := fun w hw => fi_no (fun j => spS σ i (s + j)) K w (by rw [hm]; exact hw)
      have m3 : m < K → spS σ i (s + m) = true := fun hw => by
        have := fi_at (fun j => spS σ i (s + j)) K (by rw [hm]; exact hw)
        rw [hm] at this
        exact this
      have lc : ∀ h', Sc h' 1 84 σ → lp (fun q => fX8_next_b45 (nI i) (jmin ((nI s + 2000) - 1) 29999) h' q) FUEL (nI s) = some (if m < K then .inr (nI (s + m), h') else .inl ()) := by
        intro h' S
        have hj : jmin ((nI s + 2000) - 1) 29999 = nI (min (s + 1999) 29999) := by
          rw [show (2000 : Int32) = nI 2000 from rfl, show (1 : Int32) = nI 1 from rfl, show (29999 : Int32) = nI 29999 from rfl, n_add, n_sub (by omega), j_min (by omega) (by omega)]
          rfl
        rw [hj]
        refine lp_F (g := fun j => nI (s + j)) m _ rfl (by omega) ?_ ?_
        · intro j hj
          have hx := m2 j hj
          have hz : ¬ min (s + 1999) 29999 < s + j := by omega
          show fX8_next_b45 (nI i) (nI (min (s + 1999) 29999)) h' (nI (s + j)) = _
          unfold fX8_next_b45
          simp (disch := omega) [n_lit, n_eq, n_lt, n_le, n_mul, n_add, n_cl, grd_t, grd_T, su_c, su_s, su_k, wi_in, n_m1', n_m1, cSpeak S hi, hx, hz]
          rfl
        · show fX8_next_b45 (nI i) (nI (min (s + 1999) 29999)) h' (nI (s + m)) = _
          unfold fX8_next_b45
          by_cases z : m < K
          · have hx := m3 z
            have hz : ¬ min (s + 1999) 29999 < s + m := by omega
            simp (disch := omega) [n_lit, n_eq, n_lt, n_le, n_mul, n_add, n_cl, grd_t, grd_T, su_c, su_s, su_k, wi_in, n_m1', n_m1, cSpeak S hi, hx, hz, z]
          · have hz : min (s + 1999) 29999 < s + m := by omega
            simp (disch := omega) [n_lit, n_eq, n_lt, n_le, n_mul, n_add, n_cl, grd_t, grd_T, su_c, su_s, su_k, wi_in, n_m1', n_m1, hz, z]
      have lm : ∀ h', Sc h' 1 84 σ → lp (fun q => fX9_next_b24 (nI i) (nI s) h' q) FUEL (nI s) = some (if m < K then .inr (nI (s + m), h') else .inl ()) := by
        intro h' S
        refine lp_F (g := fun j => nI (s + j)) m _ rfl (by omega) ?_ ?_
        · intro j hj
          have hx := m2 j hj
          have hz : ¬ s + 2000 ≤ s + j := by omega
          have hz2 : ¬ 29999 < s + j := by omega
          show fX9_next_b24 (nI i) (nI s) h' (nI (s + j)) = _
          unfold fX9_next_b24
          rw [mSpeak S hi (by omega), hx]
          simp (disch := omega) [n_lit, n_eq, n_lt, n_le, n_mul, n_add, n_cl, grd_t, grd_T, su_c, su_s, su_k, wi_in, n_m1', n_m1, hz, hz2]
          rfl
        · show fX9_next_b24 (nI i) (nI s) h' (nI (s + m)) = _
          unfold fX9_next_b24
          by_cases z : m < K
          · have hx := m3 z
            have hz : ¬ s + 2000 ≤ s + m := by omega
            have hz2 : ¬ 29999 < s + m := by omega
            rw [mSpeak S hi (by omega), hx]
            simp (disch := omega) [n_lit, n_eq, n_lt, n_le, n_mul, n_add, n_cl, grd_t, grd_T, su_c, su_s, su_k, wi_in, n_m1', n_m1, hz, hz2, z]
          · by_cases hz : s + 2000 ≤ s + m
            · simp (disch := omega) [n_lit, n_eq, n_lt, n_le, n_mul, n_add, n_cl, grd_t, grd_T, su_c, su_s, su_k, wi_in, n_m1', n_m1, hz, z]
            · have hz2 : 29999 < s + m := by omega
              simp (disch := omega) [n_lit, n_eq, n_lt, n_le, n_mul, n_add, n_cl, grd_t, grd_T, su_c, su_s, su_k, wi_in, n_m1', n_m1, hz, hz2, z]
      by_cases z : m < K
      · refine agr (nI (s + m)) h h ?_ ?_ I
        · unfold fX8_next
          rw [cHas S, cSec, lc h S, if_pos z]
          simp [h1, h2]
        · unfold fX9_next
          rw [mHas S, mSec, lm h S, if_pos z]
          simp [h1, h2]
      · refine ag_f3 I ?_ ?_
        · unfold fX8_next
          rw [cHas S, cSec, lc h S, if_neg z]
          simp [h1, h2]
        · intro h1' e
          subst e
          unfold fX9_next
          rw [mHas (Sc_find S), mSec, lm _ (Sc_find S), if_neg z]
          simp [h1, h2]
    · refine ag_f0 I ?_ ?_
      · unfold fX8_next
        rw [cHas S, cSec]
        simp [h1, h2]
      · intro h1' e
        subst e
        unfold fX9_next
        rw [mHas (Sc_find S), mSec]
        simp [h1, h2]
  · refine ag_f0 I ?_ ?_
    · unfold fX8_next
      rw [cHas S]
      simp [h1]
    · intro h1' e
      subst e
      unfold fX9_next
      rw [mHas (Sc_find S)]
      simp [h1]
