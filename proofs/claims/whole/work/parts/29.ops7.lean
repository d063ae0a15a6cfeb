/-! 29: seed, count, status, tear, wipe, hold, as -/
theorem Inv_cells {h h' : Sto} {σ : Gh} (I : Inv h) (S : Sc h' 1 84 σ) (X : ∃ T, TxS h' 1 84 T) (K : Kp h') (P : Tp h') (e : ∀ c, 53 ≤ c → c < 62 → h' c = h c) (e3 : h' 93 = h 93) (e4 : h' 94 = h 94) (e5 : h' 95 = h 95) (e6 : h' 86 = h 86) : Inv h' := by
  obtain ⟨-, -, -, -, Sh, F⟩ := I
  exact ⟨⟨σ, S⟩, X, K, P, Shs_congr (fun c h1 h2 => e c h1 (by omega)) e3 e4 e5 Sh, fun i hi => by rw [e 61 (by omega) (by omega), e6]; exact F i hi⟩
theorem st_seed (v : Int32) (h : Sto) (I : Inv h) : Agr (fX8_seed v) (fX9_seed v) h := by
  obtain ⟨σ, S⟩ := I.1
  have d2 : h 1 4 = h 84 5 := S.1.2.2.2.2
  refine agr (h 1 4) (su h 1 4 v) (su (su h 1 4 v) 84 5 v) rfl ?_ (Inv_scene (τ := σ) I ?_ ?_ ?_ ?_ ?_ ?_ ?_)
  · unfold fX9_seed
    simp (disch := omega) [su_c, su_s, su_k, d2]
  · obtain ⟨⟨⟨a1, a2, a3⟩, ⟨b1, b2, b3⟩, ⟨c1, c2, c3⟩, d1, -⟩, T, ⟨s1, s2⟩, W, P⟩ := S
    refine ⟨⟨⟨a1, ?_, ?_⟩, ⟨b1, ?_, ?_⟩, ⟨c1, ?_, ?_⟩, ?_, ?_⟩, ScT_c T a1 (fun j h1 h2 => by simp (disch := omega) [su_c, su_s, su_k]) (fun j h1 h2 => by simp (disch := omega) [su_c, su_s, su_k]) rfl (fun j _ _ => rfl), ⟨?_, ?_⟩, ScW_c W c1 (by simp (disch := omega) [su_c, su_s, su_k]) (by simp (disch := omega) [su_c, su_s, su_k]) (by simp (disch := omega) [su_c, su_s, su_k]) (by simp (disch := omega) [su_c, su_s, su_k]) (fun j h1 h2 => by simp (disch := omega) [su_c, su_s, su_k]) rfl (Nat.le_refl _) (Nat.le_refl _) rfl rfl rfl, ScP_c P (by simp (disch := omega) [su_c, su_s, su_k]) (fun j h1 => by simp (disch := omega) [su_c, su_s, su_k]) rfl (Nat.le_refl _)⟩
    · simp (disch := omega) [su_c, su_s, su_k]; exact a2
    · simp (disch := omega) [su_c, su_s, su_k]; exact a3
    · simp (disch := omega) [su_c, su_s, su_k]; exact b2
    · simp (disch := omega) [su_c, su_s, su_k]; exact b3
    · simp (disch := omega) [su_c, su_s, su_k]; exact c2
    · simp (disch := omega) [su_c, su_s, su_k]; exact c3
    · simp (disch := omega) [su_c, su_s, su_k]; exact d1
    · simp (disch := omega) [su_c, su_s, su_k]
    · simp (disch := omega) [su_c, su_s, su_k]; exact s1
    · simp (disch := omega) [su_c, su_s, su_k]; exact s2
  · intro c hc; simp (disch := omega) [su_c, su_s, su_k]
  · intro c hc; simp (disch := omega) [su_c, su_s, su_k]
  · simp (disch := omega) [su_c, su_s, su_k]
  · intro t ht; simp (disch := omega) [su_c, su_s, su_k]
  · simp (disch := omega) [su_c, su_s, su_k]
  · intro j hj; simp (disch := omega) [su_c, su_s, su_k]
theorem st_count (x : Int32) (h : Sto) (I : Inv h) : Agr (fX8_count x) (fX9_count x) h := by
  obtain ⟨σ, S⟩ := I.1
  have hN := lN14 S
  by_cases z : x < 0 ∨ 8 < x
  · refine ag_f0 I ?_ ?_
    · unfold fX8_count; simp [z]
    · intro h1 _; unfold fX9_count; simp [z]
  · have z0 : ¬ x < 0 := fun q => z (Or.inl q)
    have z1 : ¬ 8 < x := fun q => z (Or.inr q)
    obtain ⟨w, rfl, -, hw⟩ := arg_in (x := x) (a := 0) (b := 8) (by omega) (by omega) ⟨Int32.not_lt.mp z0, Int32.not_lt.mp z1⟩
    obtain ⟨T, -, t2, t3, -⟩ := I.2.1
    have t2 : h 16 0 = nI T := t2
    obtain ⟨n, n1, n2, n3, -⟩ := I.2.2.2.1
    have l7 := bs_l31 hN (f7 S)
    have l8 := bs_l31 hN (f8 S)
    have m7 := mMany S 6 7 (by omega) (fun j hj => (S.2.1 j hj).2.2.2.2.2.2.1.1)
    have m8 := mMany S 7 8 (by omega) (fun j hj => (S.2.1 j hj).2.2.2.2.2.2.2.1)
    have d1 : h 10 2 = h 84 3 := S.1.2.2.2.1
    have d2 : h 1 4 = h 84 5 := S.1.2.2.2.2
    have key : ∃ r, fX8_count (nI w) h = some (r, h) ∧ fX9_count (nI w) h = some (r, h) := by
      unfold fX8_count fX9_count
      rcases (show w = 0 ∨ w = 1 ∨ w = 2 ∨ w = 3 ∨ w = 4 ∨ w = 5 ∨ w = 6 ∨ w = 7 ∨ w = 8 by omega) with rfl | rfl | rfl | rfl | rfl | rfl | rfl | rfl | rfl
      · exact ⟨nI (σ 0 0), by simp (disch := omega) [n_lit, n_eq, n_lt, n_le, n_mul, n_add, n_cl, grd_t, grd_T, su_c, su_s, su_k, wi_in, n_m1', n_m1, cN S], by simp (disch := omega) [n_lit, n_eq, n_lt, n_le, n_mul, n_add, n_cl, grd_t, grd_T, su_c, su_s, su_k, wi_in, n_m1', n_m1, mN S]⟩
      · exact ⟨nI (σ 0 1), by simp (disch := omega) [n_lit, n_eq, n_lt, n_le, n_mul, n_add, n_cl, grd_t, grd_T, su_c, su_s, su_k, wi_in, n_m1', n_m1, cNow S], by simp (disch := omega) [n_lit, n_eq, n_lt, n_le, n_mul, n_add, n_cl, grd_t, grd_T, su_c, su_s, su_k, wi_in, n_m1', n_m1, mNow S]⟩
      · exact ⟨nI (σ 0 2), by simp (disch := omega) [n_lit, n_eq, n_lt, n_le, n_mul, n_add, n_cl, grd_t, grd_T, su_c, su_s, su_k, wi_in, n_m1', n_m1, cW S], by simp (disch := omega) [n_lit, n_eq, n_lt, n_le, n_mul, n_add, n_cl, grd_t, grd_T, su_c, su_s, su_k, wi_in, n_m1', n_m1, mW S]⟩
      · exact ⟨h 84 3, by simp (disch := omega) [n_lit, n_eq, n_lt, n_le, n_mul, n_add, n_cl, grd_t, grd_T, su_c, su_s, su_k, wi_in, n_m1', n_m1, d1], by simp (disch := omega) [n_lit, n_eq, n_lt, n_le, n_mul, n_add, n_cl, grd_t, grd_T, su_c, su_s, su_k, wi_in, n_m1', n_m1]⟩
      · exact ⟨nI T, by simp (disch := omega) [n_lit, n_eq, n_lt, n_le, n_mul, n_add, n_cl, grd_t, grd_T, su_c, su_s, su_k, wi_in, n_m1', n_m1, t2], by simp (disch := omega) [n_lit, n_eq, n_lt, n_le, n_mul, n_add, n_cl, grd_t, grd_T, su_c, su_s, su_k, wi_in, n_m1', n_m1, t3]⟩
      · exact ⟨nI n, by simp (disch := omega) [n_lit, n_eq, n_lt, n_le, n_mul, n_add, n_cl, grd_t, grd_T, su_c, su_s, su_k, wi_in, n_m1', n_m1, n2], by simp (disch := omega) [n_lit, n_eq, n_lt, n_le, n_mul, n_add, n_cl, grd_t, grd_T, su_c, su_s, su_k, wi_in, n_m1', n_m1, n3]⟩
      · exact ⟨nI (sm (σ 7) (σ 0 0)), by simp (disch := omega) [n_lit, n_eq, n_lt, n_le, n_mul, n_add, n_cl, grd_t, grd_T, su_c, su_s, su_k, wi_in, n_m1', n_m1, cShut S, bc, pc_bs hN (f7 S)], by simp (disch := omega) [n_lit, n_eq, n_lt, n_le, n_mul, n_add, n_cl, grd_t, grd_T, su_c, su_s, su_k, wi_in, n_m1', n_m1, m7]⟩
      · exact ⟨nI (sm (σ 8) (σ 0 0)), by simp (disch := omega) [n_lit, n_eq, n_lt, n_le, n_mul, n_add, n_cl, grd_t, grd_T, su_c, su_s, su_k, wi_in, n_m1', n_m1, cAsk S, bc, pc_bs hN (f8 S)], by simp (disch := omega) [n_lit, n_eq, n_lt, n_le, n_mul, n_add, n_cl, grd_t, grd_T, su_c, su_s, su_k, wi_in, n_m1', n_m1, m8]⟩
      · exact ⟨h 84 5, by simp (disch := omega) [n_lit, n_eq, n_lt, n_le, n_mul, n_add, n_cl, grd_t, grd_T, su_c, su_s, su_k, wi_in, n_m1', n_m1, d2], by simp (disch := omega) [n_lit, n_eq, n_lt, n_le, n_mul, n_add, n_cl, grd_t, grd_T, su_c, su_s, su_k, wi_in, n_m1', n_m1]⟩
    obtain ⟨r, k1, k2⟩ := key
    exact agr r h h k1 k2 I
theorem arg_l {x : Int32} {b : Nat} (hb : b < 1000000) (h : lI 0 ≤ x ∧ x ≤ nI b) : ∃ w, x = lI w ∧ w ≤ b + 1 := by
  have h1 := Int32.le_iff_toInt_le.mp h.1
  have h2 := Int32.le_iff_toInt_le.mp h.2
  have e0 : (lI 0).toInt = -1 := by decide
  rw [n_toInt (by omega)] at h2
  rw [e0] at h1
  refine ⟨(x.toInt + 1).toNat, ?_, by omega⟩
  apply Int32.toInt_inj.mp
  by_cases z : x.toInt = -1
  · rw [z]; decide
  · obtain ⟨k, hk⟩ : ∃ k : Nat, x.toInt = (k : Int) := ⟨x.toInt.toNat, by omega⟩
    rw [hk]
    rw [show ((k : Int) + 1).toNat = k + 1 by omega, lI_s, n_toInt (by omega)]
theorem in_m1 (x : Int32) (b : Nat) (hb : b < 2147483648) (h : Sto) : fX9_in x.toInt64 (-1) (OfNat.ofNat b) h = some (decide (lI 0 ≤ x ∧ x ≤ nI b)) := by
  rw [show (-1 : Int64) = (lI 0).toInt64 by decide, l64 hb, in_in]
theorem st_status (x : Int32) (h : Sto) (I : Inv h) : Agr (fX8_status x) (fX9_status x) h := by
  have F := I.2.2.2.2.2
  by_cases z : lI 0 ≤ x ∧ x ≤ nI 6
  · obtain ⟨w, rfl, hw⟩ := arg_l (by omega) z
    cases w with
    | zero =>
      have s1 : lp (fun s => fX8_status_b32 h s.1 s.2) FUEL (0, 0) = some (fo (fun i a => a + h 61 i) 0 7) := by
        refine lp_F (g := fun i => (fo (fun i a => a + h 61 i) 0 i, nI i)) 7 _ rfl (by omega) ?_ ?_
        · intro i hi
          show fX8_status_b32 h _ _ = _
          unfold fX8_status_b32
          have : ¬ 7 ≤ i := by omega
          simp (disch := omega) [n_lit, n_eq, n_lt, n_le, n_mul, n_add, n_cl, grd_t, grd_T, su_c, su_s, su_k, wi_in, n_m1', n_m1, this]
          rfl
        · show fX8_status_b32 h _ _ = _
          unfold fX8_status_b32
          simp (disch := omega) [n_lit, n_eq, n_lt, n_le, n_mul, n_add, n_cl, grd_t, grd_T, su_c, su_s, su_k, wi_in, n_m1', n_m1]
      have s2 : lp (fun s => fX9_status_b25 (lI 0) h s.1 s.2) FUEL (0, 0) = some (fo (fun i a => a + h 86 i) 0 7) := by
        refine lp_F (g := fun i => (fo (fun i a => a + h 86 i) 0 i, nI i)) 7 _ rfl (by omega) ?_ ?_
        · intro i hi
          show fX9_status_b25 (lI 0) h _ _ = _
          unfold fX9_status_b25
          have : ¬ 7 ≤ i := by omega
          simp (disch := omega) [n_lit, n_eq, n_lt, n_le, n_mul, n_add, n_cl, grd_t, grd_T, su_c, su_s, su_k, wi_in, n_m1', n_m1, this, lI_lt0]
          rfl
        · show fX9_status_b25 (lI 0) h _ _ = _
          unfold fX9_status_b25
          simp (disch := omega) [n_lit, n_eq, n_lt, n_le, n_mul, n_add, n_cl, grd_t, grd_T, su_c, su_s, su_k, wi_in, n_m1', n_m1]
      refine agr (fo (fun i a => a + h 61 i) 0 7) h h ?_ ?_ I
      · unfold fX8_status
        simp (disch := omega) [wi_in, n_lit, n_m1, z, lI_lt0]
        rw [show (nI 0 : Int32) = 0 from rfl, s1]
        rfl
      · unfold fX9_status
        rw [in_m1 _ 6 (by omega)]
        simp (disch := omega) [n_lit, z]
        rw [show (nI 0 : Int32) = 0 from rfl, s2, fo_congr (s2 := fun i a => a + h 61 i) (fun i hi a => by rw [F i hi])]
        rfl
    | succ k =>
      rw [lI_s] at z ⊢
      have s2 : lp (fun s => fX9_status_b25 (nI k) h s.1 s.2) FUEL (0, 0) = some (fo (fun i a => a + if k = i then h 86 i else 0) 0 7) := by
        refine lp_F (g := fun i => (fo (fun i a => a + if k = i then h 86 i else 0) 0 i, nI i)) 7 _ rfl (by omega) ?_ ?_
        · intro i hi
          show fX9_status_b25 (nI k) h _ _ = _
          unfold fX9_status_b25
          have : ¬ 7 ≤ i := by omega
          by_cases e : k = i
          · subst e
            simp (disch := omega) [n_lit, n_eq, n_lt, n_le, n_mul, n_add, n_cl, grd_t, grd_T, su_c, su_s, su_k, wi_in, n_m1', n_m1, this]
            simp [fo]
          · simp (disch := omega) [n_lit, n_eq, n_lt, n_le, n_mul, n_add, n_cl, grd_t, grd_T, su_c, su_s, su_k, wi_in, n_m1', n_m1, this, e]
            simp [fo, e]
        · show fX9_status_b25 (nI k) h _ _ = _
          unfold fX9_status_b25
          simp (disch := omega) [n_lit, n_eq, n_lt, n_le, n_mul, n_add, n_cl, grd_t, grd_T, su_c, su_s, su_k, wi_in, n_m1', n_m1]
      refine agr (h 61 k) h h ?_ ?_ I
      · unfold fX8_status
        simp (disch := omega) [n_lit, n_eq, n_lt, n_le, n_mul, n_add, n_cl, grd_t, grd_T, su_c, su_s, su_k, wi_in, n_m1', n_m1, z]
      · unfold fX9_status
        rw [in_m1 _ 6 (by omega)]
        simp (disch := omega) [n_lit, z]
        rw [show (nI 0 : Int32) = 0 from rfl, s2]
        have : fo (fun i a => a + if k = i then h 86 i else 0) 0 7 = h 61 k := by
          rw [F k (by omega)]
          rcases (show k = 0 ∨ k = 1 ∨ k = 2 ∨ k = 3 ∨ k = 4 ∨ k = 5 ∨ k = 6 by omega) with rfl | rfl | rfl | rfl | rfl | rfl | rfl <;> simp [fo]
        rw [this]
        rfl
  · refine ag_f0 I ?_ ?_
    · unfold fX8_status
      simp [wi_in, n_lit, n_m1, z]
    · intro h1 _
      unfold fX9_status
      rw [in_m1 _ 6 (by omega)]
      simp [z]
