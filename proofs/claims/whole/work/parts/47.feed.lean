/-! 47: feed -/
theorem shr_bv (x : Int32) {i : Nat} (hi : i < 32) : (jshr x (nI i)).toBitVec = x.toBitVec.sshiftRight i := by
  unfold jshr
  rw [Int32.toBitVec_shiftRight]
  show x.toBitVec.sshiftRight ((nI i &&& 31).toBitVec.smod 32).toNat = _
  rw [sh_amt i hi]
theorem ush_bv (x : Int32) {i : Nat} (hi : i < 32) : (jush x (nI i)).toBitVec = x.toBitVec >>> i := by
  unfold jush
  show (x.toUInt32 >>> ((nI i).toUInt32 &&& Int32.toUInt32 31)).toBitVec = _
  rw [UInt32.toBitVec_shiftRight, BitVec.ushiftRight_eq', ush_amt i hi]
  rfl
theorem byte_eq (x : Int32) {i : Nat} (hi : i ≤ 24) : jshr x (nI i) &&& nI 255 = jush x (nI i) &&& nI 255 := by
  apply i32_ext
  rw [Int32.toBitVec_and, Int32.toBitVec_and, shr_bv x (by omega), ush_bv x (by omega), n_bv]
  apply BitVec.eq_of_getLsbD_eq
  intro j hj
  rw [BitVec.getLsbD_and, BitVec.getLsbD_and]
  by_cases z : j < 8
  · rw [BitVec.getLsbD_sshiftRight, BitVec.getLsbD_ushiftRight]
    have h1 : ¬ 32 ≤ j := by omega
    have h2 : i + j < 32 := by omega
    simp [h1, h2]
  · have : (BitVec.ofNat 32 255).getLsbD j = false := by
      rw [BitVec.getLsbD_ofNat]
      have : Nat.testBit 255 j = false := Nat.testBit_lt_two_pow (Nat.lt_of_lt_of_le (show 255 < 2 ^ 8 by decide) (Nat.pow_le_pow_right (by decide) (by omega)))
      rw [this]
      simp
    rw [this]
    simp
theorem x_nI (x : Int32) : x = nI x.toBitVec.toNat := by
  apply i32_ext
  rw [n_bv]
  simp
theorem byte_n (x : Int32) : ∃ b, b < 256 ∧ x &&& nI 255 = nI b := by
  refine ⟨x.toBitVec.toNat &&& 255, ?_, ?_⟩
  · have := @Nat.and_le_right x.toBitVec.toNat 255
    omega
  · rw [← n_and, ← x_nI]
theorem st_feed (a b : Int32) (h : Sto) (I : Inv h) : Agr (fX8_feed a b) (fX9_feed a b) h := by
  obtain ⟨n, n1, n2, n3, n4⟩ := I.2.2.2.1
  have ein : ∀ h', fX9_in b.toInt64 1 4 h' = some (decide (nI 1 ≤ b ∧ b ≤ nI 4)) := fun h' => in_n b 1 4 (by omega) (by omega) h'
  by_cases h1 : nI 1 ≤ b ∧ b ≤ nI 4
  · obtain ⟨k, rfl, hk1, hk⟩ := arg_in (by omega) (by omega) h1
    by_cases h2 : n + k ≤ 80
    · have key : ∃ x y, (∃ H, x = (fun o => hy H o) ∧ y = (fun o => hy o H) ∧ H 0 4 = nI (n + k) ∧ H 83 6 = nI (n + k) ∧ (∀ j, j < n + k → ∃ b, b < 256 ∧ H 51 j = nI b ∧ H 88 j = nI b) ∧ (∀ c, c ≠ 0 → c ≠ 51 → c ≠ 83 → c ≠ 88 → H c = h c) ∧ H 0 2 = h 0 2 ∧ H 83 2 = h 83 2) ∧ (∀ o, lp (fun s : Int32 × Sto => fX8_feed_b38 a s.1 s.2) FUEL (lI k, hy h o) = some (x o)) ∧ (∀ o, lp (fun s : Int32 × Sto => fX9_feed_b41 a s.1 s.2) FUEL (lI k, hy o h) = some (y o)) := by
        refine lp_J (A := Nat × Sto) (fun p => p.1 ≤ k ∧ p.2 0 4 = nI (n + k - p.1) ∧ p.2 83 6 = nI (n + k - p.1) ∧ (∀ j, j < n + k - p.1 → ∃ b, b < 256 ∧ p.2 51 j = nI b ∧ p.2 88 j = nI b) ∧ (∀ c, c ≠ 0 → c ≠ 51 → c ≠ 83 → c ≠ 88 → p.2 c = h c) ∧ p.2 0 2 = h 0 2 ∧ p.2 83 2 = h 83 2) (fun p => p.1) (fun p o => (lI p.1, hy p.2 o)) (fun p o => (lI p.1, hy o p.2)) (fun x y => ∃ H, x = (fun o => hy H o) ∧ y = (fun o => hy o H) ∧ H 0 4 = nI (n + k) ∧ H 83 6 = nI (n + k) ∧ (∀ j, j < n + k → ∃ b, b < 256 ∧ H 51 j = nI b ∧ H 88 j = nI b) ∧ (∀ c, c ≠ 0 → c ≠ 51 → c ≠ 83 → c ≠ 88 → H c = h c) ∧ H 0 2 = h 0 2 ∧ H 83 2 = h 83 2) ?_ (k, h) ⟨Nat.le_refl _, by show h 0 4 = nI (n + k - k); rw [n2]; congr 1; omega, by show h 83 6 = nI (n + k - k); rw [n3]; congr 1; omega, fun j hj => n4 j (by have : j < n + k - k := hj; omega), fun _ _ _ _ _ => rfl, rfl, rfl⟩ (by show k < 100000; omega)
        rintro ⟨i, H⟩ ⟨p1, p2, p3, p4, p5, p6, p7⟩
        have p1 : i ≤ k := p1
        have p2 : H 0 4 = nI (n + k - i) := p2
        have p3 : H 83 6 = nI (n + k - i) := p3
        have p4 : ∀ j, j < n + k - i → ∃ b, b < 256 ∧ H 51 j = nI b ∧ H 88 j = nI b := p4
        cases i with
        | zero =>
          exact Or.inr ⟨_, _, ⟨H, rfl, rfl, p2, p3, p4, p5, p6, p7⟩, fun o => rfl, fun o => rfl⟩
        | succ i =>
          obtain ⟨v, hv, ev⟩ := byte_n (jush a (nI (8 * i)))
          have ev2 := (byte_eq a (show 8 * i ≤ 24 by omega)).trans ev
          refine Or.inl ⟨(i, hy (su (su H 51 (n + k - (i + 1)) (nI v)) 0 4 (nI (n + k - i))) (su (su H 88 (n + k - (i + 1)) (nI v)) 83 6 (nI (n + k - i)))), ⟨by show i ≤ k; omega, ?_, ?_, ?_, ?_, ?_, ?_⟩, by show i < i + 1; omega, fun o => ?_, fun o => ?_⟩
          · simp (disch := omega) [su_c, su_s, su_k, hy_l]
          · simp (disch := omega) [su_c, su_s, su_k, hy_r]
          · intro j hj
            have hj : j < n + k - i := hj
            by_cases q : j = n + k - (i + 1)
            · exact ⟨v, hv, by simp (disch := omega) [su_c, su_s, su_k, hy_l, q], by simp (disch := omega) [su_c, su_s, su_k, hy_r, q]⟩
            · obtain ⟨w, hw, w1, w2⟩ := p4 j (by omega)
              exact ⟨w, hw, by simp (disch := omega) [su_c, su_s, su_k, hy_l, q]; exact w1, by simp (disch := omega) [su_c, su_s, su_k, hy_r, q]; exact w2⟩
          · intro c q1 q2 q3 q4
            refine Eq.trans ?_ (p5 c q1 q2 q3 q4)
            by_cases q : c < 83
            · simp (disch := omega) [su_c, su_s, su_k, hy_l]
            · simp (disch := omega) [su_c, su_s, su_k, hy_r]
          · refine Eq.trans ?_ p6
            simp (disch := omega) [su_c, su_s, su_k, hy_l]
          · refine Eq.trans ?_ p7
            simp (disch := omega) [su_c, su_s, su_k, hy_r]
          · show fX8_feed_b38 a (lI (i + 1)) (hy H o) = some (.inl (lI i, hy _ o))
            have e1 : n + k - (i + 1) + 1 = n + k - i := by omega
            rw [lI_s]
            unfold fX8_feed_b38
            simp (disch := omega) [n_lit, n_eq, n_lt, n_le, n_mul, n_add, n_cl, grd_t, grd_T, su_c, su_s, su_k, wi_in, n_m1', n_m1, hy_l, p2, ev, su_hl, hy_hl, n_pre, e1]
          · show fX9_feed_b41 a (lI (i + 1)) (hy o H) = some (.inl (lI i, hy o _))
            have e1 : n + k - (i + 1) + 1 = n + k - i := by omega
            rw [lI_s]
            unfold fX9_feed_b41
            simp (disch := omega) [n_lit, n_eq, n_lt, n_le, n_mul, n_add, n_cl, grd_t, grd_T, su_c, su_s, su_k, wi_in, n_m1', n_m1, hy_r, p3, ev2, su_hr, hy_hr, n_pre, e1]
      obtain ⟨x, y, ⟨H, rfl, rfl, p2, p3, p4, p5, p6, p7⟩, e1, e2⟩ := key
      refine Two.agr ⟨nI (n + k), H, fun o => ?_, fun o => ?_, Inv_tape I ⟨n + k, h2, p2, p3, p4⟩ p5 p6 p7⟩
      · have e1 := e1 o
        unfold fX8_feed
        rw [wi_in]
        simp (disch := omega) [n_lit, n_eq, n_lt, n_le, n_mul, n_add, n_cl, grd_t, grd_T, su_c, su_s, su_k, wi_in, n_m1', n_m1, hy_l, n2, h1, h2, e1, p2]
      · have e2 := e2 o
        unfold fX9_feed
        rw [ein]
        simp (disch := omega) [n_lit, n_eq, n_lt, n_le, n_mul, n_add, n_cl, grd_t, grd_T, su_c, su_s, su_k, wi_in, n_m1', n_m1, hy_r, n3, h1, h2, e2, p3]
    · refine ag_f1 I ?_ ?_
      · unfold fX8_feed
        rw [wi_in]
        simp (disch := omega) [n_lit, n_eq, n_lt, n_le, n_mul, n_add, n_cl, grd_t, grd_T, su_c, su_s, su_k, wi_in, n_m1', n_m1, n2, h1, h2]
      · intro h1' e
        subst e
        unfold fX9_feed
        rw [ein]
        simp (disch := omega) [n_lit, n_eq, n_lt, n_le, n_mul, n_add, n_cl, grd_t, grd_T, su_c, su_s, su_k, wi_in, n_m1', n_m1, n3, h1, h2]
  · refine ag_f0 I ?_ ?_
    · unfold fX8_feed
      rw [wi_in]
      simp [n_lit, h1]
    · intro h1' e
      unfold fX9_feed
      rw [ein]
      simp [h1]
