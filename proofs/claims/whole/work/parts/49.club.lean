/-! 49: club, sample -/
theorem mClub {h : Sto} {σ : Gh} (S : Sc h 1 84 σ) {s d : Nat} (hs : s ≤ 29999) (hd : d ≤ 99) : lp (fun r => fX9_club_b31 (nI s) (nI d) h r.1 r.2) FUEL (0, 0) = some (nI (bt (btw σ (s : Int) ((s : Int) + d)) (σ 10) (σ 0 2))) := by
  have hW := lW S
  have hN := lN14 S
  have hNow := lNow S
  refine lp_F (g := fun i => (nI (bt (btw σ (s : Int) ((s : Int) + d)) (σ 10) i), nI i)) (σ 0 2) _ rfl (by omega) ?_ ?_
  · intro i hi
    have hi' : ¬ σ 0 2 ≤ i := by omega
    have hb2 := b10 S hi
    have hb9 := b9 S hi
    have ein : (nI 0 ≤ nI (σ 9 i) - nI s ∧ nI (σ 9 i) - nI s ≤ nI d) ↔ btw σ (s : Int) ((s : Int) + d) i = true := by
      rw [Int32.le_iff_toInt_le, Int32.le_iff_toInt_le, sub_toInt (by omega) (by omega), n_toInt (by omega), n_toInt (by omega)]
      unfold btw
      simp
      omega
    show fX9_club_b31 (nI s) (nI d) h (nI (bt (btw σ (s : Int) ((s : Int) + d)) (σ 10) i)) (nI i) = some (.inl (nI (bt (btw σ (s : Int) ((s : Int) + d)) (σ 10) (i + 1)), nI (i + 1)))
    rw [bt_s]
    unfold fX9_club_b31
    by_cases z : btw σ (s : Int) ((s : Int) + d) i = true
    · have y := ein.mpr z
      simp (disch := omega) [n_lit, n_eq, n_lt, n_le, n_mul, n_add, n_cl, grd_t, grd_T, su_c, su_s, su_k, wi_in, n_m1', n_m1, mW S, hi', w0 S hi, w1 S hi, in_v, y, z, n_shl, n_or]
    · have y : ¬ (nI 0 ≤ nI (σ 9 i) - nI s ∧ nI (σ 9 i) - nI s ≤ nI d) := fun q => z (ein.mp q)
      simp (disch := omega) [n_lit, n_eq, n_lt, n_le, n_mul, n_add, n_cl, grd_t, grd_T, su_c, su_s, su_k, wi_in, n_m1', n_m1, mW S, hi', w0 S hi, w1 S hi, in_v, decide_eq_false y, z, n_or]
      exact fun p q => absurd ⟨p, q⟩ y
  · show fX9_club_b31 (nI s) (nI d) h _ (nI (σ 0 2)) = _
    unfold fX9_club_b31
    simp (disch := omega) [n_lit, n_eq, n_lt, n_le, n_mul, n_add, n_cl, grd_t, grd_T, su_c, su_s, su_k, wi_in, n_m1', n_m1, mW S]
theorem st_club (a b : Int32) (h : Sto) (I : Inv h) : Agr (fX8_club a b) (fX9_club a b) h := by
  obtain ⟨σ, S⟩ := I.1
  have ein : ∀ h', fX9_in b.toInt64 0 99 h' = some (decide (nI 0 ≤ b ∧ b ≤ nI 99)) := fun h' => in_n b 0 99 (by omega) (by omega) h'
  by_cases h1 : nI 0 ≤ a ∧ a ≤ nI 29999
  · by_cases h2 : nI 0 ≤ b ∧ b ≤ nI 99
    · obtain ⟨s, rfl, -, hs⟩ := arg_in (by omega) (by omega) h1
      obtain ⟨d, rfl, -, hd⟩ := arg_in (by omega) (by omega) h2
      refine agr (nI (bt (btw σ (s : Int) ((s : Int) + d)) (σ 10) (σ 0 2))) h h ?_ ?_ I
      · unfold fX8_club
        rw [cSec, cSpan, cBetw S, n_add, n_toInt (n := s) (by omega), n_toInt (n := s + d) (by omega)]
        simp [h1, h2]
      · unfold fX9_club
        rw [mSec, ein, mClub S hs hd]
        simp [h1, h2]
    · refine ag_f0 I ?_ ?_
      · unfold fX8_club
        rw [cSec, cSpan]
        simp [h1, h2]
      · intro h1' e
        subst e
        unfold fX9_club
        rw [mSec, ein]
        simp [h1, h2]
  · refine ag_f0 I ?_ ?_
    · unfold fX8_club
      rw [cSec]
      simp [h1]
    · intro h1' e
      subst e
      unfold fX9_club
      rw [mSec]
      simp [h1]
/-- z becomes another number on both sides -/
theorem Sc_z {h : Sto} {σ : Gh} (S : Sc h 1 84 σ) (v : Int32) : Sc (su (su h 1 4 v) 84 5 v) 1 84 σ := by
  obtain ⟨⟨⟨a1, a2, a3⟩, ⟨b1, b2, b3⟩, ⟨c1, c2, c3⟩, d1, -⟩, T, ⟨s1, s2⟩, W, P⟩ := S
  refine ⟨⟨⟨a1, ?_, ?_⟩, ⟨b1, ?_, ?_⟩, ⟨c1, ?_, ?_⟩, ?_, ?_⟩, ScT_c T a1 (fun j h1 h2 => by simp (disch := omega) [su_c, su_s, su_k]) (fun j h1 h2 => by simp (disch := omega) [su_c, su_s, su_k]) rfl (fun j _ _ => rfl), ⟨?_, ?_⟩, ScW_c W c1 (by simp (disch := omega) [su_c, su_s, su_k]) (by simp (disch := omega) [su_c, su_s, su_k]) (by simp (disch := omega) [su_c, su_s, su_k]) (by simp (disch := omega) [su_c, su_s, su_k]) (fun j h1 h2 => by simp (disch := omega) [su_c, su_s, su_k]) rfl (Nat.le_refl _) (Nat.le_refl _) rfl rfl rfl, ScP_c P (by simp (disch := omega) [su_c, su_s, su_k]) (fun j h1 => by simp (disch := omega) [su_c, su_s, su_k]) rfl (Nat.le_refl _)⟩
  · simp (disch := omega) [su_c, su_s, su_k]; exact a2
  · simp (disch := omega) [su_c, su_s, su_k]; exact a3
  · simp (disch := omega) [su_c, su_s, su_k]; exact b2
  · simp (disch := omega) [su_c, su_s, su_k]; exact b3
  · simp (disch := omega) [su_c, su_s, su_k]; exact c2
  · simp (disch := omega) [su_c, su_s, su_k]; exact c3
  · simp (disch := omega) [su_c, su_s, su_k]; exact d1
  · simp (disch := omega) [su_c, su_s, su_k]
  · simp (disch := omega) [su_c, su_s, su_k]; exact s1
  · simp (disch := omega) [su_c, su_s, su_k]; exact s2
def FrZ (h H : Sto) : Prop := (∀ c, c ≠ 1 → c ≠ 84 → H c = h c) ∧ (∀ j, j ≠ 5 → H 84 j = h 84 j)
theorem Inv_frZ {h H : Sto} {σ : Gh} (I : Inv h) (S : Sc H 1 84 σ) (F : FrZ h H) : Inv H :=
  Inv_scene (τ := σ) I S (fun c hc => F.1 c (by omega) (by omega)) (fun c hc => F.1 c (by omega) (by omega)) (by rw [F.1 16 (by omega) (by omega)]) (fun t ht => F.1 _ (by omega) (by omega)) (F.1 24 (by omega) (by omega)) (fun j hj => F.2 j (by omega))
theorem ush8 (x : Int32) : ∃ n, n < 16777216 ∧ jush x (nI 8) = nI n := by
  refine ⟨x.toBitVec.toNat / 2 ^ 8, ?_, ?_⟩
  · have := x.toBitVec.isLt
    omega
  · have hx := x_nI x
    have hl := x.toBitVec.isLt
    generalize x.toBitVec.toNat = m at hx hl
    subst hx
    exact n_ush (by omega) (by omega)
theorem st_sample (a : Int32) (h : Sto) (I : Inv h) : Agr (fX8_sample a) (fX9_sample a) h := by
  obtain ⟨σ, S⟩ := I.1
  have hN := lN14 S
  have ein : ∀ h', fX9_in a.toInt64 1 99 h' = some (decide (nI 1 ≤ a ∧ a ≤ nI 99)) := fun h' => in_n a 1 99 (by omega) (by omega) h'
  by_cases h1 : nI 1 ≤ a ∧ a ≤ nI 99
  · by_cases h2 : σ 0 0 = 0
    · refine ag_f3 I ?_ ?_
      · unfold fX8_sample
        rw [wi_in]
        simp (disch := omega) [n_lit, n_eq, n_lt, n_le, n_mul, n_add, n_cl, grd_t, grd_T, su_c, su_s, su_k, wi_in, n_m1', n_m1, cN S, h1, h2]
      · intro h1' e
        subst e
        unfold fX9_sample
        rw [ein]
        simp (disch := omega) [n_lit, n_eq, n_lt, n_le, n_mul, n_add, n_cl, grd_t, grd_T, su_c, su_s, su_k, wi_in, n_m1', n_m1, mN (Sc_find S), h1, h2]
    · obtain ⟨k, rfl, hk1, hk⟩ := arg_in (by omega) (by omega) h1
      have key : ∃ x y, (∃ H r, x = (fun o => (nI r, hy H o)) ∧ y = (fun o => (nI r, hy o H)) ∧ Sc H 1 84 σ ∧ FrZ h H) ∧ (∀ o, lp (fun s : Int32 × Int32 × Sto => fX8_sample_b41 (nI k) s.1 s.2.1 s.2.2) FUEL (nI 0, nI 0, hy h o) = some (x o)) ∧ (∀ o, lp (fun s : Int32 × Int32 × Sto => fX9_sample_b39 (nI k) s.1 s.2.1 s.2.2) FUEL (nI 0, nI 0, hy o h) = some (y o)) := by
        refine lp_J (A := Nat × Nat × Sto) (fun a => a.2.1 ≤ k ∧ Sc a.2.2 1 84 σ ∧ FrZ h a.2.2) (fun a => k - a.2.1) (fun a o => (nI a.1, nI a.2.1, hy a.2.2 o)) (fun a o => (nI a.1, nI a.2.1, hy o a.2.2)) (fun x y => ∃ H r, x = (fun o => (nI r, hy H o)) ∧ y = (fun o => (nI r, hy o H)) ∧ Sc H 1 84 σ ∧ FrZ h H) ?_ (0, 0, h) ⟨Nat.zero_le _, S, fun _ _ _ => rfl, fun _ _ => rfl⟩ (by show k - 0 < 100000; omega)
        rintro ⟨r, i, H⟩ ⟨hi, S2, F⟩
        have hi : i ≤ k := hi
        have S2 : Sc H 1 84 σ := S2
        have F : FrZ h H := F
        by_cases z : i < k
        · have z2 : ¬ k ≤ i := by omega
          have d2 : H 1 4 = H 84 5 := S2.1.2.2.2.2
          generalize hv : H 84 5 * nI 1103515245 + nI 12345 = v at *
          have hv2 : H 1 4 * nI 1103515245 + nI 12345 = v := by rw [d2]; exact hv
          obtain ⟨n, hn, en⟩ := ush8 v
          have S3 := Sc_z S2 v
          have hm : n % σ 0 0 < σ 0 0 := Nat.mod_lt _ (by omega)
          have F3 : FrZ h (su (su H 1 4 v) 84 5 v) := ⟨fun c q1 q2 => by rw [su_c _ _ _ q2, su_c _ _ _ q1]; exact F.1 c q1 q2, fun j q => by rw [su_k _ _ _ q, su_c _ _ _ (by omega)]; exact F.2 j q⟩
          have e1 : ∀ o, su (hy H o) 1 4 v = hy (su (su H 1 4 v) 84 5 v) o := fun o => by
            rw [su_hl _ _ (by omega)]
            funext c
            unfold hy
            split
            · rw [su_c _ _ _ (show ¬ c = 84 by omega)]
            · rfl
          have e2 : ∀ o, su (hy o H) 84 5 v = hy o (su (su H 1 4 v) 84 5 v) := fun o => by
            rw [su_hr _ _ (by omega)]
            funext c
            unfold hy
            split
            · rfl
            · by_cases q : c = 84
              · subst q
                funext j
                by_cases q2 : j = 5
                · subst q2; rw [su_s, su_s]
                · rw [su_k _ _ _ q2, su_k _ _ _ q2, su_c _ _ _ (by omega)]
              · rw [su_c _ _ _ q, su_c _ _ _ q, su_c _ _ _ (by omega)]
          generalize su (su H 1 4 v) 84 5 v = H3 at *
          have v1 : H3 1 4 = v := by
            have := congrFun (congrFun (e1 H3) 1) 4
            rw [su_s, hy_l (by omega)] at this
            exact this.symm
          have v2 : H3 84 5 = v := by
            have := congrFun (congrFun (e2 H3) 84) 5
            rw [su_s, hy_r (by omega)] at this
            exact this.symm
          refine Or.inl ⟨(r + (if isO (σ 1 (n % σ 0 0)) 1 then 0 else 1), i + 1, H3), ⟨z, S3, F3⟩, by show k - (i + 1) < k - i; omega, fun o => ?_, fun o => ?_⟩
          · show fX8_sample_b41 (nI k) (nI r) (nI i) (hy H o) = some (.inl (nI (r + (if isO (σ 1 (n % σ 0 0)) 1 then 0 else 1)), nI (i + 1), hy H3 o))
            have hO : fX1_isOf (nI (n % σ 0 0)) 1 (hy H3 o) = some (isO (σ 1 (n % σ 0 0)) 1) := cIsOf (i := n % σ 0 0) (k := 1) S3 hm (by omega)
            have hD : fX3_draw (hy H o) = some (nI n, hy H3 o) := by
              unfold fX3_draw
              rw [hy_l (by omega), show H 1 4 * 1103515245 + 12345 = v from hv2, e1, Option.bind_some, hy_l (by omega), v1]
              rw [show (8 : Int32) = nI 8 from rfl, en]
            unfold fX8_sample_b41
            rw [if_neg (by rw [n_le (by omega) (by omega)]; exact z2), hD, Option.bind_some, show (nI n, hy H3 o).snd 2 0 = nI (σ 0 0) from (hy_l (b := o) (show 2 < 83 by omega) ▸ cN S3 : hy H3 o 2 0 = nI (σ 0 0)), crest (by omega) (by omega) (by omega), Option.bind_some, hO, Option.bind_some]
            cases isO (σ 1 (n % σ 0 0)) 1 <;> simp [n_lit, n_add]
          · show fX9_sample_b39 (nI k) (nI r) (nI i) (hy o H) = some (.inl (nI (r + (if isO (σ 1 (n % σ 0 0)) 1 then 0 else 1)), nI (i + 1), hy o H3))
            have hO : fX9_isPerson (nI (n % σ 0 0)) (hy o H3) = some (isO (σ 1 (n % σ 0 0)) 1) := mIsP (i := n % σ 0 0) S3 hm
            unfold fX9_sample_b39
            rw [if_neg (by rw [n_le (by omega) (by omega)]; exact z2), hy_r (show 83 ≤ 84 by omega), show H 84 5 * 1103515245 + 12345 = v from hv, e2, Option.bind_some, hy_r (show 83 ≤ 84 by omega), v2, mN S3, show (8 : Int32) = nI 8 from rfl, en, n_rem (by omega) (by omega) (by omega), hO, Option.bind_some]
            rw [show (0 : Int32) = nI 0 from rfl, g_ne (by omega) (by omega)]
            cases isO (σ 1 (n % σ 0 0)) 1 <;> simp [n_lit, n_add]
        · have hi : i = k := by omega
          refine Or.inr ⟨fun o => (nI r, hy H o), fun o => (nI r, hy o H), ⟨H, r, rfl, rfl, S2, F⟩, fun o => ?_, fun o => ?_⟩
          · show fX8_sample_b41 (nI k) (nI r) (nI i) (hy H o) = _
            unfold fX8_sample_b41
            simp (disch := omega) [n_lit, n_eq, n_lt, n_le, n_mul, n_add, n_cl, grd_t, grd_T, su_c, su_s, su_k, wi_in, n_m1', n_m1, hi]
          · show fX9_sample_b39 (nI k) (nI r) (nI i) (hy o H) = _
            unfold fX9_sample_b39
            simp (disch := omega) [n_lit, n_eq, n_lt, n_le, n_mul, n_add, n_cl, grd_t, grd_T, su_c, su_s, su_k, wi_in, n_m1', n_m1, hi]
      obtain ⟨x, y, ⟨H, r, rfl, rfl, S2, F⟩, e1, e2⟩ := key
      refine Two.agr ⟨nI r, H, fun o => ?_, fun o => ?_, Inv_frZ I S2 F⟩
      · have e1 := e1 o
        unfold fX8_sample
        rw [show ((0 : Int32), (0 : Int32), hy h o) = (nI 0, nI 0, hy h o) from rfl, e1, wi_in]
        simp (disch := omega) [n_lit, n_eq, n_lt, n_le, n_mul, n_add, n_cl, grd_t, grd_T, su_c, su_s, su_k, wi_in, n_m1', n_m1, hy_l, cN S, h1, h2]
      · have e2 := e2 o
        unfold fX9_sample
        rw [show ((0 : Int32), (0 : Int32), hy o h) = (nI 0, nI 0, hy o h) from rfl, e2, ein]
        simp (disch := omega) [n_lit, n_eq, n_lt, n_le, n_mul, n_add, n_cl, grd_t, grd_T, su_c, su_s, su_k, wi_in, n_m1', n_m1, hy_r, mN S, h1, h2]
  · refine ag_f0 I ?_ ?_
    · unfold fX8_sample
      rw [wi_in]
      simp [n_lit, h1]
    · intro h1' e
      subst e
      unfold fX9_sample
      rw [ein]
      simp [h1]
