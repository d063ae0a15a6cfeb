/-! 59: text -/
theorem Inv_txt {h h' : Sto} (I : Inv h) (X : ∃ T, TxS h' 1 84 T) (P : Tp h') (e : ∀ c, c ≠ 0 → c ≠ 51 → c ≠ 64 → c ≠ 83 → c ≠ 84 → c ≠ 88 → c ≠ 89 → (c < 16 ∨ 24 < c) → h' c = h c) (ek : ∀ j, (j < 4 ∨ (4 < j ∧ j < 718) ∨ 1204 ≤ j) → h' 84 j = h 84 j) (e0 : h' 0 2 = h 0 2) (e1 : h' 83 2 = h 83 2) : Inv h' := by
  obtain ⟨σ, S⟩ := I.1
  refine ⟨⟨σ, Sc_congr (by rw [e 1 (by omega) (by omega) (by omega) (by omega) (by omega) (by omega) (by omega) (by omega)]) (fun j h1 h2 h3 => e _ (by omega) (by omega) (by omega) (by omega) (by omega) (by omega) (by omega) (by omega)) (e _ (by omega) (by omega) (by omega) (by omega) (by omega) (by omega) (by omega) (by omega)) ek S⟩, X, Kp_congr (fun c h1 h2 => e c (by omega) (by omega) (by omega) (by omega) (by omega) (by omega) (by omega) (by omega)) e0 e1 (e 85 (by omega) (by omega) (by omega) (by omega) (by omega) (by omega) (by omega) (by omega)) I.2.2.1, P, Shs_congr (fun c h1 h2 => e c (by omega) (by omega) (by omega) (by omega) (by omega) (by omega) (by omega) (by omega)) (e 93 (by omega) (by omega) (by omega) (by omega) (by omega) (by omega) (by omega) (by omega)) (e 94 (by omega) (by omega) (by omega) (by omega) (by omega) (by omega) (by omega) (by omega)) (e 95 (by omega) (by omega) (by omega) (by omega) (by omega) (by omega) (by omega) (by omega)) I.2.2.2.2.1, fun i hi => ?_⟩
  rw [e 61 (by omega) (by omega) (by omega) (by omega) (by omega) (by omega) (by omega) (by omega), e 86 (by omega) (by omega) (by omega) (by omega) (by omega) (by omega) (by omega) (by omega)]
  exact I.2.2.2.2.2 i hi
theorem mTxL {g : Sto} {a L : Nat} (h8 : g 83 8 = nI L) (hL : L ≤ 80) (ha : a + 81 ≤ 1214) : ∃ H, lp (fun s => fX9_text_b117 (nI a) s.1 s.2) FUEL (nI 0, g) = some H ∧ (∀ c, c ≠ 84 → H c = g c) ∧ (∀ j, (j < a + 1 ∨ a + 1 + L ≤ j) → H 84 j = g 84 j) ∧ ∀ j, j < L → H 84 (a + 1 + j) = g 89 j := by
  refine lp_I (f := fun s : Int32 × Sto => fX9_text_b117 (nI a) s.1 s.2) (fun i s => s.1 = nI i ∧ (∀ c, c ≠ 84 → s.2 c = g c) ∧ (∀ j, (j < a + 1 ∨ a + 1 + i ≤ j) → s.2 84 j = g 84 j) ∧ ∀ j, j < i → s.2 84 (a + 1 + j) = g 89 j) (fun H => (∀ c, c ≠ 84 → H c = g c) ∧ (∀ j, (j < a + 1 ∨ a + 1 + L ≤ j) → H 84 j = g 84 j) ∧ ∀ j, j < L → H 84 (a + 1 + j) = g 89 j) L (nI 0, g) ⟨rfl, fun _ _ => rfl, fun _ _ => rfl, fun j hj => absurd hj (Nat.not_lt_zero _)⟩ (by omega) ?_ ?_
  · rintro i ⟨w, s⟩ hi ⟨rfl, a1, a2, a3⟩
    dsimp only at *
    have e8 : s 83 8 = nI L := by rw [a1 83 (by omega)]; exact h8
    have hi' : ¬ L ≤ i := by omega
    have e89 := a1 89 (by omega)
    refine ⟨(nI (i + 1), su s 84 (a + 1 + i) (g 89 i)), ?_, rfl, ?_, ?_, ?_⟩
    · show fX9_text_b117 (nI a) (nI i) s = _
      unfold fX9_text_b117
      simp (disch := omega) [n_lit, n_eq, n_lt, n_le, n_mul, n_add, n_cl, grd_t, grd_T, su_c, su_s, su_k, wi_in, n_m1', n_m1, e8, hi', e89, n_in]
    · intro c hc; exact (su_c _ _ _ hc).trans (a1 c hc)
    · intro j hj; exact (su_k _ _ _ (by omega)).trans (a2 j (by omega))
    · intro j hj
      by_cases z : j = i
      · subst z; exact su_s s 84 (a + 1 + j) (g 89 j)
      · exact (su_k _ _ _ (by omega)).trans (a3 j (by omega))
  · rintro ⟨w, s⟩ ⟨rfl, a1, a2, a3⟩
    dsimp only at *
    have e8 : s 83 8 = nI L := by rw [a1 83 (by omega)]; exact h8
    refine ⟨s, ?_, a1, a2, a3⟩
    show fX9_text_b117 (nI a) (nI L) s = _
    unfold fX9_text_b117
    simp (disch := omega) [n_lit, n_eq, n_lt, n_le, n_mul, n_add, n_cl, grd_t, grd_T, su_c, su_s, su_k, wi_in, n_m1', n_m1, e8]
theorem st_text (h : Sto) (I : Inv h) : Agr fX8_text fX9_text h := by
  obtain ⟨T, X1, X2, X3, X4⟩ := I.2.1
  have X2 : h 16 0 = nI T := X2
  by_cases hT : T = 6
  · refine ag_f1 I ?_ ?_
    · unfold fX8_text
      simp (disch := omega) [n_lit, n_eq, n_lt, n_le, n_mul, n_add, n_cl, grd_t, grd_T, su_c, su_s, su_k, wi_in, n_m1', n_m1, X2, hT]
    · intro h1' e
      subst e
      unfold fX9_text
      simp (disch := omega) [n_lit, n_eq, n_lt, n_le, n_mul, n_add, n_cl, grd_t, grd_T, su_c, su_s, su_k, wi_in, n_m1', n_m1, X3, hT]
  · obtain ⟨n, P1, P2, P3, P4⟩ := I.2.2.2.1
    obtain ⟨b, hb⟩ : ∃ b : Nat → Nat, ∀ j, j < n → b j < 256 ∧ h 51 j = nI (b j) ∧ h 88 j = nI (b j) := by
      refine ⟨fun j => (h 51 j).toNatClampNeg, fun j hj => ?_⟩
      obtain ⟨x, x1, x2, x3⟩ := P4 j hj
      have : (h 51 j).toNatClampNeg = x := by rw [x2]; exact n_cl (by omega)
      dsimp only
      rw [this]
      exact ⟨x1, x2, x3⟩
    have b256 : ∀ j, j < n → b j < 256 := fun j hj => (hb j hj).1
    have h51 : shp 51 = (0, 80, []) := by decide
    have rd : ∀ m : Sto, (∀ j, j < n → m 88 j = nI (b j)) → m 83 6 = nI n → _ := fun m q1 q2 => textJ (R := h 63) (c := h) (m := m) P1 b256 (show 0 < 51 by omega) (by omega) h51 (fun j hj => (hb j hj).2.1) (fun k hk => rfl) q1 q2
    obtain ⟨v, H, -, -, q, bad, r1, r2, r3, -, -, -, -, -, r9, -⟩ := rd h (fun j hj => (hb j hj).2.2) P3
    have n6 : ¬ T = 6 := hT
    have t6 : T < 6 := by omega
    cases bad with
    | true =>
      rw [if_pos rfl] at r3
      have hh : ∃ h1, su H 0 4 (nI 0) = h1 ∧ (∀ c, c ≠ 0 → c ≠ 64 → h1 c = h c) ∧ (∀ j, j ≠ 4 → h1 0 j = h 0 j) ∧ h1 0 4 = nI 0 ∧ h1 64 7 = nI q := by
        refine ⟨_, rfl, fun c c1 c2 => ?_, fun j hj => ?_, su_s _ _ _ _, ?_⟩
        · rw [su_c _ _ _ c1]; exact r2 c c2
        · rw [su_k _ _ _ hj, r2 0 (by omega)]
        · rw [su_c _ _ _ (by omega)]; exact r3
      obtain ⟨h1, eh, u1, u2, u3, u4⟩ := hh
      obtain ⟨v', H', m1, m2, q', bad', s1, s2, s3, s4, s5, s6, s7, s8, s9, -⟩ := rd h1 (fun j hj => by rw [u1 88 (by omega) (by omega)]; exact (hb j hj).2.2) (by rw [u1 83 (by omega) (by omega)]; exact P3)
      rw [r1] at s1
      obtain ⟨rfl, rfl⟩ : v = v' ∧ H = H' := by simpa using s1
      have hbq : bad' = true ∧ q' = q := by
        cases bad' with
        | true =>
          rw [if_pos rfl, r3, n_eq (by omega) (by omega)] at s3
          exact ⟨rfl, s3.symm⟩
        | false =>
          rw [if_neg (by decide), r3, nI_lI (by omega) (by omega)] at s3
          omega
      obtain ⟨rfl, rfl⟩ := hbq
      have k1 : ∀ c, c ≠ 83 → c ≠ 89 → c ≠ 0 → c ≠ 64 → su (su m2 83 14 (nI 1)) 83 6 (nI 0) c = h c := fun c c1 c2 c3 c4 => by
        rw [su_c _ _ _ c1, su_c _ _ _ c1, s7.1 c c1 c2]; exact u1 c c3 c4
      refine agr (-1 - nI q') h1 (su (su m2 83 14 (nI 1)) 83 6 (nI 0)) ?_ ?_ (Inv_txt I ?_ ⟨0, by omega, ?_, ?_, fun j hj => absurd hj (by omega)⟩ ?_ ?_ ?_ ?_)
      · have w1 : ¬ q' < 0 := by omega
        have r1' : fX2_read 51 (nI n) h = some (v, H) := r1
        have u4' : ¬ (su H 0 4 (nI 0)) 64 7 < nI 0 := by rw [eh, u4, n_lt (by omega) (by omega)]; omega
        unfold fX8_text
        rw [if_pos (by rw [X2, show (6 : Int32) = nI 6 from rfl, n_lt (by omega) (by omega)]; exact t6), P2, r1', Option.bind_some, Option.bind_some]
        dsimp only
        rw [show (0 : Int32) = nI 0 from rfl, if_neg u4', eh, u4]
      · have w1 : ¬ h1 84 4 = 6 := by rw [u1 84 (by omega) (by omega), X3, show (6 : Int32) = nI 6 from rfl, n_eq (by omega) (by omega)]; exact hT
        have w2 : ¬ su (su m2 83 14 (b2i true)) 83 6 0 83 14 = 0 := by rw [su_k _ _ _ (by omega), su_s]; decide
        unfold fX9_text
        unfold mi0 at s4
        rw [if_pos w1, Option.bind_some, Option.bind_some, Option.bind_some, Option.bind_some, s4, Option.bind_some, s5, Option.bind_some, s6, Option.bind_some, Option.bind_some, Option.bind_some, if_neg w2, su_k _ _ _ (show ¬ 9 = 14 by omega), s8]
        rfl
      · exact Tx_cells I.2.1 (fun c c1 c2 => k1 c (by omega) (by omega) (by omega) (by omega)) (k1 84 (by omega) (by omega) (by omega) (by omega))
      · rw [su_c _ _ _ (by omega), su_c _ _ _ (by omega), s7.1 0 (by omega) (by omega)]; exact u3
      · exact su_s _ _ _ _
      · intro c c1 c2 c3 c4 c5 c6 c7 c8; exact k1 c c4 c7 c1 c3
      · intro j _; rw [k1 84 (by omega) (by omega) (by omega) (by omega)]
      · rw [su_c _ _ _ (by omega), su_c _ _ _ (by omega), s7.1 0 (by omega) (by omega)]; exact u2 2 (by omega)
      · rw [su_k _ _ _ (by omega), su_k _ _ _ (by omega), s7.2 2 (by omega), u1 83 (by omega) (by omega)]
    | false =>
      rw [if_neg (by decide)] at r3
      have hh : ∃ h1, su (su (sr (su H 0 4 (nI 0)) (18 + T) (va_cpy (su H 0 4 (nI 0) 51) (su H 0 4 (nI 0) (18 + T)) 0 0 n)) 24 T (nI n)) 16 0 (nI (T + 1)) = h1 ∧ (∀ c, c ≠ 0 → c ≠ 16 → c ≠ 18 + T → c ≠ 24 → c ≠ 64 → h1 c = h c) ∧ (∀ j, j ≠ 4 → h1 0 j = h 0 j) ∧ h1 0 4 = nI 0 ∧ (∀ j, j < n → h1 (18 + T) j = nI (b j)) ∧ h1 24 T = nI n ∧ (∀ t, t ≠ T → h1 24 t = h 24 t) ∧ h1 16 0 = nI (T + 1) := by
        refine ⟨_, rfl, fun c c1 c2 c3 c4 c5 => ?_, fun j hj => ?_, ?_, fun j hj => ?_, ?_, fun t ht => ?_, su_s _ _ _ _⟩
        · rw [su_c _ _ _ c2, su_c _ _ _ c4, sr_c _ _ c3, su_c _ _ _ c1]; exact r2 c c5
        · rw [su_c _ _ _ (by omega), su_c _ _ _ (by omega), sr_c _ _ (by omega), su_k _ _ _ hj, r2 0 (by omega)]
        · rw [su_c _ _ _ (by omega), su_c _ _ _ (by omega), sr_c _ _ (by omega), su_s]
        · rw [su_c _ _ _ (by omega), su_c _ _ _ (by omega), sr_s]
          unfold va_cpy
          rw [if_pos (by omega), su_c _ _ _ (by omega), r2 51 (by omega), show 0 + (j - 0) = j by omega]
          exact (hb j hj).2.1
        · rw [su_c _ _ _ (by omega), su_s]
        · rw [su_c _ _ _ (by omega), su_k _ _ _ ht, sr_c _ _ (by omega), su_c _ _ _ (by omega), r2 24 (by omega)]
      obtain ⟨h1, eh, u1, u2, u3, u4, u5, u6, u7⟩ := hh
      have hm88 : ∀ j, j < n → h1 88 j = nI (b j) := fun j hj => by rw [u1 88 (by omega) (by omega) (by omega) (by omega) (by omega)]; exact (hb j hj).2.2
      have hm83 : h1 83 = h 83 := u1 83 (by omega) (by omega) (by omega) (by omega) (by omega)
      have hm6 : h1 83 6 = nI n := by rw [hm83]; exact P3
      have hm84 : h1 84 = h 84 := u1 84 (by omega) (by omega) (by omega) (by omega) (by omega)
      obtain ⟨v', H', m1, m2, q', bad', s1, s2, s3, s4, s5, s6, s7, s8, s9, s10⟩ := rd h1 hm88 hm6
      rw [r1] at s1
      obtain ⟨rfl, rfl⟩ : v = v' ∧ H = H' := by simpa using s1
      have hbq : bad' = false := by
        cases bad' with
        | true =>
          rw [if_pos rfl, r3, lI_nI (by omega) (by omega)] at s3
          omega
        | false => rfl
      subst hbq
      obtain ⟨cs, k1, k2, k3, k4, k5⟩ := s10 rfl
      have hg : ∃ g, su (su m2 83 14 (b2i false)) 83 6 0 = g ∧ (∀ c, c ≠ 83 → g c = m2 c) ∧ g 83 14 = 0 ∧ g 83 8 = nI cs.length ∧ g 83 2 = h 83 2 ∧ g 83 6 = nI 0 ∧ g 84 = h 84 := by
        refine ⟨_, rfl, fun c hc => by rw [su_c _ _ _ hc, su_c _ _ _ hc], by rw [su_k _ _ _ (by omega), su_s]; rfl, by rw [su_k _ _ _ (by omega), su_k _ _ _ (by omega)]; exact k1, by rw [su_k _ _ _ (by omega), su_k _ _ _ (by omega), s7.2 2 (by omega), hm83], su_s _ _ _ _, by rw [su_c _ _ _ (by omega), su_c _ _ _ (by omega), s7.1 84 (by omega) (by omega)]; exact hm84⟩
      obtain ⟨g, eg, g1, g2, g3, g4, g5, g6⟩ := hg
      have hp8 : su g 84 (718 + 81 * T) (nI cs.length) 83 8 = nI cs.length := by rw [su_c _ _ _ (by omega)]; exact g3
      obtain ⟨V, l1, l2, l3, l4⟩ := mTxL (a := 718 + 81 * T) hp8 k2 (by omega)
      have V4 : V 84 4 = nI T := by rw [l3 4 (by omega), su_k _ _ _ (by omega), g6]; exact X3
      have cel : ∀ c, c ≠ 83 → c ≠ 84 → c ≠ 89 → su V 84 4 (nI (T + 1)) c = h1 c := fun c c1 c2 c3 => by
        rw [su_c _ _ _ c2, l2 c c2, su_c _ _ _ c2, g1 c c1]; exact s7.1 c c1 c3
      have cek : ∀ j, j ≠ 4 → (j < 718 + 81 * T ∨ 718 + 81 * T + 81 ≤ j) → su V 84 4 (nI (T + 1)) 84 j = h 84 j := fun j j1 j2 => by
        rw [su_k _ _ _ j1, l3 j (by omega), su_k _ _ _ (by omega), g6]
      have c83 : su V 84 4 (nI (T + 1)) 83 = g 83 := by rw [su_c _ _ _ (by omega), l2 83 (by omega), su_c _ _ _ (by omega)]
      refine agr (nI T) h1 (su V 84 4 (nI (T + 1))) ?_ ?_ (Inv_txt I ⟨T + 1, by omega, ?_, su_s _ _ _ _, fun t ht => ?_⟩ ⟨0, by omega, ?_, ?_, fun j hj => absurd hj (by omega)⟩ ?_ ?_ ?_ ?_)
      · have r1' : fX2_read 51 (nI n) h = some (v, H) := r1
        have w1 : (su H 0 4 0) 64 7 < 0 := by rw [su_c _ _ _ (by omega), r3]; decide
        have w2 : H 0 4 = nI n := by rw [r2 0 (by omega)]; exact P2
        have w3 : su H 0 4 (nI 0) 16 0 = nI T := by rw [su_c _ _ _ (by omega), r2 16 (by omega)]; exact X2
        have w4 : ∀ f, sr (su H 0 4 (nI 0)) (18 + T) f 16 0 = nI T := fun f => by rw [sr_c _ _ (by omega)]; exact w3
        have w5 : ∀ f, su (sr (su H 0 4 (nI 0)) (18 + T) f) 24 T (nI n) 16 0 = nI T := fun f => by rw [su_c _ _ _ (by omega)]; exact w4 f
        have ha : fX6_add (nI n) (su H 0 4 (nI 0)) = some (nI T, h1) := by
          have n0 : ¬ n < 0 := by omega
          unfold fX6_add
          simp (disch := omega) [n_lit, n_eq, n_lt, n_le, n_mul, n_add, n_cl, grd_t, grd_T, su_c, su_s, su_k, wi_in, n_m1', n_m1, w3, w4, w5, n_in, n0, eh, u7, P1]
          rw [← eh, su_c _ _ _ (show ¬ 51 = 0 by omega), su_c _ _ _ (show ¬ 18 + T = 0 by omega)]
        unfold fX8_text
        rw [if_pos (by rw [X2, show (6 : Int32) = nI 6 from rfl, n_lt (by omega) (by omega)]; exact t6), P2, r1', Option.bind_some, Option.bind_some]
        dsimp only
        rw [if_pos w1, w2, show (0 : Int32) = nI 0 from rfl, ha]
        rfl
      · have w1 : ¬ h1 84 4 = 6 := by rw [hm84, X3, show (6 : Int32) = nI 6 from rfl, n_eq (by omega) (by omega)]; exact hT
        have ea : (718 : Int32) + 81 * nI T = nI (718 + 81 * T) := by rw [show (81 : Int32) = nI 81 from rfl, show (718 : Int32) = nI 718 from rfl, n_mul, n_add]
        have g64 : g 84 4 = nI T := by rw [g6]; exact X3
        have e1 : nI T + 1 = nI (T + 1) := n_add T 1
        have e2 : nI (T + 1) - 1 = nI T := by rw [show (1 : Int32) = nI 1 from rfl, n_sub (by omega)]; rfl
        unfold fX9_text
        unfold mi0 at s4
        rw [if_pos w1, Option.bind_some, Option.bind_some, Option.bind_some, Option.bind_some, s4, Option.bind_some, s5, Option.bind_some, s6, Option.bind_some, Option.bind_some, Option.bind_some, eg, if_pos g2, g64, ea, g_in (by omega) (by omega), n_cl (by omega), g3, Option.bind_some, show ((0 : Int32), su g 84 (718 + 81 * T) (nI cs.length)) = (nI 0, su g 84 (718 + 81 * T) (nI cs.length)) from rfl, l1, Option.bind_some, Option.bind_some, V4, e1, su_s, e2]
      · show su V 84 4 (nI (T + 1)) 16 0 = _
        rw [cel 16 (by omega) (by omega) (by omega)]; exact u7
      · have ct : su V 84 4 (nI (T + 1)) (1 + 17 + t) = h1 (18 + t) := cel (18 + t) (by omega) (by omega) (by omega)
        have ct2 : su V 84 4 (nI (T + 1)) (1 + 23) = h1 24 := cel 24 (by omega) (by omega) (by omega)
        rw [ct, ct2]
        by_cases z : t = T
        · subst z
          rw [u5]
          refine TxR_new P1 b256 hm88 hm6 s4 s5 s6 u4 k1 k2 ?_ (fun j hj => ?_)
          · show su V 84 4 (nI (t + 1)) 84 (718 + 81 * t + 0) = _
            rw [su_k _ _ _ (by omega), l3 _ (by omega), Nat.add_zero, su_s]
          · show su V 84 4 (nI (t + 1)) 84 (718 + 81 * t + (1 + j)) = _
            rw [su_k _ _ _ (by omega), show 718 + 81 * t + (1 + j) = 718 + 81 * t + 1 + j by omega, l4 j hj, su_c _ _ _ (by omega), g1 89 (by omega)]
        · rw [u1 (18 + t) (by omega) (by omega) (by omega) (by omega) (by omega), u6 t z]
          exact TxR_congr (fun j hj => rfl) (fun j hj => cek _ (by omega) (by omega)) (X4 t (by omega))
      · rw [cel 0 (by omega) (by omega) (by omega)]; exact u3
      · rw [c83]; exact g5
      · intro c c1 c2 c3 c4 c5 c6 c7 c8
        rw [cel c c4 c5 c7]; exact u1 c c1 (by omega) (by omega) (by omega) c3
      · intro j hj; exact cek j (by omega) (by omega)
      · rw [cel 0 (by omega) (by omega) (by omega)]; exact u2 2 (by omega)
      · rw [c83]; exact g4
