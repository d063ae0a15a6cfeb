/-! 63: shutAll -/
theorem bs_or2 {f g : Nat → Nat} {n : Nat} (hf : ∀ j, j < n → f j ≤ 1) (hg : ∀ j, j < n → g j ≤ 1) : bs f n ||| bs g n = bs (fun j => if f j = 1 then 1 else g j) n := by
  apply bs_ext
  · intro i hi; split
    · omega
    · exact hg i hi
  · intro i
    rw [Nat.testBit_or, bs_bit n hf, bs_bit n hg]
    by_cases h : i < n
    · by_cases z : f i = 1
      · simp [h, z]
      · simp [h, z]
    · simp [h]
theorem st_shutAll (a b : Int32) (h : Sto) (I : Inv h) : Agr (fX8_shutAll a b) (fX9_shutAll a b) h := by
  obtain ⟨σ, S⟩ := I.1
  obtain ⟨T, X⟩ := I.2.1
  have hN := lN14 S
  have hT := X.1
  have x1 : h 16 0 = nI T := X.2.1
  have x2 : h 84 4 = nI T := X.2.2.1
  by_cases h1 : nI 0 ≤ a ∧ a ≤ lI T
  · obtain ⟨t, ht, rfl⟩ := (arg_nm (by omega)).mp h1
    obtain ⟨cs, N, U⟩ := X.tu ht
    obtain ⟨H, e1, e2, e3⟩ := cGsc S U (FrS.refl h) (by omega)
    have F1 : FrS h H := fun c c1 c2 c3 c4 c5 => e3 c c1 c2 c3
    have S1 := Sc_frS S F1
    have h7 := f7 S
    have hF : ∀ j, j < σ 0 0 → fd σ cs b j ≤ 1 := fun j _ => fd_le b j
    have ho : ∀ j, j < σ 0 0 → (fun j => fd σ cs b j * (1 - σ 7 j)) j ≤ 1 := by
      intro j hj
      have h1 := h7 j hj
      have h2 := hF j hj
      dsimp only
      rcases (show σ 7 j = 0 ∨ σ 7 j = 1 by omega) with z | z <;> simp [z]
      exact h2
    have hlt := bs_l31 hN ho
    have hf : ∀ j, j < σ 0 0 → (fun j => if σ 7 j = 1 then 1 else fd σ cs b j * (1 - σ 7 j)) j ≤ 1 := by
      intro j hj
      dsimp only
      split
      · omega
      · exact ho j hj
    have ec : fX8_shutAll (nI t) b h = some (nI (sm (fun j => fd σ cs b j * (1 - σ 7 j)) (σ 0 0)), su H 2 1 (nI (bs (fun j => if σ 7 j = 1 then 1 else fd σ cs b j * (1 - σ 7 j)) (σ 0 0)))) := by
      unfold fX8_shutAll
      rw [cTx x1, e1, Option.bind_some, Option.bind_some, cFs S1 e2, Option.bind_some, Option.bind_some, cShut S1, show (-1 : Int32) = lI 0 from rfl, n_an, bs_an hF h7, n_or, bs_or2 h7 ho, bc hlt, Option.bind_some, pc_bs hN ho]
      simp [h1]
    generalize eh1 : su H 2 1 (nI (bs (fun j => if σ 7 j = 1 then 1 else fd σ cs b j * (1 - σ 7 j)) (σ 0 0))) = hh at ec
    have hh2 : ∀ c, c ≠ 2 → hh c = H c := fun c hc => by rw [← eh1, su_c _ _ _ hc]
    have e84 : hh 84 = h 84 := by rw [hh2 84 (by omega)]; exact e3 84 (by omega) (by omega) (by omega)
    obtain ⟨G, d1, d2, d3⟩ := mGsc S U e84 (by omega)
    have g84 : G 84 = h 84 := by rw [d3 84 (by omega) (by omega)]; exact e84
    have hFl := bs_l31 hN hF
    obtain ⟨⟨r, h2⟩, hl2, q1, q2, q3⟩ : ∃ x, lp (fun s => fX9_shutAll_b32 (nI (bs (fd σ cs b) (σ 0 0))) s.1 s.2.1 s.2.2) FUEL (0, 0, G) = some x ∧ x.1 = nI (sm (fun j => fd σ cs b j * (1 - σ 7 j)) (σ 0 0)) ∧ (∀ c, c ≠ 84 → x.2 c = G c) ∧ (∀ j, x.2 84 j = if ∃ q, q < σ 0 0 ∧ fd σ cs b q = 1 ∧ j = 6 + 8 * q + 6 then nI 1 else h 84 j) := by
      refine lp_I (P := fun i s => s.1 = nI (sm (fun j => fd σ cs b j * (1 - σ 7 j)) i) ∧ s.2.1 = nI i ∧ (∀ c, c ≠ 84 → s.2.2 c = G c) ∧ (∀ j, s.2.2 84 j = if ∃ q, q < i ∧ fd σ cs b q = 1 ∧ j = 6 + 8 * q + 6 then nI 1 else h 84 j)) _ (σ 0 0) _ ?_ (by omega) ?_ ?_
      · exact ⟨rfl, rfl, fun c _ => rfl, fun j => by show G 84 j = _; rw [g84]; simp⟩
      · rintro i ⟨a, w, hs⟩ hi ⟨p1, p2, p3, p4⟩
        dsimp only at p1 p2 p3 p4
        subst p1; subst p2
        have k0 : hs 84 0 = nI (σ 0 0) := by
          rw [p4, if_neg (by rintro ⟨q, -, -, e⟩; omega)]; exact mN S
        have k6 : hs 84 (6 + 8 * i + 6) = nI (σ 7 i) := by
          rw [p4, if_neg (by rintro ⟨q, h1, -, e⟩; omega)]; exact (S.2.1 i hi).2.2.2.2.2.2.1.1
        have hi' : ¬ σ 0 0 ≤ i := by omega
        have hb2 : fX9_has (nI (bs (fd σ cs b) (σ 0 0))) (nI i) hs = some (decide (fd σ cs b i = 1)) := by
          rw [mhas (by omega) (by omega), bs_bit _ hF]
          simp [hi]
        have h7i := h7 i hi
        by_cases pp : fd σ cs b i = 1
        · refine ⟨(nI (sm (fun j => fd σ cs b j * (1 - σ 7 j)) (i + 1)), nI (i + 1), su hs 84 (6 + 8 * i + 6) (nI 1)), ?_, rfl, rfl, ?_, ?_⟩
          · show fX9_shutAll_b32 _ _ _ _ = _
            unfold fX9_shutAll_b32 fX9_becomes
            simp (disch := omega) [n_lit, n_eq, n_lt, n_le, n_mul, n_add, n_cl, grd_t, grd_T, su_c, su_s, su_k, wi_in, n_m1', n_m1, k0, hi', hb2, pp, k6, n_in, n_sub]
            simp [sm, pp]
          · intro c hc
            show su hs 84 _ _ c = G c
            rw [su_c _ _ _ hc]; exact p3 c hc
          · intro j
            show su hs 84 _ _ 84 j = _
            by_cases e : j = 6 + 8 * i + 6
            · subst e
              rw [su_s, if_pos ⟨i, by omega, pp, rfl⟩]
            · rw [su_k _ _ _ e, p4]
              by_cases z : ∃ q, q < i ∧ fd σ cs b q = 1 ∧ j = 6 + 8 * q + 6
              · obtain ⟨q, z1, z2, z3⟩ := z
                rw [if_pos ⟨q, z1, z2, z3⟩, if_pos ⟨q, by omega, z2, z3⟩]
              · rw [if_neg z, if_neg]
                rintro ⟨q, z1, z2, z3⟩
                exact z ⟨q, by omega, z2, z3⟩
        · have pp0 : fd σ cs b i = 0 := by have := hF i hi; omega
          refine ⟨(nI (sm (fun j => fd σ cs b j * (1 - σ 7 j)) (i + 1)), nI (i + 1), hs), ?_, rfl, rfl, p3, ?_⟩
          · show fX9_shutAll_b32 _ _ _ _ = _
            unfold fX9_shutAll_b32
            simp (disch := omega) [n_lit, n_eq, n_lt, n_le, n_mul, n_add, n_cl, grd_t, grd_T, su_c, su_s, su_k, wi_in, n_m1', n_m1, k0, hi', hb2, pp]
            simp [sm, pp0]
          · intro j
            show hs 84 j = _
            rw [p4]
            by_cases z : ∃ q, q < i ∧ fd σ cs b q = 1 ∧ j = 6 + 8 * q + 6
            · obtain ⟨q, z1, z2, z3⟩ := z
              rw [if_pos ⟨q, z1, z2, z3⟩, if_pos ⟨q, by omega, z2, z3⟩]
            · rw [if_neg z, if_neg]
              rintro ⟨q, z1, z2, z3⟩
              refine z ⟨q, ?_, z2, z3⟩
              by_cases e : q = i
              · subst e; omega
              · omega
      · rintro ⟨a, w, hs⟩ ⟨p1, p2, p3, p4⟩
        dsimp only at p1 p2 p3 p4
        subst p1; subst p2
        have k0 : hs 84 0 = nI (σ 0 0) := by
          rw [p4, if_neg (by rintro ⟨q, -, -, e⟩; omega)]; exact mN S
        refine ⟨(nI (sm (fun j => fd σ cs b j * (1 - σ 7 j)) (σ 0 0)), hs), ?_, rfl, p3, p4⟩
        show fX9_shutAll_b32 _ _ _ _ = _
        unfold fX9_shutAll_b32
        simp (disch := omega) [n_lit, n_eq, n_lt, n_le, n_mul, n_add, n_cl, grd_t, grd_T, su_c, su_s, su_k, wi_in, n_m1', n_m1, k0]
    dsimp only at q1 q2 q3
    subst q1
    have em : fX9_shutAll (nI t) b hh = some (nI (sm (fun j => fd σ cs b j * (1 - σ 7 j)) (σ 0 0)), h2) := by
      unfold fX9_shutAll
      rw [mTx (by rw [e84]; exact x2), d1, Option.bind_some, Option.bind_some, mFs S g84 d2, Option.bind_some, hl2]
      simp [h1]
    -- the store before, but for the cells in which was reckoned
    have Fg : FrS h (sr (sr h2 2 (h 2)) 84 (h 84)) := fun c c1 c2 c3 c4 c5 => by
      by_cases z : c = 84
      · subst z; rw [sr_s]
      · by_cases y : c = 2
        · subst y; rw [sr_c _ _ z, sr_s]
        · rw [sr_c _ _ z, sr_c _ _ y, q2 c z, d3 c c4 c5, hh2 c y]; exact e3 c c1 c2 c3
    have g2 : sr (sr h2 2 (h 2)) 84 (h 84) 2 = h 2 := by rw [sr_c _ _ (by omega), sr_s]
    have g84' : sr (sr h2 2 (h 2)) 84 (h 84) 84 = h 84 := sr_s _ _ _
    have cc : ∀ c, c ≠ 2 → c ≠ 84 → h2 c = sr (sr h2 2 (h 2)) 84 (h 84) c := fun c y z => by rw [sr_c _ _ z, sr_c _ _ y]
    have Ig := Inv_frS I Fg
    have Sg := Sc_frS S Fg
    generalize sr (sr h2 2 (h 2)) 84 (h 84) = hg at *
    refine agr _ _ _ ec em (Inv_set Ig (Sc_shut Sg (fun j => if σ 7 j = 1 then 1 else fd σ cs b j * (1 - σ 7 j)) hf ?_ ?_ cc ?_ ?_) cc ?_)
    · intro j hj; rw [q2 2 (by omega), d3 2 (by omega) (by omega), ← eh1, su_k _ _ _ hj, g2]; rw [e3 2 (by omega) (by omega) (by omega)]
    · rw [q2 2 (by omega), d3 2 (by omega) (by omega), ← eh1, su_s]
    · intro j hj
      rw [q3, if_neg, g84']
      rintro ⟨q, z1, z2, z3⟩
      exact hj q z1 z3
    · intro i hi
      rw [q3]
      have h7 := f7 S i hi
      by_cases z : fd σ cs b i = 1
      · rw [if_pos ⟨i, hi, z, rfl⟩, z]
        rcases (show σ 7 i = 0 ∨ σ 7 i = 1 by omega) with y | y <;> rw [y] <;> rfl
      · have z0 : fd σ cs b i = 0 := by have := hF i hi; omega
        rw [if_neg, (S.2.1 i hi).2.2.2.2.2.2.1.1, z0]
        · rcases (show σ 7 i = 0 ∨ σ 7 i = 1 by omega) with y | y <;> rw [y] <;> rfl
        · rintro ⟨q, z1, z2, z3⟩
          have : q = i := by omega
          subst this
          exact z z2
    · intro j hj
      rw [q3, if_neg, g84']
      rintro ⟨q, z1, z2, z3⟩
      omega
  · refine ag_f0 I ?_ ?_
    · unfold fX8_shutAll
      rw [cTx x1]
      simp [h1]
    · intro h1' e
      subst e
      unfold fX9_shutAll
      rw [mTx (by rw [su_c _ _ _ (by omega)]; exact x2)]
      simp [h1]
