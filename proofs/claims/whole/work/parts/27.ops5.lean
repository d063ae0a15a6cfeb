/-! 27: shut, object, asked -/
/-- the set of a row of names becomes another one -/
theorem Sc_shut {h h' : Sto} {σ : Gh} (S : Sc h 1 84 σ) (f : Nat → Nat) (hf : ∀ i, i < σ 0 0 → f i ≤ 1) (c2 : ∀ j, j ≠ 1 → h' 2 j = h 2 j) (cs : h' 2 1 = nI (bs f (σ 0 0))) (cc : ∀ c, c ≠ 2 → c ≠ 84 → h' c = h c) (ck : ∀ j, (∀ i, i < σ 0 0 → j ≠ 6 + 8 * i + 6) → h' 84 j = h 84 j) (cv : ∀ i, i < σ 0 0 → h' 84 (6 + 8 * i + 6) = nI (f i)) : Sc h' 1 84 (fun r i => if r = 7 then f i else σ r i) := by
  have hN := lN14 S
  obtain ⟨⟨⟨a1, a2, a3⟩, ⟨b1, b2, b3⟩, ⟨c1, c2', c3⟩, d1, d2⟩, T, ⟨s1, s2⟩, W, P⟩ := S
  have kk : ∀ j, (j < 6 ∨ 118 ≤ j) → h' 84 j = h 84 j := fun j hj => ck j (fun i hi => by omega)
  refine ⟨⟨⟨a1, (c2 0 (by omega)).trans a2, (kk 0 (by omega)).trans a3⟩, ⟨b1, (congrFun (cc 10 (by omega) (by omega)) 0).trans b2, (kk 1 (by omega)).trans b3⟩, ⟨c1, (congrFun (cc 10 (by omega) (by omega)) 1).trans c2', (kk 2 (by omega)).trans c3⟩, (congrFun (cc 10 (by omega) (by omega)) 2).trans (d1.trans (kk 3 (by omega)).symm), (congrFun (cc 1 (by omega) (by omega)) 4).trans (d2.trans (kk 5 (by omega)).symm)⟩, fun i hi => ?_, ⟨?_, ?_⟩, ?_, ?_⟩
  · have hi : i < σ 0 0 := hi
    obtain ⟨t1, t2, t3, t4, t5, t6, t7, t8⟩ := T i hi
    have k0 : h' 84 (6 + 8 * i) = h 84 (6 + 8 * i) := ck _ (fun q hq => by omega)
    have k1 : ∀ w, w < 8 → w ≠ 6 → h' 84 (6 + 8 * i + w) = h 84 (6 + 8 * i + w) := fun w hw hw2 => ck _ (fun q hq => by omega)
    rw [cc _ (show 1 + 3 ≠ 2 by omega) (by omega), cc _ (show 1 + 4 ≠ 2 by omega) (by omega), cc _ (show 1 + 5 ≠ 2 by omega) (by omega), cc _ (show 1 + 6 ≠ 2 by omega) (by omega), cc _ (show 1 + 7 ≠ 2 by omega) (by omega), cc _ (show 1 + 8 ≠ 2 by omega) (by omega), k0, k1 1 (by omega) (by omega), k1 2 (by omega) (by omega), k1 3 (by omega) (by omega), k1 4 (by omega) (by omega), k1 5 (by omega) (by omega), k1 7 (by omega) (by omega), cv i hi]
    exact ⟨t1, t2, t3, t4, t5, t6, ⟨rfl, hf i hi⟩, t8⟩
  · exact cs
  · exact (c2 2 (by omega)).trans s2
  · exact ScW_c W c1 (cc _ (by omega) (by omega)) (cc _ (by omega) (by omega)) (cc _ (by omega) (by omega)) (cc _ (by omega) (by omega)) (fun j h1 h2 => kk j (by omega)) rfl (Nat.le_refl _) (Nat.le_refl _) rfl rfl rfl
  · exact ScP_c P (cc _ (by omega) (by omega)) (fun j h1 => kk j (by omega)) rfl (Nat.le_refl _)
/-- the set of a row of names becomes another one -/
theorem Sc_askd {h h' : Sto} {σ : Gh} (S : Sc h 1 84 σ) (f : Nat → Nat) (hf : ∀ i, i < σ 0 0 → f i ≤ 1) (c2 : ∀ j, j ≠ 2 → h' 2 j = h 2 j) (cs : h' 2 2 = nI (bs f (σ 0 0))) (cc : ∀ c, c ≠ 2 → c ≠ 84 → h' c = h c) (ck : ∀ j, (∀ i, i < σ 0 0 → j ≠ 6 + 8 * i + 7) → h' 84 j = h 84 j) (cv : ∀ i, i < σ 0 0 → h' 84 (6 + 8 * i + 7) = nI (f i)) : Sc h' 1 84 (fun r i => if r = 8 then f i else σ r i) := by
  have hN := lN14 S
  obtain ⟨⟨⟨a1, a2, a3⟩, ⟨b1, b2, b3⟩, ⟨c1, c2', c3⟩, d1, d2⟩, T, ⟨s1, s2⟩, W, P⟩ := S
  have kk : ∀ j, (j < 6 ∨ 118 ≤ j) → h' 84 j = h 84 j := fun j hj => ck j (fun i hi => by omega)
  refine ⟨⟨⟨a1, (c2 0 (by omega)).trans a2, (kk 0 (by omega)).trans a3⟩, ⟨b1, (congrFun (cc 10 (by omega) (by omega)) 0).trans b2, (kk 1 (by omega)).trans b3⟩, ⟨c1, (congrFun (cc 10 (by omega) (by omega)) 1).trans c2', (kk 2 (by omega)).trans c3⟩, (congrFun (cc 10 (by omega) (by omega)) 2).trans (d1.trans (kk 3 (by omega)).symm), (congrFun (cc 1 (by omega) (by omega)) 4).trans (d2.trans (kk 5 (by omega)).symm)⟩, fun i hi => ?_, ⟨?_, ?_⟩, ?_, ?_⟩
  · have hi : i < σ 0 0 := hi
    obtain ⟨t1, t2, t3, t4, t5, t6, t7, t8⟩ := T i hi
    have k0 : h' 84 (6 + 8 * i) = h 84 (6 + 8 * i) := ck _ (fun q hq => by omega)
    have k1 : ∀ w, w < 8 → w ≠ 7 → h' 84 (6 + 8 * i + w) = h 84 (6 + 8 * i + w) := fun w hw hw2 => ck _ (fun q hq => by omega)
    rw [cc _ (show 1 + 3 ≠ 2 by omega) (by omega), cc _ (show 1 + 4 ≠ 2 by omega) (by omega), cc _ (show 1 + 5 ≠ 2 by omega) (by omega), cc _ (show 1 + 6 ≠ 2 by omega) (by omega), cc _ (show 1 + 7 ≠ 2 by omega) (by omega), cc _ (show 1 + 8 ≠ 2 by omega) (by omega), k0, k1 1 (by omega) (by omega), k1 2 (by omega) (by omega), k1 3 (by omega) (by omega), k1 4 (by omega) (by omega), k1 5 (by omega) (by omega), k1 6 (by omega) (by omega), cv i hi]
    exact ⟨t1, t2, t3, t4, t5, t6, t7, ⟨rfl, hf i hi⟩⟩
  · exact (c2 1 (by omega)).trans s1
  · exact cs
  · exact ScW_c W c1 (cc _ (by omega) (by omega)) (cc _ (by omega) (by omega)) (cc _ (by omega) (by omega)) (cc _ (by omega) (by omega)) (fun j h1 h2 => kk j (by omega)) rfl (Nat.le_refl _) (Nat.le_refl _) rfl rfl rfl
  · exact ScP_c P (cc _ (by omega) (by omega)) (fun j h1 => kk j (by omega)) rfl (Nat.le_refl _)
theorem Inv_set {h h' : Sto} {τ : Gh} (I : Inv h) (S : Sc h' 1 84 τ) (cc : ∀ c, c ≠ 2 → c ≠ 84 → h' c = h c) (ck : ∀ j, (j < 6 ∨ 118 ≤ j) → h' 84 j = h 84 j) : Inv h' :=
  Inv_scene I S (fun c hc => cc c (by omega) (by omega)) (fun c hc => cc c (by omega) (by omega)) (by rw [cc 16 (by omega) (by omega)]) (fun t ht => cc _ (by omega) (by omega)) (cc _ (by omega) (by omega)) (fun j hj => ck j (by omega))
theorem st_shut (a b : Int32) (h : Sto) (I : Inv h) : Agr (fX8_shut a b) (fX9_shut a b) h := by
  obtain ⟨σ, S⟩ := I.1
  have hN := lN14 S
  by_cases h1 : nI 0 ≤ a ∧ a ≤ lI (σ 0 0)
  · obtain ⟨i, hi, rfl⟩ := (arg_nm (by omega)).mp h1
    have g7 := f7 S i hi
    have i1 : h 84 (6 + 8 * i + 6) = nI (σ 7 i) := (S.2.1 i hi).2.2.2.2.2.2.1.1
    by_cases hb0 : b = 0
    · have ec : fX8_shut (nI i) b h = some (nI (σ 7 i), su h 2 1 (nI (bs (fun j => if j = i then 0 else σ 7 j) (σ 0 0)))) := by
        unfold fX8_shut
        simp (disch := omega) [n_lit, n_eq, n_lt, n_le, n_mul, n_add, n_cl, grd_t, grd_T, su_c, su_s, su_k, wi_in, n_m1', n_m1, cHas S, h1, hbs hN (f7 S) hi, asI, b2i_d g7, hb0, cShut S, n_shl, n_an, bs_set0 (f7 S) hi]
      have em : fX9_shut (nI i) b (su h 2 1 (nI (bs (fun j => if j = i then 0 else σ 7 j) (σ 0 0)))) = some (nI (σ 7 i), su (su h 2 1 (nI (bs (fun j => if j = i then 0 else σ 7 j) (σ 0 0)))) 84 (6 + 8 * i + 6) (nI 0)) := by
        unfold fX9_shut fX9_becomes fX9_isName
        simp (disch := omega) [n_lit, n_eq, n_lt, n_le, n_mul, n_add, n_cl, grd_t, grd_T, su_c, su_s, su_k, wi_in, n_m1', n_m1, in_v, mN S, h1, hb0, i1, b2i]
      refine agr _ _ _ ec em (Inv_set I (Sc_shut S (fun j => if j = i then 0 else σ 7 j) ?_ ?_ ?_ ?_ ?_ ?_) ?_ ?_)
      · intro j hj; split
        · omega
        · exact f7 S j hj
      · intro j hj; simp (disch := omega) [su_c, su_s, su_k]
      · simp (disch := omega) [su_c, su_s, su_k]
      · intro c h1 h2; simp (disch := omega) [su_c, su_s, su_k]
      · intro j hj; have := hj i hi; simp (disch := omega) [su_c, su_s, su_k]
      · intro j hj
        by_cases e : j = i
        · subst e; simp (disch := omega) [su_c, su_s, su_k]
        · simp (disch := omega) [su_c, su_s, su_k, e]; exact (S.2.1 j hj).2.2.2.2.2.2.1.1
      · intro c h1 h2; simp (disch := omega) [su_c, su_s, su_k]
      · intro j hj; simp (disch := omega) [su_c, su_s, su_k]
    · have ec : fX8_shut (nI i) b h = some (nI (σ 7 i), su h 2 1 (nI (bs (fun j => if j = i then 1 else σ 7 j) (σ 0 0)))) := by
        have hb1 : ¬ b = nI 0 := hb0
        unfold fX8_shut
        simp (disch := omega) [n_lit, n_eq, n_lt, n_le, n_mul, n_add, n_cl, grd_t, grd_T, su_c, su_s, su_k, wi_in, n_m1', n_m1, cHas S, h1, hbs hN (f7 S) hi, asI, b2i_d g7, cShut S, n_shl, n_or, bs_set1 (f7 S) hi, hb1]
      have em : fX9_shut (nI i) b (su h 2 1 (nI (bs (fun j => if j = i then 1 else σ 7 j) (σ 0 0)))) = some (nI (σ 7 i), su (su h 2 1 (nI (bs (fun j => if j = i then 1 else σ 7 j) (σ 0 0)))) 84 (6 + 8 * i + 6) (nI 1)) := by
        have hb1 : ¬ b = nI 0 := hb0
        unfold fX9_shut fX9_becomes fX9_isName
        simp (disch := omega) [n_lit, n_eq, n_lt, n_le, n_mul, n_add, n_cl, grd_t, grd_T, su_c, su_s, su_k, wi_in, n_m1', n_m1, in_v, mN S, h1, hb1, i1, b2i]
      refine agr _ _ _ ec em (Inv_set I (Sc_shut S (fun j => if j = i then 1 else σ 7 j) ?_ ?_ ?_ ?_ ?_ ?_) ?_ ?_)
      · intro j hj; split
        · omega
        · exact f7 S j hj
      · intro j hj; simp (disch := omega) [su_c, su_s, su_k]
      · simp (disch := omega) [su_c, su_s, su_k]
      · intro c h1 h2; simp (disch := omega) [su_c, su_s, su_k]
      · intro j hj; have := hj i hi; simp (disch := omega) [su_c, su_s, su_k]
      · intro j hj
        by_cases e : j = i
        · subst e; simp (disch := omega) [su_c, su_s, su_k]
        · simp (disch := omega) [su_c, su_s, su_k, e]; exact (S.2.1 j hj).2.2.2.2.2.2.1.1
      · intro c h1 h2; simp (disch := omega) [su_c, su_s, su_k]
      · intro j hj; simp (disch := omega) [su_c, su_s, su_k]
  · refine ag_f0 I ?_ ?_
    · unfold fX8_shut
      simp (disch := omega) [cHas S, h1]
    · intro h1' e
      subst e
      unfold fX9_shut
      simp (disch := omega) [mHas (Sc_find S), h1]
theorem st_asked (a : Int32) (h : Sto) (I : Inv h) : Agr (fX8_asked a) (fX9_asked a) h := by
  obtain ⟨σ, S⟩ := I.1
  have hN := lN14 S
  by_cases h1 : nI 0 ≤ a ∧ a ≤ lI (σ 0 0)
  · obtain ⟨i, hi, rfl⟩ := (arg_nm (by omega)).mp h1
    have g8 := f8 S i hi
    have i1 : h 84 (6 + 8 * i + 7) = nI (σ 8 i) := (S.2.1 i hi).2.2.2.2.2.2.2.1
    by_cases z : σ 8 i = 1
    · refine agr (-1000005) (su h 61 4 (h 61 4 + 1)) _ ?_ ?_ (Inv_find I 4 (by omega))
      · unfold fX8_asked
        simp (disch := omega) [cHas S, h1, cBitA S hi, z, tf4]
      · have e1 : su (su h 61 4 (h 61 4 + nI 1)) 84 (6 + 8 * i + 7) (nI 1) = su h 61 4 (h 61 4 + nI 1) := by
          have : su h 61 4 (h 61 4 + nI 1) 84 (6 + 8 * i + 7) = nI 1 := by rw [su_c _ _ _ (by omega), i1, z]
          exact su_self2 this
        unfold fX9_asked fX9_becomes
        rw [mHas (Sc_find S)]
        simp (disch := omega) [n_lit, n_eq, n_lt, n_le, n_mul, n_add, n_cl, grd_t, grd_T, su_c, su_s, su_k, wi_in, n_m1', n_m1, h1, i1, z]
        rw [e1]
        have m4 := mf4 (su h 61 4 (h 61 4 + nI 1))
        rw [su_c _ _ _ (show ¬ 86 = 61 by omega)] at m4
        show Option.bind (fX9_finds (-1000005) _) _ = _
        rw [m4]
        rfl
    · have z0 : σ 8 i = 0 := by omega
      have hf : ∀ j, j < σ 0 0 → (fun j => if j = i then 1 else σ 8 j) j ≤ 1 := by
        intro j hj
        dsimp only
        split
        · omega
        · exact f8 S j hj
      have ec : fX8_asked (nI i) h = some (nI (sm (fun j => if j = i then 1 else σ 8 j) (σ 0 0)), su h 2 2 (nI (bs (fun j => if j = i then 1 else σ 8 j) (σ 0 0)))) := by
        have hl := bs_l31 hN hf
        unfold fX8_asked
        simp (disch := omega) [n_lit, n_eq, n_lt, n_le, n_mul, n_add, n_cl, grd_t, grd_T, su_c, su_s, su_k, wi_in, n_m1', n_m1, cHas S, h1, hbs hN (f8 S) hi, z, cAsk S, n_shl, n_or, bs_set1 (f8 S) hi, bc, pc_bs hN hf]
      generalize eh1 : su h 2 2 (nI (bs (fun j => if j = i then 1 else σ 8 j) (σ 0 0))) = hh at ec
      have hS : Sc (su hh 84 (6 + 8 * i + 7) (nI 1)) 1 84 (fun r j => if r = 8 then (if j = i then 1 else σ 8 j) else σ r j) := by
        subst eh1
        refine Sc_askd S (fun j => if j = i then 1 else σ 8 j) hf ?_ ?_ ?_ ?_ ?_
        · intro j hj; simp (disch := omega) [su_c, su_s, su_k]
        · simp (disch := omega) [su_c, su_s, su_k]
        · intro c h1 h2; simp (disch := omega) [su_c, su_s, su_k]
        · intro j hj; have := hj i hi; simp (disch := omega) [su_c, su_s, su_k]
        · intro j hj
          by_cases e : j = i
          · subst e; simp (disch := omega) [su_c, su_s, su_k]
          · simp (disch := omega) [su_c, su_s, su_k, e]; exact (S.2.1 j hj).2.2.2.2.2.2.2.1
      have em : fX9_asked (nI i) hh = some (nI (sm (fun j => if j = i then 1 else σ 8 j) (σ 0 0)), su hh 84 (6 + 8 * i + 7) (nI 1)) := by
        have e84 : hh 84 = h 84 := by rw [← eh1]; simp (disch := omega) [su_c, su_s, su_k]
        have hm := mMany hS 7 8 (by omega) (fun j hj => (hS.2.1 j hj).2.2.2.2.2.2.2.1)
        unfold fX9_asked fX9_becomes fX9_isName
        simp (disch := omega) [n_lit, n_eq, n_lt, n_le, n_mul, n_add, n_cl, grd_t, grd_T, su_c, su_s, su_k, wi_in, n_m1', n_m1, in_v, e84, mN S, h1, i1, z0]
        rw [hm]
        rfl
      refine agr _ _ _ ec em (Inv_set I hS ?_ ?_)
      · intro c h1 h2; subst eh1; simp (disch := omega) [su_c, su_s, su_k]
      · intro j hj; subst eh1; simp (disch := omega) [su_c, su_s, su_k]
  · refine ag_f0 I ?_ ?_
    · unfold fX8_asked
      simp (disch := omega) [cHas S, h1]
    · intro h1' e
      subst e
      unfold fX9_asked
      simp (disch := omega) [mHas (Sc_find S), h1]
