/-! 64: ask -/
def offV (σ : Gh) (cs : List Nat) (x : Int32) (i : Nat) : Int64 := jabs ((scv σ cs i).toInt64 - x.toInt64)
def akF (σ : Gh) (cs : List Nat) (x : Int32) : Nat → Nat × Int64 := fo (fun i a => if σ 8 i = 1 then a else if a.1 = 0 ∨ lg_cmp (offV σ cs x i) a.2 < 0 then (i + 1, offV σ cs x i) else a) (0, 0)
theorem akF_s (σ : Gh) (cs : List Nat) (x : Int32) (i : Nat) : akF σ cs x (i + 1) = if σ 8 i = 1 then akF σ cs x i else if (akF σ cs x i).1 = 0 ∨ lg_cmp (offV σ cs x i) (akF σ cs x i).2 < 0 then (i + 1, offV σ cs x i) else akF σ cs x i := rfl
theorem akF_le (σ : Gh) (cs : List Nat) (x : Int32) : ∀ i, (akF σ cs x i).1 ≤ i
  | 0 => Nat.le_refl _
  | i + 1 => by
    have := akF_le σ cs x i
    rw [akF_s]
    split
    · omega
    · split
      · exact Nat.le_refl _
      · omega
theorem jabs_m (x : Int64) : (if 0 ≤ lg_cmp x 0 then some x else some (-x)) = some (jabs x) := by
  have h1 := lc_lt x 0
  unfold jabs
  by_cases z : x < 0
  · have z1 : lg_cmp x 0 < 0 := by rw [h1]; exact z
    have z2 : ¬ 0 < x := by
      rw [Int64.lt_iff_toInt_lt] at z ⊢; omega
    rw [if_neg (Int32.not_le.mpr z1), if_neg z2]
  · have z1 : ¬ lg_cmp x 0 < 0 := by rw [h1]; exact z
    rw [if_pos (Int32.not_lt.mp z1)]
    by_cases y : 0 < x
    · rw [if_pos y]
    · have : x = 0 := by
        apply Int64.toInt_inj.mp
        rw [Int64.lt_iff_toInt_lt] at z y
        omega
      rw [if_neg y, this]
      rfl
section ASK
variable {h g : Sto} {σ : Gh} {t N : Nat} {cs : List Nat}
theorem cAsk2 (S : Sc h 1 84 σ) (U : TU h t cs N) (ht : t < 6) (x : Int32) : ∃ H, lp (fun s => fX8_ask_b42 (nI t) x s.1 s.2.1 s.2.2.1 s.2.2.2) FUEL (lI 0, 0, nI 0, h) = some (lI (akF σ cs x (σ 0 0)).1, H) ∧ ∀ c, c ≠ 63 → c ≠ 64 → H c = h c := by
  have hN := lN14 S
  have key : ∃ y, lp (fun s : Int32 × Int64 × Int32 × Sto => fX8_ask_b42 (nI t) x s.1 s.2.1 s.2.2.1 s.2.2.2) FUEL (lI 0, 0, nI 0, h) = some y ∧ (y.1 = lI (akF σ cs x (σ 0 0)).1 ∧ ∀ c, c ≠ 63 → c ≠ 64 → y.2 c = h c) := by
    refine lp_I (f := fun s : Int32 × Int64 × Int32 × Sto => fX8_ask_b42 (nI t) x s.1 s.2.1 s.2.2.1 s.2.2.2) (fun i s => s.1 = lI (akF σ cs x i).1 ∧ s.2.1 = (akF σ cs x i).2 ∧ s.2.2.1 = nI i ∧ ∀ c, c ≠ 63 → c ≠ 64 → s.2.2.2 c = h c) _ (σ 0 0) _ ⟨rfl, rfl, rfl, fun _ _ _ => rfl⟩ (by omega) ?_ ?_
    · rintro i ⟨u, w, k, s⟩ hi ⟨rfl, rfl, rfl, a1⟩
      dsimp only at *
      have F : FrS h s := fun c c1 c2 c3 c4 c5 => a1 c c1 c2
      have S2 := Sc_frS S F
      have hi' : ¬ σ 0 0 ≤ i := by omega
      have hle := akF_le σ cs x i
      have hb2 := cBitA S2 hi s
      have h0 : ¬ (s 2 0 ≤ nI i) := by rw [cN S2, n_le (by omega) (by omega)]; exact hi'
      have e1 : nI i + 1 = nI (i + 1) := n_add i 1
      by_cases z : σ 8 i = 1
      · refine ⟨(lI (akF σ cs x (i + 1)).1, (akF σ cs x (i + 1)).2, nI (i + 1), s), ?_, rfl, rfl, rfl, a1⟩
        show fX8_ask_b42 (nI t) x (lI (akF σ cs x i).1) (akF σ cs x i).2 (nI i) s = _
        unfold fX8_ask_b42
        rw [if_neg h0, hb2, Option.bind_some, if_pos (decide_eq_true z), akF_s, if_pos z, e1]
      · obtain ⟨H, b1, b2⟩ := cSc S U F hi ht
        refine ⟨(lI (akF σ cs x (i + 1)).1, (akF σ cs x (i + 1)).2, nI (i + 1), H), ?_, rfl, rfl, rfl, fun c c1 c2 => (b2 c c1 c2).trans (a1 c c1 c2)⟩
        show fX8_ask_b42 (nI t) x (lI (akF σ cs x i).1) (akF σ cs x i).2 (nI i) s = _
        unfold fX8_ask_b42
        rw [if_neg h0, hb2, Option.bind_some, if_neg (by simp [z]), b1, Option.bind_some, akF_s, if_neg z, e1]
        dsimp only
        rw [show jabs ((scv σ cs i).toInt64 - x.toInt64) = offV σ cs x i from rfl]
        have hl0 : (lI (akF σ cs x i).1 < 0) = ((akF σ cs x i).1 = 0) := lI_lt0 (by omega)
        by_cases y : (akF σ cs x i).1 = 0
        · rw [if_pos (by rw [hl0]; exact y), if_pos (Or.inl y), lI_s]
        · rw [if_neg (by rw [hl0]; exact y)]
          by_cases v : lg_cmp (offV σ cs x i) (akF σ cs x i).2 < 0
          · rw [if_neg (Int32.not_le.mpr v), if_pos (Or.inr v), lI_s]
          · rw [if_pos (Int32.not_lt.mp v), if_neg (by rintro (q | q); exact y q; exact v q)]
    · rintro ⟨u, w, k, s⟩ ⟨rfl, rfl, rfl, a1⟩
      dsimp only at *
      have F : FrS h s := fun c c1 c2 c3 c4 c5 => a1 c c1 c2
      refine ⟨(lI (akF σ cs x (σ 0 0)).1, s), ?_, rfl, a1⟩
      show fX8_ask_b42 (nI t) x _ _ (nI (σ 0 0)) s = _
      unfold fX8_ask_b42
      simp (disch := omega) [n_lit, n_eq, n_lt, n_le, n_mul, n_add, n_cl, grd_t, grd_T, su_c, su_s, su_k, wi_in, n_m1', n_m1, cN (Sc_frS S F)]
  obtain ⟨⟨y, H⟩, k1, rfl, k2⟩ := key
  exact ⟨H, k1, k2⟩
theorem mAsk2 (S : Sc h 1 84 σ) (U : TU h t cs N) (e84 : g 84 = h 84) (ht : t < 6) (x : Int32) : ∃ H, lp (fun s => fX9_ask_b37 (nI t) x s.1 s.2.1 s.2.2.1 s.2.2.2) FUEL (lI 0, 0, nI 0, g) = some (lI (akF σ cs x (σ 0 0)).1, H) ∧ ∀ c, c ≠ 90 → H c = g c := by
  have hN := lN14 S
  have key : ∃ y, lp (fun s : Int32 × Int64 × Int32 × Sto => fX9_ask_b37 (nI t) x s.1 s.2.1 s.2.2.1 s.2.2.2) FUEL (lI 0, 0, nI 0, g) = some y ∧ (y.1 = lI (akF σ cs x (σ 0 0)).1 ∧ ∀ c, c ≠ 90 → y.2 c = g c) := by
    refine lp_I (f := fun s : Int32 × Int64 × Int32 × Sto => fX9_ask_b37 (nI t) x s.1 s.2.1 s.2.2.1 s.2.2.2) (fun i s => s.1 = lI (akF σ cs x i).1 ∧ s.2.1 = (akF σ cs x i).2 ∧ s.2.2.1 = nI i ∧ ∀ c, c ≠ 90 → s.2.2.2 c = g c) _ (σ 0 0) _ ⟨rfl, rfl, rfl, fun _ _ => rfl⟩ (by omega) ?_ ?_
    · rintro i ⟨u, w, k, s⟩ hi ⟨rfl, rfl, rfl, a1⟩
      dsimp only at *
      have es : s 84 = h 84 := (a1 84 (by omega)).trans e84
      have hi' : ¬ σ 0 0 ≤ i := by omega
      have hle := akF_le σ cs x i
      have h8 := f8 S i hi
      have hb2 : fX9_of (nI i) 7 s = some (nI (σ 8 i)) := by
        rw [show (7 : Int32) = nI 7 from rfl, mOf i 7 (by omega) (by omega), es]
        exact congrArg some (S.2.1 i hi).2.2.2.2.2.2.2.1
      have h0 : ¬ (s 84 0 ≤ nI i) := by rw [es, mN S, n_le (by omega) (by omega)]; exact hi'
      have e1 : nI i + 1 = nI (i + 1) := n_add i 1
      by_cases z : σ 8 i = 1
      · refine ⟨(lI (akF σ cs x (i + 1)).1, (akF σ cs x (i + 1)).2, nI (i + 1), s), ?_, rfl, rfl, rfl, a1⟩
        show fX9_ask_b37 (nI t) x (lI (akF σ cs x i).1) (akF σ cs x i).2 (nI i) s = _
        unfold fX9_ask_b37
        rw [if_neg h0, hb2, Option.bind_some, if_neg (by rw [z]; exact fun q => q rfl), akF_s, if_pos z, e1]
      · obtain ⟨H, b1, b2⟩ := mSc S U es hi ht
        refine ⟨(lI (akF σ cs x (i + 1)).1, (akF σ cs x (i + 1)).2, nI (i + 1), H), ?_, rfl, rfl, rfl, fun c c1 => (b2 c c1).trans (a1 c c1)⟩
        show fX9_ask_b37 (nI t) x (lI (akF σ cs x i).1) (akF σ cs x i).2 (nI i) s = _
        have z1 : ¬ nI (σ 8 i) = 1 := by rw [show (1 : Int32) = nI 1 from rfl, n_eq (by omega) (by omega)]; exact z
        unfold fX9_ask_b37
        rw [if_neg h0, hb2, Option.bind_some, if_pos z1, b1, Option.bind_some, akF_s, if_neg z, e1]
        dsimp only
        rw [jabs_m, Option.bind_some, show jabs ((scv σ cs i).toInt64 - x.toInt64) = offV σ cs x i from rfl]
        have hl0 : (lI (akF σ cs x i).1 < 0) = ((akF σ cs x i).1 = 0) := lI_lt0 (by omega)
        by_cases y : (akF σ cs x i).1 = 0
        · rw [if_pos (by rw [hl0]; exact y), if_pos (Or.inl y), lI_s]
        · rw [if_neg (by rw [hl0]; exact y)]
          by_cases v : lg_cmp (offV σ cs x i) (akF σ cs x i).2 < 0
          · rw [if_pos v, if_pos (Or.inr v), lI_s]
          · rw [if_neg v, if_neg (by rintro (q | q); exact y q; exact v q)]
    · rintro ⟨u, w, k, s⟩ ⟨rfl, rfl, rfl, a1⟩
      dsimp only at *
      have e0 : s 84 0 = nI (σ 0 0) := by rw [a1 84 (by omega), e84]; exact mN S
      refine ⟨(lI (akF σ cs x (σ 0 0)).1, s), ?_, rfl, a1⟩
      show fX9_ask_b37 (nI t) x _ _ (nI (σ 0 0)) s = _
      unfold fX9_ask_b37
      simp (disch := omega) [n_lit, n_eq, n_lt, n_le, n_mul, n_add, n_cl, grd_t, grd_T, su_c, su_s, su_k, wi_in, n_m1', n_m1, e0]
  obtain ⟨⟨y, H⟩, k1, rfl, k2⟩ := key
  exact ⟨H, k1, k2⟩
end ASK
theorem st_ask (a b : Int32) (h : Sto) (I : Inv h) : Agr (fX8_ask a b) (fX9_ask a b) h := by
  obtain ⟨σ, S⟩ := I.1
  obtain ⟨T, X⟩ := I.2.1
  have hN := lN14 S
  have hT := X.1
  have x1 : h 16 0 = nI T := X.2.1
  have x2 : h 84 4 = nI T := X.2.2.1
  have ein : ∀ h', fX9_in b.toInt64 (-9999) 9999 h' = some (decide (-nI 9999 ≤ b ∧ b ≤ nI 9999)) := fun h' => by
    rw [show (-9999 : Int64) = (-(nI 9999)).toInt64 by decide, show (9999 : Int64) = (nI 9999).toInt64 by decide, in_in]
  by_cases h1 : nI 0 ≤ a ∧ a ≤ lI T
  · by_cases h2 : -nI 9999 ≤ b ∧ b ≤ nI 9999
    · obtain ⟨t, ht, rfl⟩ := (arg_nm (by omega)).mp h1
      obtain ⟨cs, N, U⟩ := X.tu ht
      obtain ⟨H, e1, e2⟩ := cAsk2 S U (by omega) b
      have hle := akF_le σ cs b (σ 0 0)
      have hge : (nI 0 ≤ lI (akF σ cs b (σ 0 0)).1) = (0 < (akF σ cs b (σ 0 0)).1) := lI_ge0 (by omega)
      have pc : fX8_ask (nI t) b h = if nI 0 ≤ lI (akF σ cs b (σ 0 0)).1 then some (lI (akF σ cs b (σ 0 0)).1, H) else ((fX8_tellFinding (-1000004) H).bind fun q_26 => some (q_26.1, q_26.2)) := by
        unfold fX8_ask
        rw [cTx x1, wi_in, show ((-1 : Int32), (0 : Int64), (0 : Int32), h) = (lI 0, 0, nI 0, h) from rfl, e1]
        simp [n_lit, h1, h2]
        rfl
      have pm : ∀ g, g 84 = h 84 → ∃ G, fX9_ask (nI t) b g = (if nI 0 ≤ lI (akF σ cs b (σ 0 0)).1 then some (lI (akF σ cs b (σ 0 0)).1, G) else ((fX9_finds (-1000004) G).bind fun q_29 => some (q_29.1, q_29.2))) ∧ ∀ c, c ≠ 90 → G c = g c := by
        intro g eg
        obtain ⟨G, d1, d2⟩ := mAsk2 S U eg (by omega) b
        refine ⟨G, ?_, d2⟩
        unfold fX9_ask
        rw [mTx (by rw [eg]; exact x2), ein, show ((-1 : Int32), (0 : Int64), (0 : Int32), g) = (lI 0, 0, nI 0, g) from rfl, d1]
        simp [n_lit, h1, h2]
        rfl
      by_cases z : 0 < (akF σ cs b (σ 0 0)).1
      · have z1 : nI 0 ≤ lI (akF σ cs b (σ 0 0)).1 := by rw [hge]; exact z
        obtain ⟨G, d1, d2⟩ := pm H (e2 84 (by omega) (by omega))
        rw [if_pos z1] at pc d1
        exact agr _ H G pc d1 (Inv_frS I (fun c c1 c2 c3 c4 c5 => (d2 c c4).trans (e2 c c1 c2)))
      · have z1 : ¬ nI 0 ≤ lI (akF σ cs b (σ 0 0)).1 := by rw [hge]; exact z
        rw [if_neg z1, tf3] at pc
        have pc : fX8_ask (nI t) b h = some (-1000004, su H 61 3 (H 61 3 + 1)) := pc
        obtain ⟨G, d1, d2⟩ := pm (su H 61 3 (H 61 3 + 1)) (by rw [su_c _ _ _ (by omega)]; exact e2 84 (by omega) (by omega))
        rw [if_neg z1, mf3] at d1
        have d1 : fX9_ask (nI t) b (su H 61 3 (H 61 3 + 1)) = some (-1000004, su G 86 3 (G 86 3 + 1)) := d1
        refine agr _ _ _ pc d1 (Inv_frS (Inv_find I 3 (by omega)) (fun c c1 c2 c3 c4 c5 => ?_))
        have e61 : H 61 = h 61 := e2 61 (by omega) (by omega)
        by_cases y : c = 86
        · subst y
          have e86 : G 86 = h 86 := by rw [d2 86 (by omega), su_c _ _ _ (by omega)]; exact e2 86 (by omega) (by omega)
          funext j
          by_cases w : j = 3
          · subst w; rw [su_s, su_s, e86, su_c _ _ _ (by omega)]
          · rw [su_k _ _ _ w, su_k _ _ _ w, e86, su_c _ _ _ (by omega)]
        · rw [su_c _ _ _ y, su_c _ _ _ y, d2 c c4]
          by_cases y2 : c = 61
          · subst y2
            funext j
            by_cases w : j = 3
            · subst w; rw [su_s, su_s, e61]
            · rw [su_k _ _ _ w, su_k _ _ _ w, e61]
          · rw [su_c _ _ _ y2, su_c _ _ _ y2]; exact e2 c c1 c2
    · refine ag_f0 I ?_ ?_
      · unfold fX8_ask
        rw [cTx x1, wi_in]
        simp [n_lit, h1, h2]
      · intro h1' e
        subst e
        unfold fX9_ask
        rw [mTx (by rw [su_c _ _ _ (by omega)]; exact x2), ein]
        simp [h1, h2]
  · refine ag_f0 I ?_ ?_
    · unfold fX8_ask
      rw [cTx x1]
      simp [h1]
    · intro h1' e
      subst e
      unfold fX9_ask
      rw [mTx (by rw [su_c _ _ _ (by omega)]; exact x2)]
      simp [h1]
