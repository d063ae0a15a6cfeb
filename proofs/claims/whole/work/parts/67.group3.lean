/-! 67: group, groups, joined -/
theorem jn_eq {l : Nat → Nat} {a b : Nat} (e : l a = l b) : jn l a b = l := by
  funext k
  unfold jn
  split
  · omega
  · rfl
def gs (l : Nat → Nat) (x k : Nat) : Nat := if l k = x then 1 else 0
theorem gs_le (l : Nat → Nat) (x k : Nat) : gs l x k ≤ 1 := by unfold gs; split <;> omega
section GR3
variable {h g : Sto} {σ : Gh} {d n : Nat} {l : Nat → Nat}
theorem mGat (S : Sc h 1 84 σ) (hd : d ≤ 99) (hn : n ≤ 99) : ∃ H, fX9_findGroups (nI d) (nI n) h = some H ∧ (∀ k, k < σ 0 0 → H 92 k = nI (gou σ d n (σ 0 0) k)) ∧ ∀ c, c ≠ 92 → H c = h c := by
  have hN := lN14 S
  have hW := lW S
  have k1 : ∃ H, lp (fun s : Int32 × Sto => fX9_findGroups_b2 (nI d) (nI n) s.1 s.2) FUEL (nI 0, h) = some H ∧ ((∀ k, k < σ 0 0 → H 92 k = nI k) ∧ ∀ c, c ≠ 92 → H c = h c) := by
    refine lp_I (f := fun s : Int32 × Sto => fX9_findGroups_b2 (nI d) (nI n) s.1 s.2) (fun i s => s.1 = nI i ∧ (∀ k, k < i → s.2 92 k = nI k) ∧ ∀ c, c ≠ 92 → s.2 c = h c) _ (σ 0 0) (nI 0, h) ⟨rfl, fun k hk => absurd hk (Nat.not_lt_zero _), fun _ _ => rfl⟩ (by omega) ?_ ?_
    · rintro i ⟨k, s⟩ hi ⟨rfl, c1, c2⟩
      dsimp only at *
      have e84 : s 84 0 = nI (σ 0 0) := by rw [c2 84 (by omega)]; exact mN S
      have hi' : ¬ σ 0 0 ≤ i := by omega
      refine ⟨(nI (i + 1), su s 92 i (nI i)), ?_, rfl, fun k hk => ?_, fun c hc => (su_c _ _ _ hc).trans (c2 c hc)⟩
      · show fX9_findGroups_b2 (nI d) (nI n) (nI i) s = _
        unfold fX9_findGroups_b2
        simp (disch := omega) [n_lit, n_eq, n_lt, n_le, n_mul, n_add, n_cl, grd_t, grd_T, su_c, su_s, su_k, wi_in, n_m1', n_m1, e84, hi', n_in]
      · show su s 92 i (nI i) 92 k = _
        by_cases z : k = i
        · subst z; rw [su_s]
        · rw [su_k _ _ _ z]; exact c1 k (by omega)
    · rintro ⟨k, s⟩ ⟨rfl, c1, c2⟩
      dsimp only at *
      have e84 : s 84 0 = nI (σ 0 0) := by rw [c2 84 (by omega)]; exact mN S
      refine ⟨s, ?_, c1, c2⟩
      show fX9_findGroups_b2 (nI d) (nI n) (nI (σ 0 0)) s = _
      unfold fX9_findGroups_b2
      simp (disch := omega) [n_lit, n_eq, n_lt, n_le, n_mul, n_add, n_cl, grd_t, grd_T, su_c, su_s, su_k, wi_in, n_m1', n_m1, e84]
  obtain ⟨G3, c1, c2, c3⟩ := k1
  have k2 : ∃ H, lp (fun s : Int32 × Sto => fX9_findGroups_b27 (nI d) (nI n) s.1 s.2) FUEL (nI 0, G3) = some H ∧ ((∀ k, k < σ 0 0 → H 92 k = nI (gou σ d n (σ 0 0) k)) ∧ ∀ c, c ≠ 92 → H c = h c) := by
    refine lp_I (f := fun s : Int32 × Sto => fX9_findGroups_b27 (nI d) (nI n) s.1 s.2) (fun i s => s.1 = nI i ∧ (∀ k, k < σ 0 0 → s.2 92 k = nI (gou σ d n i k)) ∧ ∀ c, c ≠ 92 → s.2 c = h c) _ (σ 0 0) (nI 0, G3) ⟨rfl, fun k hk => c2 k hk, c3⟩ (by omega) ?_ ?_
    · rintro i ⟨k, s⟩ hi ⟨rfl, d1, d2⟩
      dsimp only at *
      have e84 : s 84 0 = nI (σ 0 0) := by rw [d2 84 (by omega)]; exact mN S
      have hi' : ¬ σ 0 0 ≤ i := by omega
      have hlo := gou_lt (σ := σ) (d := d) (n := n) hN i (by omega)
      have key : ∃ H, lp (fun r : Int32 × Sto => fX9_findGroups_b40 (nI d) (nI n) (nI i) r.1 r.2) FUEL (nI 0, s) = some H ∧ ((∀ k, k < σ 0 0 → H 92 k = nI (gin σ d n i (gou σ d n i) i k)) ∧ ∀ c, c ≠ 92 → H c = h c) := by
        refine lp_I (f := fun r : Int32 × Sto => fX9_findGroups_b40 (nI d) (nI n) (nI i) r.1 r.2) (fun j r => r.1 = nI j ∧ (∀ k, k < σ 0 0 → r.2 92 k = nI (gin σ d n i (gou σ d n i) j k)) ∧ ∀ c, c ≠ 92 → r.2 c = h c) _ i (nI 0, s) ⟨rfl, d1, d2⟩ (by omega) ?_ ?_
        · rintro j ⟨k, r⟩ hj ⟨rfl, f1, f2⟩
          dsimp only at *
          have hli := gin_lt (σ := σ) (d := d) (n := n) hlo hi j (by omega)
          have hgs := gin_s σ d n i (gou σ d n i) j
          generalize gin σ d n i (gou σ d n i) j = l at *
          have S2 : Sc r 1 84 σ := Sc_cells S (fun c q1 q2 => f2 c (by omega)) (f2 84 (by omega))
          have e84 : r 84 0 = nI (σ 0 0) := mN S2
          have hj' : ¬ i ≤ j := by omega
          have g1 := mTog (a := i) (b := j) S2 hi (by omega) hd
          have g2 := mTog (a := j) (b := i) S2 (by omega) hi hd
          have t1 := tgt_le σ i j d (σ 0 2)
          have t2 := tgt_le σ j i d (σ 0 2)
          have v1 := f1 i hi
          have v2 := f1 j (by omega)
          have l1 := hli i hi
          have l2 := hli j (by omega)
          obtain ⟨H, j1, j2, j3⟩ := mJoin (a := i) (b := j) e84 hN hli f1 hi (by omega) (nI d) (nI n) (nI i) (nI j)
          have hjo : ∀ u v, u = min (l i) (l j) → v = max (l i) (l j) → lp (fun s : Int32 × Sto => fX9_findGroups_b160 (nI d) (nI n) (nI i) (nI j) (nI u) (nI v) s.1 s.2) FUEL (nI 0, r) = some H := by
            rintro u v rfl rfl; exact j1
          have hjA : l j ≤ l i → lp (fun s : Int32 × Sto => fX9_findGroups_b160 (nI d) (nI n) (nI i) (nI j) (nI (l j)) (nI (l i)) s.1 s.2) FUEL (nI 0, r) = some H := fun q => hjo _ _ (by omega) (by omega)
          have hjB : ¬ l j ≤ l i → lp (fun s : Int32 × Sto => fX9_findGroups_b160 (nI d) (nI n) (nI i) (nI j) (nI (l i)) (nI (l j)) s.1 s.2) FUEL (nI 0, r) = some H := fun q => hjo _ _ (by omega) (by omega)
          by_cases w : l i = l j
          · refine ⟨(nI (j + 1), r), ?_, rfl, fun k hk => ?_, f2⟩
            · show fX9_findGroups_b40 (nI d) (nI n) (nI i) (nI j) r = _
              unfold fX9_findGroups_b40
              simp (disch := omega) [n_lit, n_eq, n_lt, n_le, n_mul, n_add, n_cl, grd_t, grd_T, su_c, su_s, su_k, wi_in, n_m1', n_m1, hj', n_in, v1, v2, w]
            · show r 92 k = _
              rw [hgs, jn_eq w]
              split <;> exact f1 k hk
          · by_cases y : n ≤ tgt σ i j d (σ 0 2) ∨ n ≤ tgt σ j i d (σ 0 2)
            · refine ⟨(nI (j + 1), H), ?_, rfl, fun k hk => ?_, fun c hc => (j3 c hc).trans (f2 c hc)⟩
              · show fX9_findGroups_b40 (nI d) (nI n) (nI i) (nI j) r = _
                unfold fX9_findGroups_b40
                by_cases y1 : n ≤ tgt σ i j d (σ 0 2)
                · by_cases z : l j ≤ l i
                  · have := hjA z
                    simp (disch := omega) [n_lit, n_eq, n_lt, n_le, n_mul, n_add, n_cl, grd_t, grd_T, su_c, su_s, su_k, wi_in, n_m1', n_m1, hj', n_in, v1, v2, w, g1, y1, z, this]
                  · have := hjB z
                    simp (disch := omega) [n_lit, n_eq, n_lt, n_le, n_mul, n_add, n_cl, grd_t, grd_T, su_c, su_s, su_k, wi_in, n_m1', n_m1, hj', n_in, v1, v2, w, g1, y1, z, this]
                · have y2 : n ≤ tgt σ j i d (σ 0 2) := by omega
                  by_cases z : l j ≤ l i
                  · have := hjA z
                    simp (disch := omega) [n_lit, n_eq, n_lt, n_le, n_mul, n_add, n_cl, grd_t, grd_T, su_c, su_s, su_k, wi_in, n_m1', n_m1, hj', n_in, v1, v2, w, g1, g2, y1, y2, z, this]
                  · have := hjB z
                    simp (disch := omega) [n_lit, n_eq, n_lt, n_le, n_mul, n_add, n_cl, grd_t, grd_T, su_c, su_s, su_k, wi_in, n_m1', n_m1, hj', n_in, v1, v2, w, g1, g2, y1, y2, z, this]
              · show H 92 k = _
                rw [hgs, if_pos y]; exact j2 k hk
            · refine ⟨(nI (j + 1), r), ?_, rfl, fun k hk => ?_, f2⟩
              · show fX9_findGroups_b40 (nI d) (nI n) (nI i) (nI j) r = _
                have y1 : ¬ n ≤ tgt σ i j d (σ 0 2) := fun q => y (Or.inl q)
                have y2 : ¬ n ≤ tgt σ j i d (σ 0 2) := fun q => y (Or.inr q)
                unfold fX9_findGroups_b40
                simp (disch := omega) [n_lit, n_eq, n_lt, n_le, n_mul, n_add, n_cl, grd_t, grd_T, su_c, su_s, su_k, wi_in, n_m1', n_m1, hj', n_in, v1, v2, w, g1, g2, y1, y2]
              · show r 92 k = _
                rw [hgs, if_neg y]; exact f1 k hk
        · rintro ⟨k, r⟩ ⟨rfl, f1, f2⟩
          dsimp only at *
          refine ⟨r, ?_, f1, f2⟩
          show fX9_findGroups_b40 (nI d) (nI n) (nI i) (nI i) r = _
          unfold fX9_findGroups_b40
          rw [if_pos (Int32.le_refl _)]
      obtain ⟨H, m1, m2, m3⟩ := key
      refine ⟨(nI (i + 1), H), ?_, rfl, fun k hk => by rw [gou_s]; exact m2 k hk, m3⟩
      show fX9_findGroups_b27 (nI d) (nI n) (nI i) s = _
      unfold fX9_findGroups_b27
      rw [if_neg (by rw [e84, n_le (by omega) (by omega)]; exact hi'), show ((0 : Int32), s) = (nI 0, s) from rfl, m1, Option.bind_some, show nI i + 1 = nI (i + 1) from n_add i 1]
    · rintro ⟨k, s⟩ ⟨rfl, d1, d2⟩
      dsimp only at *
      have e84 : s 84 0 = nI (σ 0 0) := by rw [d2 84 (by omega)]; exact mN S
      refine ⟨s, ?_, d1, d2⟩
      show fX9_findGroups_b27 (nI d) (nI n) (nI (σ 0 0)) s = _
      unfold fX9_findGroups_b27
      rw [if_pos (by rw [e84]; exact Int32.le_refl _)]
  obtain ⟨G4, e1, e2, e3⟩ := k2
  refine ⟨G4, ?_, e2, e3⟩
  unfold fX9_findGroups
  rw [show ((0 : Int32), h) = (nI 0, h) from rfl, c1, Option.bind_some, show ((0 : Int32), G3) = (nI 0, G3) from rfl, e1]
  rfl
theorem cGs {N : Nat} (h65 : g 65 0 = nI N) (hN : N ≤ 14) (hl : ∀ k, k < N → l k < 14) (h66 : ∀ k, k < N → g 66 k = nI (l k)) {x : Nat} (hx : x < 14) : fX7_groupSet (nI x) g = some (nI (bs (gs l x) N)) := by
  have hl2 : lp (fun s => fX7_groupSet_b4 (nI x) g s.1 s.2) FUEL (0, 0) = some (nI (bs (gs l x) N)) := by
    refine lp_F (g := fun i => (nI (bs (gs l x) i), nI i)) N _ rfl (by omega) ?_ ?_
    · intro i hi
      show fX7_groupSet_b4 (nI x) g (nI (bs (gs l x) i)) (nI i) = _
      unfold fX7_groupSet_b4
      have hi' : ¬ N ≤ i := by omega
      have e66 := h66 i hi
      have li := hl i hi
      by_cases z : l i = x
      · have h1 : gs l x i = 1 := if_pos z
        simp (disch := omega) [n_lit, n_eq, n_lt, n_le, n_mul, n_add, n_cl, grd_t, grd_T, su_c, su_s, su_k, wi_in, n_m1', n_m1, h65, hi', n_in, e66, z, n_shl, n_or, bs_or (f := gs l x) (fun i _ => gs_le l x i) h1]
      · have h1 : gs l x i = 0 := if_neg z
        simp (disch := omega) [n_lit, n_eq, n_lt, n_le, n_mul, n_add, n_cl, grd_t, grd_T, su_c, su_s, su_k, wi_in, n_m1', n_m1, h65, hi', n_in, e66, z, bs_0 h1]
    · show fX7_groupSet_b4 (nI x) g _ (nI N) = _
      unfold fX7_groupSet_b4
      simp (disch := omega) [n_lit, n_eq, n_lt, n_le, n_mul, n_add, n_cl, grd_t, grd_T, su_c, su_s, su_k, wi_in, n_m1', n_m1, h65]
  unfold fX7_groupSet
  rw [hl2]
  rfl
theorem mGs {N x : Nat} (h84 : g 84 0 = nI N) (hN : N ≤ 14) (hl : ∀ k, k < N → l k < 14) (h92 : ∀ k, k < N → g 92 k = nI (l k)) (hx : x < N) (w : Int32) : lp (fun s => fX9_group_b48 (nI x) w g s.1 s.2) FUEL (0, 0) = some (nI (bs (gs l (l x)) N)) := by
  have lx := hl x hx
  have ex := h92 x hx
  refine lp_F (g := fun i => (nI (bs (gs l (l x)) i), nI i)) N _ rfl (by omega) ?_ ?_
  · intro i hi
    show fX9_group_b48 (nI x) w g (nI (bs (gs l (l x)) i)) (nI i) = _
    unfold fX9_group_b48
    have hi' : ¬ N ≤ i := by omega
    have e92 := h92 i hi
    have li := hl i hi
    by_cases z : l i = l x
    · have h1 : gs l (l x) i = 1 := if_pos z
      simp (disch := omega) [n_lit, n_eq, n_lt, n_le, n_mul, n_add, n_cl, grd_t, grd_T, su_c, su_s, su_k, wi_in, n_m1', n_m1, h84, hi', n_in, e92, ex, z, n_shl, n_or, bs_or (f := gs l (l x)) (fun i _ => gs_le l (l x) i) h1]
    · have h1 : gs l (l x) i = 0 := if_neg z
      simp (disch := omega) [n_lit, n_eq, n_lt, n_le, n_mul, n_add, n_cl, grd_t, grd_T, su_c, su_s, su_k, wi_in, n_m1', n_m1, h84, hi', n_in, e92, ex, z, n_or, bs_0 h1]
  · show fX9_group_b48 (nI x) w g _ (nI N) = _
    unfold fX9_group_b48
    simp (disch := omega) [n_lit, n_eq, n_lt, n_le, n_mul, n_add, n_cl, grd_t, grd_T, su_c, su_s, su_k, wi_in, n_m1', n_m1, h84]
def gn (l : Nat → Nat) : Nat → Nat := sm (fun k => if l k = k then 1 else 0)
theorem gn_s (l : Nat → Nat) (k : Nat) : gn l (k + 1) = gn l k + (if l k = k then 1 else 0) := rfl
theorem cGn {N : Nat} (h65 : g 65 0 = nI N) (hN : N ≤ 14) (hl : ∀ k, k < N → l k < 14) (h66 : ∀ k, k < N → g 66 k = nI (l k)) : fX7_countGroups g = some (nI (gn l N)) := by
  have hl2 : lp (fun s => fX7_countGroups_b4 g s.1 s.2) FUEL (0, 0) = some (nI (gn l N)) := by
    refine lp_F (g := fun i => (nI (gn l i), nI i)) N _ rfl (by omega) ?_ ?_
    · intro i hi
      show fX7_countGroups_b4 g (nI (gn l i)) (nI i) = some (.inl (nI (gn l (i + 1)), nI (i + 1)))
      rw [gn_s]
      unfold fX7_countGroups_b4
      have hi' : ¬ N ≤ i := by omega
      have e66 := h66 i hi
      have li := hl i hi
      by_cases z : l i = i
      · simp (disch := omega) [n_lit, n_eq, n_lt, n_le, n_mul, n_add, n_cl, grd_t, grd_T, su_c, su_s, su_k, wi_in, n_m1', n_m1, h65, hi', n_in, e66, z, b2i, asIn1]
      · simp (disch := omega) [n_lit, n_eq, n_lt, n_le, n_mul, n_add, n_cl, grd_t, grd_T, su_c, su_s, su_k, wi_in, n_m1', n_m1, h65, hi', n_in, e66, z, b2i, asIn0]
    · show fX7_countGroups_b4 g _ (nI N) = _
      unfold fX7_countGroups_b4
      simp (disch := omega) [n_lit, n_eq, n_lt, n_le, n_mul, n_add, n_cl, grd_t, grd_T, su_c, su_s, su_k, wi_in, n_m1', n_m1, h65]
  unfold fX7_countGroups
  rw [hl2]
  rfl
theorem mGn {N : Nat} (h84 : g 84 0 = nI N) (hN : N ≤ 14) (hl : ∀ k, k < N → l k < 14) (h92 : ∀ k, k < N → g 92 k = nI (l k)) : lp (fun s => fX9_groups_b26 g s.1 s.2) FUEL (0, 0) = some (nI (gn l N)) := by
  refine lp_F (g := fun i => (nI (gn l i), nI i)) N _ rfl (by omega) ?_ ?_
  · intro i hi
    show fX9_groups_b26 g (nI (gn l i)) (nI i) = some (.inl (nI (gn l (i + 1)), nI (i + 1)))
    rw [gn_s]
    unfold fX9_groups_b26
    have hi' : ¬ N ≤ i := by omega
    have e92 := h92 i hi
    have li := hl i hi
    by_cases z : l i = i
    · simp (disch := omega) [n_lit, n_eq, n_lt, n_le, n_mul, n_add, n_cl, grd_t, grd_T, su_c, su_s, su_k, wi_in, n_m1', n_m1, h84, hi', n_in, e92, z]
    · simp (disch := omega) [n_lit, n_eq, n_lt, n_le, n_mul, n_add, n_cl, grd_t, grd_T, su_c, su_s, su_k, wi_in, n_m1', n_m1, h84, hi', n_in, e92, z]
  · show fX9_groups_b26 g _ (nI N) = _
    unfold fX9_groups_b26
    simp (disch := omega) [n_lit, n_eq, n_lt, n_le, n_mul, n_add, n_cl, grd_t, grd_T, su_c, su_s, su_k, wi_in, n_m1', n_m1, h84]
end GR3
def FrG (h H : Sto) : Prop := ∀ c, ((c < 65 ∨ 81 < c) ∧ c ≠ 92) → H c = h c
theorem Inv_frG {h H : Sto} (I : Inv h) (e : FrG h H) : Inv H :=
  Inv_congr (fun c h1 h2 => e c (by omega)) (by rw [e 83 (by omega)]) (by rw [e 83 (by omega)]) (fun c hc => e c (by omega)) I
theorem mGrp (x y : Int32) (h : Sto) : fX9_isGroup x y h = some (decide ((nI 0 ≤ x ∧ x ≤ nI 99) ∧ (nI 1 ≤ y ∧ y ≤ nI 99))) := by
  unfold fX9_isGroup
  rw [show fX9_in x.toInt64 0 99 h = some (decide (nI 0 ≤ x ∧ x ≤ nI 99)) from in_n x 0 99 (by omega) (by omega) h, show fX9_in y.toInt64 1 99 h = some (decide (nI 1 ≤ y ∧ y ≤ nI 99)) from in_n y 1 99 (by omega) (by omega) h]
  by_cases h1 : nI 0 ≤ x ∧ x ≤ nI 99 <;> by_cases h2 : nI 1 ≤ y ∧ y ≤ nI 99 <;> simp [h1, h2]
theorem st_groups (a b : Int32) (h : Sto) (I : Inv h) : Agr (fX8_groups a b) (fX9_groups a b) h := by
  obtain ⟨σ, S⟩ := I.1
  have hN := lN14 S
  by_cases hall : (nI 0 ≤ a ∧ a ≤ nI 99) ∧ (nI 1 ≤ b ∧ b ≤ nI 99)
  · obtain ⟨h1, h2⟩ := id hall
    obtain ⟨d, rfl, -, hd⟩ := arg_in (by omega) (by omega) h1
    obtain ⟨n, rfl, -, hn⟩ := arg_in (by omega) (by omega) h2
    obtain ⟨H, e1, e2, e3, e4⟩ := cGat S hd hn
    have S1 : Sc H 1 84 σ := Sc_cells S (fun c q1 q2 => e4 c (by omega)) (e4 84 (by omega))
    obtain ⟨H2, e5, e6, e7⟩ := mGat S1 hd hn
    have hl := gou_lt (σ := σ) (d := d) (n := n) hN (σ 0 0) (Nat.le_refl _)
    refine agr (nI (gn (gou σ d n (σ 0 0)) (σ 0 0))) H H2 ?_ ?_ (Inv_frG I (fun c hc => (e7 c hc.2).trans (e4 c hc.1)))
    · unfold fX8_groups
      rw [cSpan, wi_in, cN S, e1]
      simp only [Option.bind_some]
      rw [cGn e3 hN hl e2]
      simp [n_lit, h1, h2]
    · unfold fX9_groups
      rw [mGrp, e5]
      simp only [Option.bind_some]
      rw [mGn (by rw [e7 84 (by omega)]; exact mN S1) hN hl e6]
      simp [h1, h2]
  · refine ag_f0 I ?_ ?_
    · unfold fX8_groups
      rw [cSpan, wi_in]
      by_cases h1 : nI 0 ≤ a ∧ a ≤ nI 99 <;> by_cases h2 : nI 1 ≤ b ∧ b ≤ nI 99 <;> first | exact hall.elim (And.intro h1 h2) | simp [n_lit, h1, h2]
    · intro h1' e
      subst e
      unfold fX9_groups
      rw [mGrp]
      simp [hall]
theorem st_group (a b c d : Int32) (h : Sto) (I : Inv h) : Agr (fX8_group a b c d) (fX9_group a b c d) h := by
  obtain ⟨σ, S⟩ := I.1
  have hN := lN14 S
  have ein : ∀ h', fX9_in d.toInt64 0 2 h' = some (decide (nI 0 ≤ d ∧ d ≤ nI 2)) := fun h' => in_n d 0 2 (by omega) (by omega) h'
  by_cases hall : (nI 0 ≤ a ∧ a ≤ lI (σ 0 0)) ∧ ((nI 0 ≤ b ∧ b ≤ nI 99) ∧ (nI 1 ≤ c ∧ c ≤ nI 99)) ∧ (nI 0 ≤ d ∧ d ≤ nI 2)
  · obtain ⟨h1, ⟨h2, h3⟩, h4⟩ := id hall
    obtain ⟨i, hi, rfl⟩ := (arg_nm (by omega)).mp h1
    obtain ⟨p, rfl, -, hp⟩ := arg_in (by omega) (by omega) h2
    obtain ⟨n, rfl, -, hn⟩ := arg_in (by omega) (by omega) h3
    obtain ⟨w, rfl, -, hw⟩ := arg_in (by omega) (by omega) h4
    obtain ⟨H, e1, e2, e3, e4⟩ := cGat S hp hn
    have S1 : Sc H 1 84 σ := Sc_cells S (fun c q1 q2 => e4 c (by omega)) (e4 84 (by omega))
    obtain ⟨H2, e5, e6, e7⟩ := mGat S1 hp hn
    have hl := gou_lt (σ := σ) (d := p) (n := n) hN (σ 0 0) (Nat.le_refl _)
    have hli := hl i hi
    have v1 := e2 i hi
    have v2 := e6 i hi
    have mS1 := mHas S1
    have cg := cGs e3 hN hl e2 (x := gou σ p n (σ 0 0) i) hli
    have mg := mGs (x := i) (by rw [e7 84 (by omega)]; exact mN S1) hN hl e6 hi (nI w)
    generalize gou σ p n (σ 0 0) = l at *
    have hlt := bs_l31 (f := gs l (l i)) hN (fun k _ => gs_le l (l i) k)
    refine agr (if w = 0 then nI (l i) else if w = 1 then nI (pcN (bs (gs l (l i)) (σ 0 0))) else nI (bs (gs l (l i)) (σ 0 0))) H H2 ?_ ?_ (Inv_frG I (fun c hc => (e7 c hc.2).trans (e4 c hc.1)))
    · unfold fX8_group
      rw [cHas S, cSpan, wi_in, wi_in, cN S, e1]
      simp only [Option.bind_some]
      rcases (show w = 0 ∨ w = 1 ∨ w = 2 by omega) with rfl | rfl | rfl
      · simp (disch := omega) [n_lit, n_eq, n_lt, n_le, n_mul, n_add, n_cl, grd_t, grd_T, su_c, su_s, su_k, wi_in, n_m1', n_m1, h1, h2, h3, h4, n_in, v1]
      · simp (disch := omega) [n_lit, n_eq, n_lt, n_le, n_mul, n_add, n_cl, grd_t, grd_T, su_c, su_s, su_k, wi_in, n_m1', n_m1, h1, h2, h3, h4, n_in, v1, cg, bc hlt]
      · simp (disch := omega) [n_lit, n_eq, n_lt, n_le, n_mul, n_add, n_cl, grd_t, grd_T, su_c, su_s, su_k, wi_in, n_m1', n_m1, h1, h2, h3, h4, n_in, v1, cg]
    · unfold fX9_group
      rw [mS1, mGrp, ein, e5]
      simp only [Option.bind_some]
      rw [mg]
      have hmm := mmany (a := bs (gs l (l i)) (σ 0 0)) (by omega) H2
      rcases (show w = 0 ∨ w = 1 ∨ w = 2 by omega) with rfl | rfl | rfl
      · simp (disch := omega) [n_lit, n_eq, n_lt, n_le, n_mul, n_add, n_cl, grd_t, grd_T, su_c, su_s, su_k, wi_in, n_m1', n_m1, h1, h2, h3, h4, n_in, v2]
      · simp (disch := omega) [n_lit, n_eq, n_lt, n_le, n_mul, n_add, n_cl, grd_t, grd_T, su_c, su_s, su_k, wi_in, n_m1', n_m1, h1, h2, h3, h4, n_in, hmm]
      · simp (disch := omega) [n_lit, n_eq, n_lt, n_le, n_mul, n_add, n_cl, grd_t, grd_T, su_c, su_s, su_k, wi_in, n_m1', n_m1, h1, h2, h3, h4, n_in]
  · refine ag_f0 I ?_ ?_
    · unfold fX8_group
      rw [cHas S, cSpan, wi_in, wi_in]
      by_cases h1 : nI 0 ≤ a ∧ a ≤ lI (σ 0 0) <;> by_cases h2 : nI 0 ≤ b ∧ b ≤ nI 99 <;> by_cases h3 : nI 1 ≤ c ∧ c ≤ nI 99 <;> by_cases h4 : nI 0 ≤ d ∧ d ≤ nI 2 <;> first | exact hall.elim (And.intro h1 (And.intro (And.intro h2 h3) h4)) | simp [n_lit, h1, h2, h3, h4]
    · intro h1' e
      subst e
      unfold fX9_group
      rw [mHas (Sc_find S), mGrp, ein]
      by_cases h1 : nI 0 ≤ a ∧ a ≤ lI (σ 0 0) <;> by_cases h2 : (nI 0 ≤ b ∧ b ≤ nI 99) ∧ (nI 1 ≤ c ∧ c ≤ nI 99) <;> by_cases h4 : nI 0 ≤ d ∧ d ≤ nI 2 <;> first | exact hall.elim (And.intro h1 (And.intro h2 h4)) | simp [h1, h2, h4]
