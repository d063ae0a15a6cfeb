/-! 66: group, groups -/
section GR2
variable {h g : Sto} {σ : Gh} {d n : Nat} {l : Nat → Nat} {a b : Nat}
theorem cJoin {N : Nat} (h65 : g 65 0 = nI N) (hN : N ≤ 14) (hl : ∀ k, k < N → l k < 14) (h66 : ∀ k, k < N → g 66 k = nI (l k)) (ha : a < N) (hb : b < N) : ∃ H, fX7_join (nI (l a)) (nI (l b)) g = some H ∧ (∀ k, k < N → H 66 k = nI (jn l a b k)) ∧ ∀ c, c ≠ 66 → H c = g c := by
  have la := hl a ha
  have lb := hl b hb
  have key : ∃ H, lp (fun s : Int32 × Sto => fX7_join_b9 (nI (l a)) (nI (l b)) (nI (min (l a) (l b))) s.1 s.2) FUEL (nI 0, g) = some H ∧ ((∀ k, k < N → H 66 k = nI (jn l a b k)) ∧ ∀ c, c ≠ 66 → H c = g c) := by
    refine lp_I (f := fun s : Int32 × Sto => fX7_join_b9 (nI (l a)) (nI (l b)) (nI (min (l a) (l b))) s.1 s.2) (fun i s => s.1 = nI i ∧ (∀ k, k < i → s.2 66 k = nI (jn l a b k)) ∧ (∀ k, i ≤ k → k < N → s.2 66 k = nI (l k)) ∧ ∀ c, c ≠ 66 → s.2 c = g c) _ N (nI 0, g) ⟨rfl, fun k hk => absurd hk (Nat.not_lt_zero _), fun k _ hk => h66 k hk, fun _ _ => rfl⟩ (by omega) ?_ ?_
    · rintro i ⟨k, s⟩ hi ⟨rfl, a1, a2, a3⟩
      dsimp only at *
      have e65 : s 65 0 = nI N := by rw [a3 65 (by omega)]; exact h65
      have e66 := a2 i (Nat.le_refl _) hi
      have li := hl i hi
      have hi' : ¬ N ≤ i := by omega
      have fin : ∀ v, v = jn l a b i → ((∀ k, k < i + 1 → su s 66 i (nI v) 66 k = nI (jn l a b k)) ∧ (∀ k, i + 1 ≤ k → k < N → su s 66 i (nI v) 66 k = nI (l k)) ∧ ∀ c, c ≠ 66 → su s 66 i (nI v) c = g c) := by
        intro v hv
        refine ⟨fun k hk => ?_, fun k hk1 hk2 => ?_, fun c hc => (su_c _ _ _ hc).trans (a3 c hc)⟩
        · by_cases z : k = i
          · subst z; rw [su_s, hv]
          · rw [su_k _ _ _ z]; exact a1 k (by omega)
        · rw [su_k _ _ _ (by omega)]; exact a2 k (by omega) hk2
      by_cases y1 : l i = l a
      · have hv : min (l a) (l b) = jn l a b i := by unfold jn; rw [y1]; split <;> omega
        refine ⟨(nI (i + 1), su s 66 i (nI (min (l a) (l b)))), ?_, rfl, fin _ hv⟩
        show fX7_join_b9 (nI (l a)) (nI (l b)) (nI (min (l a) (l b))) (nI i) s = _
        unfold fX7_join_b9
        simp (disch := omega) [n_lit, n_eq, n_lt, n_le, n_mul, n_add, n_cl, grd_t, grd_T, su_c, su_s, su_k, wi_in, n_m1', n_m1, e65, hi', n_in, e66, y1]
      · by_cases y2 : l i = l b
        · have hv : min (l a) (l b) = jn l a b i := by unfold jn; rw [y2]; split <;> omega
          have y3 : ¬ l b = l a := by omega
          refine ⟨(nI (i + 1), su s 66 i (nI (min (l a) (l b)))), ?_, rfl, fin _ hv⟩
          show fX7_join_b9 (nI (l a)) (nI (l b)) (nI (min (l a) (l b))) (nI i) s = _
          unfold fX7_join_b9
          simp (disch := omega) [n_lit, n_eq, n_lt, n_le, n_mul, n_add, n_cl, grd_t, grd_T, su_c, su_s, su_k, wi_in, n_m1', n_m1, e65, hi', n_in, e66, y2, y3]
        · have hv : l i = jn l a b i := by unfold jn; rw [if_neg (by omega)]
          refine ⟨(nI (i + 1), s), ?_, rfl, fun k hk => ?_, fun k hk1 hk2 => a2 k (by omega) hk2, a3⟩
          · show fX7_join_b9 (nI (l a)) (nI (l b)) (nI (min (l a) (l b))) (nI i) s = _
            unfold fX7_join_b9
            simp (disch := omega) [n_lit, n_eq, n_lt, n_le, n_mul, n_add, n_cl, grd_t, grd_T, su_c, su_s, su_k, wi_in, n_m1', n_m1, e65, hi', n_in, e66, y1, y2]
          · show s 66 k = _
            by_cases z : k = i
            · subst z; rw [e66, ← hv]
            · exact a1 k (by omega)
    · rintro ⟨k, s⟩ ⟨rfl, a1, a2, a3⟩
      dsimp only at *
      have e65 : s 65 0 = nI N := by rw [a3 65 (by omega)]; exact h65
      refine ⟨s, ?_, a1, a3⟩
      show fX7_join_b9 (nI (l a)) (nI (l b)) (nI (min (l a) (l b))) (nI N) s = _
      unfold fX7_join_b9
      simp (disch := omega) [n_lit, n_eq, n_lt, n_le, n_mul, n_add, n_cl, grd_t, grd_T, su_c, su_s, su_k, wi_in, n_m1', n_m1, e65]
  obtain ⟨H, k1, k2⟩ := key
  refine ⟨H, ?_, k2⟩
  unfold fX7_join
  rw [j_min (by omega) (by omega), show ((0 : Int32), g) = (nI 0, g) from rfl, k1]
  rfl
theorem mJoin {N : Nat} (h84 : g 84 0 = nI N) (hN : N ≤ 14) (hl : ∀ k, k < N → l k < 14) (h92 : ∀ k, k < N → g 92 k = nI (l k)) (ha : a < N) (hb : b < N) (x1 x2 x3 x4 : Int32) : ∃ H, lp (fun s : Int32 × Sto => fX9_findGroups_b160 x1 x2 x3 x4 (nI (min (l a) (l b))) (nI (max (l a) (l b))) s.1 s.2) FUEL (nI 0, g) = some H ∧ ((∀ k, k < N → H 92 k = nI (jn l a b k)) ∧ ∀ c, c ≠ 92 → H c = g c) := by
  have la := hl a ha
  have lb := hl b hb
  refine lp_I (f := fun s : Int32 × Sto => fX9_findGroups_b160 x1 x2 x3 x4 (nI (min (l a) (l b))) (nI (max (l a) (l b))) s.1 s.2) (fun i s => s.1 = nI i ∧ (∀ k, k < i → s.2 92 k = nI (jn l a b k)) ∧ (∀ k, i ≤ k → k < N → s.2 92 k = nI (l k)) ∧ ∀ c, c ≠ 92 → s.2 c = g c) _ N (nI 0, g) ⟨rfl, fun k hk => absurd hk (Nat.not_lt_zero _), fun k _ hk => h92 k hk, fun _ _ => rfl⟩ (by omega) ?_ ?_
  · rintro i ⟨k, s⟩ hi ⟨rfl, a1, a2, a3⟩
    dsimp only at *
    have e84 : s 84 0 = nI N := by rw [a3 84 (by omega)]; exact h84
    have e92 := a2 i (Nat.le_refl _) hi
    have li := hl i hi
    have hi' : ¬ N ≤ i := by omega
    have fin : ∀ v, v = jn l a b i → ((∀ k, k < i + 1 → su s 92 i (nI v) 92 k = nI (jn l a b k)) ∧ (∀ k, i + 1 ≤ k → k < N → su s 92 i (nI v) 92 k = nI (l k)) ∧ ∀ c, c ≠ 92 → su s 92 i (nI v) c = g c) := by
      intro v hv
      refine ⟨fun k hk => ?_, fun k hk1 hk2 => ?_, fun c hc => (su_c _ _ _ hc).trans (a3 c hc)⟩
      · by_cases z : k = i
        · subst z; rw [su_s, hv]
        · rw [su_k _ _ _ z]; exact a1 k (by omega)
      · rw [su_k _ _ _ (by omega)]; exact a2 k (by omega) hk2
    by_cases y1 : l i = max (l a) (l b)
    · have hv : min (l a) (l b) = jn l a b i := by unfold jn; rw [if_pos y1]
      refine ⟨(nI (i + 1), su s 92 i (nI (min (l a) (l b)))), ?_, rfl, fin _ hv⟩
      show fX9_findGroups_b160 x1 x2 x3 x4 (nI (min (l a) (l b))) (nI (max (l a) (l b))) (nI i) s = _
      unfold fX9_findGroups_b160
      simp (disch := omega) [n_lit, n_eq, n_lt, n_le, n_mul, n_add, n_cl, grd_t, grd_T, su_c, su_s, su_k, wi_in, n_m1', n_m1, e84, hi', n_in, e92, y1]
    · have hv : l i = jn l a b i := by unfold jn; rw [if_neg y1]
      refine ⟨(nI (i + 1), su s 92 i (nI (l i))), ?_, rfl, fin _ hv⟩
      show fX9_findGroups_b160 x1 x2 x3 x4 (nI (min (l a) (l b))) (nI (max (l a) (l b))) (nI i) s = _
      unfold fX9_findGroups_b160
      simp (disch := omega) [n_lit, n_eq, n_lt, n_le, n_mul, n_add, n_cl, grd_t, grd_T, su_c, su_s, su_k, wi_in, n_m1', n_m1, e84, hi', n_in, e92, y1]
  · rintro ⟨k, s⟩ ⟨rfl, a1, a2, a3⟩
    dsimp only at *
    have e84 : s 84 0 = nI N := by rw [a3 84 (by omega)]; exact h84
    refine ⟨s, ?_, a1, a3⟩
    show fX9_findGroups_b160 x1 x2 x3 x4 (nI (min (l a) (l b))) (nI (max (l a) (l b))) (nI N) s = _
    unfold fX9_findGroups_b160
    simp (disch := omega) [n_lit, n_eq, n_lt, n_le, n_mul, n_add, n_cl, grd_t, grd_T, su_c, su_s, su_k, wi_in, n_m1', n_m1, e84]
theorem cGat (S : Sc h 1 84 σ) (hd : d ≤ 99) (hn : n ≤ 99) : ∃ H, fX7_gather (nI (σ 0 0)) (nI d) (nI n) h = some H ∧ (∀ k, k < σ 0 0 → H 66 k = nI (gou σ d n (σ 0 0) k)) ∧ H 65 0 = nI (σ 0 0) ∧ ∀ c, (c < 65 ∨ 81 < c) → H c = h c := by
  have hN := lN14 S
  have hW := lW S
  have q65 : su h 65 0 (nI (σ 0 0)) 65 0 = nI (σ 0 0) := su_s _ _ _ _
  obtain ⟨G1, a1, a2, a3⟩ := cZero q65 hN (nI d)
  obtain ⟨G2, b1, b2, b3⟩ := cWords S a3 a2 hd
  have qf : ∀ c, (c < 65 ∨ 81 < c) → su h 65 0 (nI (σ 0 0)) c = h c := fun c hc => su_c _ _ _ (by omega)
  have g65 : G2 65 0 = nI (σ 0 0) := by rw [b3 65 (by omega)]; exact q65
  have k1 : ∃ H, lp (fun s : Int32 × Sto => fX7_gather_b14 (nI n) s.1 s.2) FUEL (nI 0, G2) = some H ∧ ((∀ k, k < σ 0 0 → H 66 k = nI k) ∧ ∀ c, c ≠ 66 → H c = G2 c) := by
    refine lp_I (f := fun s : Int32 × Sto => fX7_gather_b14 (nI n) s.1 s.2) (fun i s => s.1 = nI i ∧ (∀ k, k < i → s.2 66 k = nI k) ∧ ∀ c, c ≠ 66 → s.2 c = G2 c) _ (σ 0 0) (nI 0, G2) ⟨rfl, fun k hk => absurd hk (Nat.not_lt_zero _), fun _ _ => rfl⟩ (by omega) ?_ ?_
    · rintro i ⟨k, s⟩ hi ⟨rfl, c1, c2⟩
      dsimp only at *
      have e65 : s 65 0 = nI (σ 0 0) := by rw [c2 65 (by omega)]; exact g65
      have hi' : ¬ σ 0 0 ≤ i := by omega
      refine ⟨(nI (i + 1), su s 66 i (nI i)), ?_, rfl, fun k hk => ?_, fun c hc => (su_c _ _ _ hc).trans (c2 c hc)⟩
      · show fX7_gather_b14 (nI n) (nI i) s = _
        unfold fX7_gather_b14
        simp (disch := omega) [n_lit, n_eq, n_lt, n_le, n_mul, n_add, n_cl, grd_t, grd_T, su_c, su_s, su_k, wi_in, n_m1', n_m1, e65, hi', n_in]
      · show su s 66 i (nI i) 66 k = _
        by_cases z : k = i
        · subst z; rw [su_s]
        · rw [su_k _ _ _ z]; exact c1 k (by omega)
    · rintro ⟨k, s⟩ ⟨rfl, c1, c2⟩
      dsimp only at *
      have e65 : s 65 0 = nI (σ 0 0) := by rw [c2 65 (by omega)]; exact g65
      refine ⟨s, ?_, c1, c2⟩
      show fX7_gather_b14 (nI n) (nI (σ 0 0)) s = _
      unfold fX7_gather_b14
      simp (disch := omega) [n_lit, n_eq, n_lt, n_le, n_mul, n_add, n_cl, grd_t, grd_T, su_c, su_s, su_k, wi_in, n_m1', n_m1, e65]
  obtain ⟨G3, c1, c2, c3⟩ := k1
  have g65' : G3 65 0 = nI (σ 0 0) := by rw [c3 65 (by omega)]; exact g65
  have gnr : ∀ a b, a < σ 0 0 → b < σ 0 0 → G3 (68 + a) b = nI (tgt σ a b d (σ 0 2)) := fun a b ha hb => by rw [c3 _ (by omega)]; exact b2 a b ha hb
  have k2 : ∃ H, lp (fun s : Int32 × Sto => fX7_gather_b41 (nI n) s.1 s.2) FUEL (nI 0, G3) = some H ∧ ((∀ k, k < σ 0 0 → H 66 k = nI (gou σ d n (σ 0 0) k)) ∧ ∀ c, c ≠ 66 → H c = G3 c) := by
    refine lp_I (f := fun s : Int32 × Sto => fX7_gather_b41 (nI n) s.1 s.2) (fun i s => s.1 = nI i ∧ (∀ k, k < σ 0 0 → s.2 66 k = nI (gou σ d n i k)) ∧ ∀ c, c ≠ 66 → s.2 c = G3 c) _ (σ 0 0) (nI 0, G3) ⟨rfl, fun k hk => c2 k hk, fun _ _ => rfl⟩ (by omega) ?_ ?_
    · rintro i ⟨k, s⟩ hi ⟨rfl, d1, d2⟩
      dsimp only at *
      have e65 : s 65 0 = nI (σ 0 0) := by rw [d2 65 (by omega)]; exact g65'
      have hi' : ¬ σ 0 0 ≤ i := by omega
      have hlo := gou_lt (σ := σ) (d := d) (n := n) hN i (by omega)
      have key : ∃ H, lp (fun r : Int32 × Sto => fX7_gather_b53 (nI n) (nI i) r.1 r.2) FUEL (nI 0, s) = some H ∧ ((∀ k, k < σ 0 0 → H 66 k = nI (gin σ d n i (gou σ d n i) i k)) ∧ ∀ c, c ≠ 66 → H c = G3 c) := by
        refine lp_I (f := fun r : Int32 × Sto => fX7_gather_b53 (nI n) (nI i) r.1 r.2) (fun j r => r.1 = nI j ∧ (∀ k, k < σ 0 0 → r.2 66 k = nI (gin σ d n i (gou σ d n i) j k)) ∧ ∀ c, c ≠ 66 → r.2 c = G3 c) _ i (nI 0, s) ⟨rfl, d1, d2⟩ (by omega) ?_ ?_
        · rintro j ⟨k, r⟩ hj ⟨rfl, f1, f2⟩
          dsimp only at *
          have e65 : r 65 0 = nI (σ 0 0) := by rw [f2 65 (by omega)]; exact g65'
          have hj' : ¬ i ≤ j := by omega
          have hli := gin_lt (σ := σ) (d := d) (n := n) hlo hi j (by omega)
          have n1 : r (68 + i) j = nI (tgt σ i j d (σ 0 2)) := by rw [f2 _ (by omega)]; exact gnr i j hi (by omega)
          have n2 : r (68 + j) i = nI (tgt σ j i d (σ 0 2)) := by rw [f2 _ (by omega)]; exact gnr j i (by omega) hi
          have t1 := tgt_le σ i j d (σ 0 2)
          have t2 := tgt_le σ j i d (σ 0 2)
          have v1 := f1 i hi
          have v2 := f1 j (by omega)
          obtain ⟨H, j1, j2, j3⟩ := cJoin (a := i) (b := j) e65 hN hli f1 hi (by omega)
          by_cases y : n ≤ tgt σ i j d (σ 0 2) ∨ n ≤ tgt σ j i d (σ 0 2)
          · refine ⟨(nI (j + 1), H), ?_, rfl, fun k hk => ?_, fun c hc => (j3 c hc).trans (f2 c hc)⟩
            · show fX7_gather_b53 (nI n) (nI i) (nI j) r = _
              unfold fX7_gather_b53
              by_cases y1 : n ≤ tgt σ i j d (σ 0 2)
              · simp (disch := omega) [n_lit, n_eq, n_lt, n_le, n_mul, n_add, n_cl, grd_t, grd_T, su_c, su_s, su_k, wi_in, n_m1', n_m1, hj', n_in, n1, y1, v1, v2, j1]
              · have y2 : ¬ tgt σ j i d (σ 0 2) < n := by omega
                simp (disch := omega) [n_lit, n_eq, n_lt, n_le, n_mul, n_add, n_cl, grd_t, grd_T, su_c, su_s, su_k, wi_in, n_m1', n_m1, hj', n_in, n1, n2, y1, y2, v1, v2, j1]
            · show H 66 k = _
              rw [gin_s, if_pos y]; exact j2 k hk
          · refine ⟨(nI (j + 1), r), ?_, rfl, fun k hk => ?_, f2⟩
            · show fX7_gather_b53 (nI n) (nI i) (nI j) r = _
              have y1 : ¬ n ≤ tgt σ i j d (σ 0 2) := fun q => y (Or.inl q)
              have y2 : tgt σ j i d (σ 0 2) < n := by
                rcases Nat.lt_or_ge (tgt σ j i d (σ 0 2)) n with q | q
                · exact q
                · exact absurd (Or.inr q) y
              unfold fX7_gather_b53
              simp (disch := omega) [n_lit, n_eq, n_lt, n_le, n_mul, n_add, n_cl, grd_t, grd_T, su_c, su_s, su_k, wi_in, n_m1', n_m1, hj', n_in, n1, n2, y1, y2]
            · show r 66 k = _
              rw [gin_s, if_neg y]; exact f1 k hk
        · rintro ⟨k, r⟩ ⟨rfl, f1, f2⟩
          dsimp only at *
          refine ⟨r, ?_, f1, f2⟩
          show fX7_gather_b53 (nI n) (nI i) (nI i) r = _
          unfold fX7_gather_b53
          rw [if_pos (Int32.le_refl _)]
      obtain ⟨H, m1, m2, m3⟩ := key
      refine ⟨(nI (i + 1), H), ?_, rfl, fun k hk => by rw [gou_s]; exact m2 k hk, m3⟩
      show fX7_gather_b41 (nI n) (nI i) s = _
      unfold fX7_gather_b41
      rw [if_neg (by rw [e65, n_le (by omega) (by omega)]; exact hi'), show ((0 : Int32), s) = (nI 0, s) from rfl, m1, Option.bind_some, show nI i + 1 = nI (i + 1) from n_add i 1]
    · rintro ⟨k, s⟩ ⟨rfl, d1, d2⟩
      dsimp only at *
      have e65 : s 65 0 = nI (σ 0 0) := by rw [d2 65 (by omega)]; exact g65'
      refine ⟨s, ?_, d1, d2⟩
      show fX7_gather_b41 (nI n) (nI (σ 0 0)) s = _
      unfold fX7_gather_b41
      rw [if_pos (by rw [e65]; exact Int32.le_refl _)]
  obtain ⟨G4, e1, e2, e3⟩ := k2
  refine ⟨G4, ?_, e2, by rw [e3 65 (by omega)]; exact g65', fun c hc => by rw [e3 c (by omega), c3 c (by omega), b3 c (by omega)]; exact qf c hc⟩
  unfold fX7_gather fX7_gatherNear
  rw [Option.bind_some, show ((0 : Int32), su h 65 0 (nI (σ 0 0))) = (nI 0, su h 65 0 (nI (σ 0 0))) from rfl, a1, Option.bind_some, show ((0 : Int32), G1) = (nI 0, G1) from rfl, b1, Option.bind_some, Option.bind_some, show ((0 : Int32), G2) = (nI 0, G2) from rfl, c1, Option.bind_some, show ((0 : Int32), G3) = (nI 0, G3) from rfl, e1]
  rfl
end GR2
