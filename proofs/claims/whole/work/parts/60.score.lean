/-! 60: scores -/
def sgR (σ : Gh) (i : Nat) : Nat → Int32 := fun k => nI (sgn σ i k)
def scv (σ : Gh) (cs : List Nat) (i : Nat) : Int32 := ((evs (sgR σ i) cs []).getD []).headD 0
def Stk (s : Sto) : List Int32 → Prop
  | [] => True
  | x :: t => s 90 t.length = x ∧ Stk s t
theorem Stk_cg {s s' : Sto} : ∀ (t : List Int32), (∀ j, j < t.length → s' 90 j = s 90 j) → Stk s t → Stk s' t
  | [], _, _ => trivial
  | x :: t, h, q => ⟨(h t.length (Nat.lt_succ_self _)).trans q.1, Stk_cg t (fun j hj => h j (by show j < t.length + 1; omega)) q.2⟩
theorem joinJ {ch : Nat} (hc : ch < 257) (x y : Int32) (h : Sto) : fX9_joined (nI ch) x y h = some (evj ch x y) := by
  unfold fX9_joined evj
  by_cases h1 : ch = 42
  · subst h1; rfl
  by_cases h2 : ch = 43
  · subst h2; rfl
  by_cases h3 : ch = 45
  · subst h3; rfl
  by_cases h4 : ch = 60
  · subst h4
    by_cases q : y ≤ x
    · simp [n_lit, n_eq, q]
    · simp [n_lit, n_eq, q]
  by_cases h5 : ch = 61
  · subst h5
    by_cases q : x = y
    · simp [n_lit, n_eq, q]
    · simp [n_lit, n_eq, q]
  · by_cases q : y = 0
    · simp (disch := omega) [n_lit, n_eq, h1, h2, h3, h4, h5, q]
    · have q' : ¬ y = nI 0 := q
      simp (disch := omega) [n_lit, n_eq, h1, h2, h3, h4, h5, q', grd_t, grd_T]
theorem mSgn7 {h : Sto} {σ : Gh} {n : Nat} (S : Sc h 1 84 σ) (hn : n < 14) (k : Nat) (hk : k ≤ 7) : fX9_signOf (nI n) (nI k) h = some (sgR σ n k) := by
  rcases Nat.lt_or_ge k 7 with z | z
  · exact mSgn S hn k (by omega)
  · have : k = 7 := by omega
    subst this
    rfl
theorem y84 (x k : Int32) (s : Sto) : fX9_signOf x k s = fX9_signOf x k (fun c => if c = 84 then s 84 else (fun _ => 0)) := rfl
theorem sg84 {s s' : Sto} (x k : Int32) (e : s 84 = s' 84) : fX9_signOf x k s = fX9_signOf x k s' := by
  rw [y84 x k s, y84 x k s', e]
section SCO
variable {h g : Sto} {σ : Gh} {i t N : Nat} {cs : List Nat} {v : Int32}
theorem mScore (S : Sc h 1 84 σ) (eh : g 84 = h 84) (hi : i < σ 0 0) (ht : t < 6) (hl : cs.length ≤ 80) (s0 : g 84 (718 + 81 * t) = nI cs.length) (ss : ∀ j, j < cs.length → g 84 (718 + 81 * t + (1 + j)) = nI (cs.getD j 0)) (ok : okc cs) (hv : evs (sgR σ i) cs [] = some [v]) :
    ∃ H, fX9_scoreOf (nI t) (nI i) g = some (v, H) ∧ ∀ c, c ≠ 90 → H c = g c := by
  have hN := lN14 S
  have key : ∃ H, lp (fun s : Int32 × Int32 × Sto => fX9_scoreOf_b15 (nI i) (nI (718 + 81 * t)) s.1 s.2.1 s.2.2) FUEL (nI 0, nI 1, g) = some H ∧ (H 90 0 = v ∧ ∀ c, c ≠ 90 → H c = g c) := by
    refine lp_I (f := fun s : Int32 × Int32 × Sto => fX9_scoreOf_b15 (nI i) (nI (718 + 81 * t)) s.1 s.2.1 s.2.2) (fun j s => s.2.1 = nI (1 + j) ∧ (∀ c, c ≠ 90 → s.2.2 c = g c) ∧ ∃ stk, evs (sgR σ i) (cs.drop j) stk = some [v] ∧ s.1 = nI stk.length ∧ stk.length ≤ j ∧ Stk s.2.2 stk) (fun H => H 90 0 = v ∧ ∀ c, c ≠ 90 → H c = g c) cs.length (nI 0, nI 1, g) ⟨rfl, fun _ _ => rfl, [], hv, rfl, Nat.le_refl _, trivial⟩ (by omega) ?_ ?_
    · rintro j ⟨k, w, s⟩ hj ⟨rfl, a1, stk, a2, rfl, a3, a4⟩
      dsimp only at *
      have e84 := a1 84 (by omega)
      have hs := ss j hj
      rw [List.drop_eq_getElem_cons hj] at a2
      have hx : cs.getD j 0 = cs[j] := by rw [List.getD_eq_getElem?_getD, List.getElem?_eq_getElem hj]; rfl
      rw [hx] at hs
      have okx := ok _ (List.getElem_mem hj)
      generalize cs[j] = x at *
      have a2 : (ev1 (sgR σ i) stk x).bind (evs (sgR σ i) (cs.drop (j + 1))) = some [v] := a2
      have hj' : ¬ cs.length < 1 + j := by omega
      have es0 : s 84 (718 + 81 * t) = nI cs.length := by rw [e84]; exact s0
      have es1 : s 84 (718 + 81 * t + (1 + j)) = nI x := by rw [e84]; exact hs
      rcases (show x < 10000 ∨ (10000 ≤ x ∧ x < 10008) ∨ x = 20256 ∨ (20000 ≤ x ∧ x < 20256) by omega) with z | z | z | z
      · have ee : ev1 (sgR σ i) stk x = some (nI x :: stk) := by unfold ev1; rw [if_pos z]
        rw [ee] at a2
        have z1 : ¬ 20000 ≤ x := by omega
        have z2 : ¬ 10000 ≤ x := by omega
        refine ⟨(nI (stk.length + 1), nI (1 + (j + 1)), su s 90 stk.length (nI x)), ?_, rfl, fun c hc => (su_c _ _ _ hc).trans (a1 c hc), nI x :: stk, a2, rfl, by show stk.length + 1 ≤ j + 1; omega, su_s s 90 stk.length (nI x), Stk_cg (s' := su s 90 stk.length (nI x)) stk (fun q hq => su_k _ _ _ (by omega)) a4⟩
        show fX9_scoreOf_b15 (nI i) (nI (718 + 81 * t)) (nI stk.length) (nI (1 + j)) s = _
        unfold fX9_scoreOf_b15
        simp (disch := omega) [n_lit, n_eq, n_lt, n_le, n_mul, n_add, n_cl, grd_t, grd_T, su_c, su_s, su_k, wi_in, n_m1', n_m1, n_in, es0, es1, hj', z1, z2]
        rfl
      · have ee : ev1 (sgR σ i) stk x = some (sgR σ i (x - 10000) :: stk) := by unfold ev1; rw [if_neg (by omega), if_pos (by omega)]
        rw [ee] at a2
        have z1 : ¬ 20000 ≤ x := by omega
        have z2 : 10000 ≤ x := by omega
        have hg := (sg84 (nI i) (nI (x - 10000)) (e84.trans eh)).trans (mSgn7 S (n := i) (by omega) (x - 10000) (by omega))
        refine ⟨(nI (stk.length + 1), nI (1 + (j + 1)), su s 90 stk.length (sgR σ i (x - 10000))), ?_, rfl, fun c hc => (su_c _ _ _ hc).trans (a1 c hc), sgR σ i (x - 10000) :: stk, a2, rfl, by show stk.length + 1 ≤ j + 1; omega, su_s s 90 stk.length (sgR σ i (x - 10000)), Stk_cg (s' := su s 90 stk.length (sgR σ i (x - 10000))) stk (fun q hq => su_k _ _ _ (by omega)) a4⟩
        show fX9_scoreOf_b15 (nI i) (nI (718 + 81 * t)) (nI stk.length) (nI (1 + j)) s = _
        unfold fX9_scoreOf_b15
        simp (disch := omega) [n_lit, n_eq, n_lt, n_le, n_mul, n_add, n_cl, grd_t, grd_T, su_c, su_s, su_k, wi_in, n_m1', n_m1, n_in, es0, es1, hj', z1, z2, n_sub, hg]
        rfl
      · subst z
        cases stk with
        | nil => exact absurd a2 (by unfold ev1; simp)
        | cons y r =>
          have ee : ev1 (sgR σ i) (y :: r) 20256 = some (-y :: r) := by unfold ev1; rw [if_neg (by omega), if_neg (by omega), if_pos rfl]
          rw [ee] at a2
          have hr : r.length + 1 ≤ j := a3
          have eL : (y :: r).length = r.length + 1 := rfl
          refine ⟨(nI (r.length + 1), nI (1 + (j + 1)), su s 90 r.length (-y)), ?_, rfl, fun c hc => (su_c _ _ _ hc).trans (a1 c hc), -y :: r, a2, rfl, by show r.length + 1 ≤ j + 1; omega, su_s s 90 r.length (-y), Stk_cg (s' := su s 90 r.length (-y)) r (fun q hq => su_k _ _ _ (by omega)) a4.2⟩
          show fX9_scoreOf_b15 (nI i) (nI (718 + 81 * t)) (nI (y :: r).length) (nI (1 + j)) s = _
          rw [eL]
          have ey := a4.1
          unfold fX9_scoreOf_b15
          simp (disch := omega) [n_lit, n_eq, n_lt, n_le, n_mul, n_add, n_cl, grd_t, grd_T, su_c, su_s, su_k, wi_in, n_m1', n_m1, n_in, es0, es1, hj', lI_s, ey]
          rfl
      · have z0 : ¬ x = 20256 := by omega
        have e1 : ∀ u, ev1 (sgR σ i) u x = (match u with | y :: x' :: r => some (evj (x - 20000) x' y :: r) | _ => none) := by
          intro u; unfold ev1; rw [if_neg (by omega), if_neg (by omega), if_neg z0]
          rcases u with _ | ⟨_, _ | ⟨_, _⟩⟩ <;> rfl
        rw [e1] at a2
        obtain ⟨y, x', r, rfl⟩ : ∃ y x' r, stk = y :: x' :: r := by
          clear a3 a4
          rcases stk with _ | ⟨y, _ | ⟨x', r⟩⟩
          · exact absurd a2 (by simp)
          · exact absurd a2 (by simp)
          · exact ⟨y, x', r, rfl⟩
        · skip
          have a2 : evs (sgR σ i) (cs.drop (j + 1)) (evj (x - 20000) x' y :: r) = some [v] := a2
          have hr : r.length + 2 ≤ j := a3
          have eL : (y :: x' :: r).length = r.length + 2 := rfl
          have z1 : 20000 ≤ x := by omega
          have ey : s 90 (r.length + 1) = y := a4.1
          have ex : s 90 r.length = x' := a4.2.1
          have em1 : nI (r.length + 2) + lI 0 = nI (r.length + 1) := by rw [n_pre, lI_s]
          have hjn := joinJ (ch := x - 20000) (by omega) x' y s
          refine ⟨(nI (r.length + 1), nI (1 + (j + 1)), su s 90 r.length (evj (x - 20000) x' y)), ?_, rfl, fun c hc => (su_c _ _ _ hc).trans (a1 c hc), evj (x - 20000) x' y :: r, a2, rfl, by show r.length + 1 ≤ j + 1; omega, su_s s 90 r.length (evj (x - 20000) x' y), Stk_cg (s' := su s 90 r.length (evj (x - 20000) x' y)) r (fun q hq => su_k _ _ _ (by omega)) a4.2.2⟩
          show fX9_scoreOf_b15 (nI i) (nI (718 + 81 * t)) (nI (y :: x' :: r).length) (nI (1 + j)) s = _
          rw [eL]
          unfold fX9_scoreOf_b15
          simp (disch := omega) [n_lit, n_eq, n_lt, n_le, n_mul, n_add, n_cl, grd_t, grd_T, su_c, su_s, su_k, wi_in, n_m1', n_m1, n_in, es0, es1, hj', z0, z1, em1, lI_s, ey, ex, n_sub, hjn]
          rfl
    · rintro ⟨k, w, s⟩ ⟨rfl, a1, stk, a2, rfl, a3, a4⟩
      dsimp only at *
      rw [List.drop_length] at a2
      have a2 : stk = [v] := by
        have : some stk = some [v] := a2
        simpa using this
      subst a2
      refine ⟨s, ?_, a4.1, a1⟩
      have es0 : s 84 (718 + 81 * t) = nI cs.length := by rw [a1 84 (by omega)]; exact s0
      show fX9_scoreOf_b15 (nI i) (nI (718 + 81 * t)) (nI 1) (nI (1 + cs.length)) s = _
      have hj' : cs.length < 1 + cs.length := by omega
      unfold fX9_scoreOf_b15
      simp (disch := omega) [n_lit, n_eq, n_lt, n_le, n_mul, n_add, n_cl, grd_t, grd_T, su_c, su_s, su_k, wi_in, n_m1', n_m1, n_in, es0, hj']
  obtain ⟨H, k1, k2, k3⟩ := key
  refine ⟨H, ?_, k3⟩
  have ea : (718 : Int32) + 81 * nI t = nI (718 + 81 * t) := by rw [show (81 : Int32) = nI 81 from rfl, show (718 : Int32) = nI 718 from rfl, n_mul, n_add]
  unfold fX9_scoreOf
  rw [ea, show ((0 : Int32), (1 : Int32), g) = (nI 0, nI 1, g) from rfl, k1, Option.bind_some, k2]
theorem cScore (S : Sc g 1 84 σ) (hi : i < σ 0 0) (ht : t < 6) (e24 : g 24 t = nI N)
    (hr : ∀ (h : Sto) (p : Nat), 0 < p → p < 63 → shp p = (0, 80, []) → (∀ j, j < N → h p j = g (18 + t) j) → (∀ k, k < 8 → h 63 k = sgR σ i k) → ∃ H, fX2_read p (nI N) h = some (v, H) ∧ ∀ c, c ≠ 64 → H c = h c) :
    ∃ H, fX8_scoreOf (nI t) (nI i) g = some (v, H) ∧ ∀ c, c ≠ 63 → c ≠ 64 → H c = g c := by
  have hN := lN14 S
  obtain ⟨G, b1, b2, b3⟩ := cGath S (show i < 14 by omega)
  have hsh : shp (18 + t) = (0, 80, []) := by
    rcases (show t = 0 ∨ t = 1 ∨ t = 2 ∨ t = 3 ∨ t = 4 ∨ t = 5 by omega) with rfl | rfl | rfl | rfl | rfl | rfl <;> rfl
  obtain ⟨H, d1, d2⟩ := hr G (18 + t) (by omega) (by omega) hsh (fun j hj => by rw [b2 _ (by omega)]) (fun k hk => b3 k (by omega))
  refine ⟨H, ?_, fun c c1 c2 => by rw [d2 c c2]; exact b2 c c1⟩
  have e24' : G 24 t = nI N := by rw [b2 24 (by omega)]; exact e24
  unfold fX8_scoreOf
  rw [b1, Option.bind_some, g_in ht (by omega), g_in ht (by omega), n_cl (by omega), e24', d1]
  rfl
end SCO
