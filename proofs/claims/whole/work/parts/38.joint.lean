/-! 38: two halves of a store; a word is said -/
def hy (a b : Sto) : Sto := fun c => if c < 83 then a c else b c
theorem hy_l {a b : Sto} {c : Nat} (h : c < 83) : hy a b c = a c := if_pos h
theorem hy_r {a b : Sto} {c : Nat} (h : 83 ≤ c) : hy a b c = b c := if_neg (by omega)
theorem hy_self (a : Sto) : hy a a = a := by funext c; unfold hy; split <;> rfl
theorem hy_hl (a b c : Sto) : hy (hy a b) c = hy a c := by funext i; unfold hy; split <;> rfl
theorem hy_hr (a b c : Sto) : hy a (hy b c) = hy a c := by funext i; unfold hy; split <;> rfl
theorem su_hl {a b : Sto} {c : Nat} (k : Nat) (v : Int32) (h : c < 83) : su (hy a b) c k v = hy (su a c k v) b := by
  funext i j
  unfold hy
  by_cases e : i = c
  · subst e
    by_cases e2 : j = k
    · subst e2; simp [su_s, h]
    · simp [su_k, e2, h]
  · rw [su_c _ _ _ e]
    by_cases q : i < 83
    · simp [q, su_c _ _ _ e]
    · simp [q]
theorem su_hr {a b : Sto} {c : Nat} (k : Nat) (v : Int32) (h : 83 ≤ c) : su (hy a b) c k v = hy a (su b c k v) := by
  have h' : ¬ c < 83 := by omega
  funext i j
  unfold hy
  by_cases e : i = c
  · subst e
    by_cases e2 : j = k
    · subst e2; simp [su_s, h']
    · simp [su_k, e2, h']
  · rw [su_c _ _ _ e]
    by_cases q : i < 83
    · simp [q]
    · simp [q, su_c _ _ _ e]
/-- both halves go on alike -/
def Two (f g : Sto → Option (Int32 × Sto)) (h : Sto) : Prop := ∃ r H, (∀ o, f (hy h o) = some (r, hy H o)) ∧ (∀ o, g (hy o h) = some (r, hy o H)) ∧ Inv H
theorem Two.agr {f g : Sto → Option (Int32 × Sto)} {h : Sto} (t : Two f g h) : Agr f g h := by
  obtain ⟨r, H, a, b, I⟩ := t
  refine ⟨r, hy H h, H, ?_, ?_, I⟩
  · have := a h
    rw [hy_self] at this
    exact this
  · have := b H
    rw [hy_self] at this
    exact this
section SAY
variable {h : Sto} {σ : Gh} {n : Nat}
/-- the scene with one more word -/
def wrd (σ : Gh) (n t : Nat) : Gh := fun r i => if r = 0 ∧ i = 2 then σ 0 2 + 1 else if r = 9 ∧ i = σ 0 2 then σ 0 1 else if r = 10 ∧ i = σ 0 2 then n else if r = 11 ∧ i = σ 0 2 then t else σ r i
theorem wrd_r (σ : Gh) (n t : Nat) {r : Nat} (h : r ≠ 0) (h9 : r ≠ 9) (h10 : r ≠ 10) (h11 : r ≠ 11) : wrd σ n t r = σ r := by
  funext i; unfold wrd; simp [h, h9, h10, h11]
theorem wrd_0 (σ : Gh) (n t : Nat) {i : Nat} (h : i ≠ 2) : wrd σ n t 0 i = σ 0 i := by unfold wrd; simp [h]
theorem wrd_2 (σ : Gh) (n t : Nat) : wrd σ n t 0 2 = σ 0 2 + 1 := by unfold wrd; simp
theorem wrd_w (σ : Gh) (n t r : Nat) {w : Nat} (hr : r ≠ 0) (h : w ≠ σ 0 2) : wrd σ n t r w = σ r w := by unfold wrd; simp [h, hr]
theorem wrd_9 (σ : Gh) (n t : Nat) : wrd σ n t 9 (σ 0 2) = σ 0 1 := by unfold wrd; simp
theorem wrd_10 (σ : Gh) (n t : Nat) : wrd σ n t 10 (σ 0 2) = n := by unfold wrd; simp
theorem wrd_11 (σ : Gh) (n t : Nat) : wrd σ n t 11 (σ 0 2) = t := by unfold wrd; simp
def aheadP (σ : Gh) (n v : Nat) : Bool := decide (σ 10 v ≠ n) && (decide (1 ≤ σ 0 1 - σ 9 v) && decide (σ 0 1 - σ 9 v ≤ 9))
theorem fol_wrd (σ : Gh) (n t : Nat) : fol (wrd σ n t) (σ 0 2) = la (aheadP σ n) (σ 0 2) := by
  unfold fol
  refine la_congr (fun v hv => ?_)
  unfold folP aheadP
  rw [wrd_9, wrd_10, wrd_w σ n t 10 (by omega) (by omega), wrd_w σ n t 9 (by omega) (by omega)]
theorem Sc_wrd {H : Sto} {t : Nat} (S : Sc h 1 84 σ) (hn : n < σ 0 0) (ht : t ≤ 9) (hW : σ 0 2 < 200)
    (k10 : ∀ j, j ≠ 1 → H 10 j = h 10 j) (k101 : H 10 1 = nI (σ 0 2 + 1)) (k11 : ∀ j, j ≠ σ 0 2 → H 11 j = h 11 j) (k11' : H 11 (σ 0 2) = nI (σ 0 1)) (k12 : ∀ j, j ≠ σ 0 2 → H 12 j = h 12 j) (k12' : H 12 (σ 0 2) = nI n)
    (k13 : ∀ j, j ≠ σ 0 2 → H 13 j = h 13 j) (k13' : H 13 (σ 0 2) = nI t) (k14 : ∀ j, j ≠ σ 0 2 → H 14 j = h 14 j) (k14' : H 14 (σ 0 2) = lI (la (aheadP σ n) (σ 0 2))) (kc : ∀ c, c < 83 → (c < 10 ∨ 14 < c) → H c = h c)
    (m2 : H 84 2 = nI (σ 0 2 + 1)) (m : ∀ j, j ≠ 2 → j ≠ 118 + 3 * σ 0 2 → j ≠ 118 + 3 * σ 0 2 + 1 → j ≠ 118 + 3 * σ 0 2 + 2 → H 84 j = h 84 j) (ma : H 84 (118 + 3 * σ 0 2) = nI (σ 0 1)) (mb : H 84 (118 + 3 * σ 0 2 + 1) = nI n) (mc : H 84 (118 + 3 * σ 0 2 + 2) = nI t) : Sc H 1 84 (wrd σ n t) := by
  have hN := lN14 S
  have hmono := mono S
  have hb9 := fun w (hw : w < σ 0 2) => b9 S hw
  obtain ⟨⟨⟨a1, a2, a3⟩, ⟨b1, b2, b3⟩, ⟨c1, c2', c3⟩, d1, d2⟩, T, ⟨s1, s2⟩, ⟨W1, W2⟩, P⟩ := S
  refine ⟨⟨⟨?_, ?_, ?_⟩, ⟨?_, ?_, ?_⟩, ⟨?_, ?_, ?_⟩, ?_, ?_⟩, ?_, ⟨?_, ?_⟩, ⟨fun w hw => ?_, fun v w hv hw => ?_⟩, ?_⟩
  · rw [wrd_0 _ _ _ (by omega)]; exact a1
  · rw [wrd_0 _ _ _ (by omega), kc _ (by omega) (by omega)]; exact a2
  · rw [wrd_0 _ _ _ (by omega), m _ (by omega) (by omega) (by omega) (by omega)]; exact a3
  · rw [wrd_0 _ _ _ (by omega)]; exact b1
  · rw [wrd_0 _ _ _ (by omega)]; exact (k10 0 (by omega)).trans b2
  · rw [wrd_0 _ _ _ (by omega), m _ (by omega) (by omega) (by omega) (by omega)]; exact b3
  · rw [wrd_2]; omega
  · rw [wrd_2]; exact k101
  · rw [wrd_2]; exact m2
  · rw [m 3 (by omega) (by omega) (by omega) (by omega)]; exact (k10 2 (by omega)).trans d1
  · rw [m 5 (by omega) (by omega) (by omega) (by omega), kc _ (by omega) (by omega)]; exact d2
  · refine ScT_c T a1 (fun j h1 h2 => kc _ (by omega) (by omega)) (fun j h1 h2 => m j (by omega) (by omega) (by omega) (by omega)) (wrd_0 _ _ _ (by omega)) (fun j h1 h2 => wrd_r _ _ _ (by omega) (by omega) (by omega) (by omega))
  · rw [wrd_0 _ _ _ (by omega), wrd_r _ _ _ (by omega) (by omega) (by omega) (by omega), kc _ (by omega) (by omega)]; exact s1
  · rw [wrd_0 _ _ _ (by omega), wrd_r _ _ _ (by omega) (by omega) (by omega) (by omega), kc _ (by omega) (by omega)]; exact s2
  · rw [wrd_2] at hw
    rw [wrd_0 _ _ _ (show 1 ≠ 2 by omega), wrd_0 _ _ _ (show 0 ≠ 2 by omega)]
    by_cases e : w = σ 0 2
    · subst e
      rw [wrd_9, wrd_10, wrd_11, fol_wrd]
      exact ⟨⟨k11', ma, Nat.le_refl _⟩, ⟨k12', mb, hn⟩, ⟨k13', mc, ht⟩, k14'⟩
    · rw [wrd_w _ _ _ _ (by omega) e, wrd_w _ _ _ _ (by omega) e, wrd_w _ _ _ _ (by omega) e]
      have hf : fol (wrd σ n t) w = fol σ w := fol_congr (fun v hv => wrd_w _ _ _ _ (by omega) (by omega)) (fun v hv => wrd_w _ _ _ _ (by omega) (by omega))
      rw [hf, m _ (by omega) (by omega) (by omega) (by omega), m _ (by omega) (by omega) (by omega) (by omega), m _ (by omega) (by omega) (by omega) (by omega)]
      show (H 11 w = _ ∧ _) ∧ (H 12 w = _ ∧ _) ∧ (H 13 w = _ ∧ _) ∧ H 14 w = _
      rw [k11 w e, k12 w e, k13 w e, k14 w e]
      exact W1 w (by omega)
  · rw [wrd_2] at hw
    by_cases e : w = σ 0 2
    · subst e
      rw [wrd_9]
      by_cases e2 : v = σ 0 2
      · subst e2; rw [wrd_9]; exact Nat.le_refl _
      · rw [wrd_w _ _ _ _ (by omega) e2]; exact hb9 v (by omega)
    · rw [wrd_w _ _ _ _ (by omega) e, wrd_w _ _ _ _ (by omega) (show v ≠ σ 0 2 by omega)]
      exact hmono v w hv (by omega)
  · refine ScP_c P (kc _ (by omega) (by omega)) (fun j h1 => m j (by omega) (by omega) (by omega) (by omega)) (wrd_r _ _ _ (by omega) (by omega) (by omega) (by omega)) ?_
    rw [wrd_0 _ _ _ (by omega)]; exact Nat.le_refl _
/-- the search for the word ahead -/
theorem cAhead {h' : Sto} (S : Sc h 1 84 σ) (hn : n < 14) (e0 : h' 10 0 = h 10 0) (e1 : h' 10 1 = h 10 1) (e11 : ∀ j, j < σ 0 2 → h' 11 j = h 11 j) (e12 : ∀ j, j < σ 0 2 → h' 12 j = h 12 j) : fX0_wordAhead (nI n) h' = some (lI (la (aheadP σ n) (σ 0 2))) := by
  have hW := lW S
  have hN := lN14 S
  have hNow := lNow S
  obtain ⟨r, e, hr⟩ : ∃ r, lp (fun q => fX0_wordAhead_b7 (nI n) h' q) FUEL (h' 10 1 - 1) = some r ∧ ((r = .inl () ∧ la (aheadP σ n) (σ 0 2) = 0) ∨ (r = .inr (lI (la (aheadP σ n) (σ 0 2))))) := by
    refine lp_M (P := fun s => ∃ v : Nat, s = lI v ∧ v ≤ σ 0 2 ∧ ∀ u, v ≤ u → u < σ 0 2 → aheadP σ n u = false) (fun s => (s + 1).toNatClampNeg) _ ?_ _ ⟨σ 0 2, by rw [e1, cW S]; rfl, by omega, fun u h1 h2 => by omega⟩ ?_
    · rintro s ⟨v, rfl, hv, hu⟩
      cases v with
      | zero =>
        refine Or.inr ⟨.inl (), ?_, Or.inl ⟨rfl, ?_⟩⟩
        · rfl
        · have h1 := la_at (aheadP σ n) (σ 0 2)
          have h2 := la_le (aheadP σ n) (σ 0 2)
          by_cases z : 0 < la (aheadP σ n) (σ 0 2)
          · have h1 := h1 z
            have h3 := hu (la (aheadP σ n) (σ 0 2) - 1) (by omega) (by omega)
            rw [h1] at h3
            exact absurd h3 (by decide)
          · omega
      | succ v =>
        have hv2 : v < σ 0 2 := by omega
        have hb := b9 S hv2
        have hb2 := b10 S hv2
        have x11 := (e11 v hv2).trans (c11 S hv2)
        have x12 := (e12 v hv2).trans (c12 S hv2)
        have x0 := e0.trans (cNow S)
        have hmu : ((lI v + 1).toNatClampNeg) < ((lI (v + 1) + 1).toNatClampNeg) := by
          rw [lI_s, show nI v + 1 = nI (v + 1) from n_add v 1, n_cl (by omega)]
          have : lI v + 1 = nI v := by
            unfold lI
            exact Int32.sub_add_cancel _ _
          rw [this, n_cl (by omega)]
          omega
        rw [lI_s]
        by_cases z1 : 9 < σ 0 1 - σ 9 v
        · refine Or.inr ⟨.inl (), ?_, Or.inl ⟨rfl, ?_⟩⟩
          · show fX0_wordAhead_b7 (nI n) h' (nI v) = _
            unfold fX0_wordAhead_b7
            simp (disch := omega) [n_lit, n_eq, n_lt, n_le, n_mul, n_add, n_cl, grd_t, grd_T, su_c, su_s, su_k, wi_in, n_m1', n_m1, x0, x11, n_sub, z1]
          · by_cases z : 0 < la (aheadP σ n) (σ 0 2)
            · have h1 := la_at (aheadP σ n) (σ 0 2) z
              have h2 := la_le (aheadP σ n) (σ 0 2)
              by_cases y : v < la (aheadP σ n) (σ 0 2) - 1
              · have h3 := hu _ (show v + 1 ≤ la (aheadP σ n) (σ 0 2) - 1 by omega) (by omega)
                rw [h1] at h3
                exact absurd h3 (by decide)
              · have h4 := mono S (la (aheadP σ n) (σ 0 2) - 1) v (by omega) hv2
                obtain ⟨q, hq⟩ : ∃ q, la (aheadP σ n) (σ 0 2) - 1 = q := ⟨_, rfl⟩
                rw [hq] at h1 h4
                unfold aheadP at h1
                simp at h1
                omega
            · omega
        · by_cases z2 : σ 0 1 ≤ σ 9 v
          · refine Or.inl ⟨lI v, ?_, ⟨v, rfl, by omega, fun u h1 h2 => ?_⟩, by rw [← lI_s]; exact hmu⟩
            · show fX0_wordAhead_b7 (nI n) h' (nI v) = _
              unfold fX0_wordAhead_b7
              simp (disch := omega) [n_lit, n_eq, n_lt, n_le, n_mul, n_add, n_cl, grd_t, grd_T, su_c, su_s, su_k, wi_in, n_m1', n_m1, x0, x11, n_sub, z1, z2, n_pre]
            · by_cases eu : u = v
              · subst eu
                unfold aheadP
                simp
                intro _ _
                omega
              · exact hu u (by omega) h2
          · by_cases z3 : σ 10 v = n
            · refine Or.inl ⟨lI v, ?_, ⟨v, rfl, by omega, fun u h1 h2 => ?_⟩, by rw [← lI_s]; exact hmu⟩
              · show fX0_wordAhead_b7 (nI n) h' (nI v) = _
                unfold fX0_wordAhead_b7
                simp (disch := omega) [n_lit, n_eq, n_lt, n_le, n_mul, n_add, n_cl, grd_t, grd_T, su_c, su_s, su_k, wi_in, n_m1', n_m1, x0, x11, x12, n_sub, z1, z2, z3, n_pre]
              · by_cases eu : u = v
                · subst eu
                  unfold aheadP
                  simp [z3]
                · exact hu u (by omega) h2
            · refine Or.inr ⟨.inr (nI v), ?_, Or.inr ?_⟩
              · show fX0_wordAhead_b7 (nI n) h' (nI v) = _
                unfold fX0_wordAhead_b7
                simp (disch := omega) [n_lit, n_eq, n_lt, n_le, n_mul, n_add, n_cl, grd_t, grd_T, su_c, su_s, su_k, wi_in, n_m1', n_m1, x0, x11, x12, n_sub, z1, z2, z3]
              · have hp : aheadP σ n v = true := by
                  unfold aheadP
                  simp [z3]
                  omega
                have : la (aheadP σ n) (σ 0 2) = v + 1 := by
                  have h2 := la_le (aheadP σ n) (σ 0 2)
                  by_cases z : la (aheadP σ n) (σ 0 2) ≤ v
                  · have := la_no (aheadP σ n) (σ 0 2) v z hv2
                    rw [hp] at this
                    exact absurd this (by decide)
                  · have h1 := la_at (aheadP σ n) (σ 0 2) (by omega)
                    by_cases y : la (aheadP σ n) (σ 0 2) = v + 1
                    · exact y
                    · have h3 := hu _ (show v + 1 ≤ la (aheadP σ n) (σ 0 2) - 1 by omega) (by omega)
                      rw [h1] at h3
                      exact absurd h3 (by decide)
                rw [this, lI_s]
    · rw [e1, cW S]
      show ((nI (σ 0 2) - 1 + 1).toNatClampNeg) < 100000
      rw [Int32.sub_add_cancel, n_cl (by omega)]
      omega
  unfold fX0_wordAhead
  rw [e]
  rcases hr with ⟨rfl, q⟩ | rfl
  · rw [q]; rfl
  · rfl
end SAY
