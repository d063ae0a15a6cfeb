/-! 24: kinds, sets of names, small calls -/
theorem lp_I {S X : Type} {f : S → Option (S ⊕ X)} (P : Nat → S → Prop) (Q : X → Prop) (n : Nat) (s0 : S) (h0 : P 0 s0) (hn : n < 100000) (hs : ∀ i s, i < n → P i s → ∃ s', f s = some (.inl s') ∧ P (i + 1) s') (he : ∀ s, P n s → ∃ x, f s = some (.inr x) ∧ Q x) : ∃ x, lp f FUEL s0 = some x ∧ Q x := by
  have key : ∀ k, k ≤ n → ∀ m s, k < m → P (n - k) s → ∃ x, lp f m s = some x ∧ Q x := by
    intro k
    induction k with
    | zero =>
      intro _ m s hm hp
      obtain ⟨m, rfl⟩ : ∃ j, m = j + 1 := ⟨m - 1, by omega⟩
      obtain ⟨x, hx, hq⟩ := he s hp
      refine ⟨x, ?_, hq⟩
      show (match f s with | none => none | some (.inl s') => lp f m s' | some (.inr x) => some x) = some x
      rw [hx]
    | succ k ih =>
      intro hk m s hm hp
      obtain ⟨m, rfl⟩ : ∃ j, m = j + 1 := ⟨m - 1, by omega⟩
      obtain ⟨s', hf, hp'⟩ := hs _ s (by omega) hp
      rw [show n - (k + 1) + 1 = n - k by omega] at hp'
      obtain ⟨x, hx, hq⟩ := ih (by omega) m s' (by omega) hp'
      refine ⟨x, ?_, hq⟩
      show (match f s with | none => none | some (.inl s') => lp f m s' | some (.inr x) => some x) = some x
      rw [hf]
      exact hx
  exact key n (Nat.le_refl _) FUEL s0 hn (by rw [Nat.sub_self]; exact h0)
def b2n (b : Bool) : Nat := if b then 1 else 0
theorem b2n_le (b : Bool) : b2n b ≤ 1 := by cases b <;> decide
theorem b2n_1 (b : Bool) : (b2n b = 1) = (b = true) := by cases b <;> decide
theorem b2i_n (b : Bool) : b2i b = nI (b2n b) := by cases b <;> rfl
def isO (κ k : Nat) : Bool := κ == k || k == 0 || (k == 1 && (κ == 3 || κ == 6)) || (k == 2 && (κ == 4 || κ == 7)) || (k == 4 && κ == 7)
theorem isO_tab : ∀ κ, κ < 8 → ∀ k, k < 8 → lp (fun s => fX1_isOf_b12 (nI k) (fun _ _ => 0) s.1 s.2) FUEL (nI κ, 0) = some (if isO κ k then .inr true else .inl ()) := by decide +kernel
theorem bs_or {f : Nat → Nat} {n : Nat} (hf : ∀ i, i < n → f i ≤ 1) (h1 : f n = 1) : bs f n ||| 2 ^ n = bs f (n + 1) := by
  have hl := bs_lt n hf
  show _ = bs f n + f n * 2 ^ n
  rw [h1, Nat.one_mul, Nat.or_comm, Nat.add_comm, ← Nat.mul_one (2 ^ n), Nat.two_pow_add_eq_or_of_lt hl]
theorem bs_0 {f : Nat → Nat} {n : Nat} (h1 : f n = 0) : bs f (n + 1) = bs f n := by
  show bs f n + f n * 2 ^ n = bs f n
  rw [h1]; omega
section SCK
variable {h : Sto} {σ : Gh}
theorem cIsOf (S : Sc h 1 84 σ) {i k : Nat} (hi : i < σ 0 0) (hk : k < 8) : fX1_isOf (nI i) (nI k) h = some (isO (σ 1 i) k) := by
  have hN := lN14 S
  obtain ⟨⟨t1, t2, t3⟩, -⟩ := S.2.1 i hi
  have t1 : h 4 i = nI (σ 1 i) := t1
  have tb := isO_tab (σ 1 i) (by omega) k hk
  unfold fX1_isOf
  simp (disch := omega) [n_lit, n_eq, n_lt, n_le, n_mul, n_add, n_cl, grd_t, grd_T, su_c, su_s, su_k, wi_in, n_m1', n_m1, t1]
  rw [show (nI 0 : Int32) = 0 from rfl, show lp (fun s => fX1_isOf_b12 (nI k) h s.1 s.2) FUEL (nI (σ 1 i), 0) = some (if isO (σ 1 i) k then .inr true else .inl ()) from tb]
  cases isO (σ 1 i) k <;> rfl
theorem mIsP (S : Sc h 1 84 σ) {i : Nat} (hi : i < σ 0 0) : fX9_isPerson (nI i) h = some (isO (σ 1 i) 1) := by
  have hN := lN14 S
  obtain ⟨⟨t1, t2, t3⟩, -⟩ := S.2.1 i hi
  unfold fX9_isPerson
  rw [show (0 : Int32) = nI 0 from rfl, mOf i 0 (by omega) (by omega), Nat.add_zero, t2]
  rcases (show σ 1 i = 0 ∨ σ 1 i = 1 ∨ σ 1 i = 2 ∨ σ 1 i = 3 ∨ σ 1 i = 4 ∨ σ 1 i = 5 ∨ σ 1 i = 6 ∨ σ 1 i = 7 by omega) with e | e | e | e | e | e | e | e <;> rw [e] <;> rfl
def ppl (σ : Gh) (i : Nat) : Nat := b2n (isO (σ 1 i) 1)
theorem cPeople (S : Sc h 1 84 σ) : fX1_peopleSet h = some (nI (bs (ppl σ) (σ 0 0))) := by
  have hN := lN14 S
  have hp : ∀ i, ppl σ i ≤ 1 := fun i => b2n_le _
  have hl : lp (fun s => fX1_peopleSet_b4 h s.1 s.2) FUEL (0, 0) = some (nI (bs (ppl σ) (σ 0 0))) := by
    refine lp_F (g := fun i => (nI (bs (ppl σ) i), nI i)) (σ 0 0) _ rfl (by omega) ?_ ?_
    · intro i hi
      show fX1_peopleSet_b4 h (nI (bs (ppl σ) i)) (nI i) = _
      unfold fX1_peopleSet_b4
      have hi' : ¬ σ 0 0 ≤ i := by omega
      cases ho : isO (σ 1 i) 1 with
      | true =>
        have h1 : ppl σ i = 1 := by unfold ppl; rw [ho]; rfl
        simp (disch := omega) [n_lit, n_eq, n_lt, n_le, n_mul, n_add, n_cl, grd_t, grd_T, su_c, su_s, su_k, wi_in, n_m1', n_m1, cN S, hi', cIsOf S hi, ho, n_shl, n_or, bs_or (f := ppl σ) (fun i _ => hp i) h1]
      | false =>
        have h1 : ppl σ i = 0 := by unfold ppl; rw [ho]; rfl
        simp (disch := omega) [n_lit, n_eq, n_lt, n_le, n_mul, n_add, n_cl, grd_t, grd_T, su_c, su_s, su_k, wi_in, n_m1', n_m1, cN S, hi', cIsOf S hi, ho, bs_0 h1]
    · show fX1_peopleSet_b4 h (nI (bs (ppl σ) (σ 0 0))) (nI (σ 0 0)) = _
      unfold fX1_peopleSet_b4
      simp (disch := omega) [n_lit, n_eq, n_lt, n_le, n_mul, n_add, n_cl, grd_t, grd_T, su_c, su_s, su_k, wi_in, n_m1', n_m1, cN S]
  unfold fX1_peopleSet
  rw [hl]
  rfl
theorem mMany (S : Sc h 1 84 σ) (k : Nat) (r : Nat) (hk : k < 8) (hr : ∀ i, i < σ 0 0 → h 84 (6 + 8 * i + k) = nI (σ r i)) : fX9_howMany (nI k) h = some (nI (sm (σ r) (σ 0 0))) := by
  have hN := lN14 S
  have hl : lp (fun s => fX9_howMany_b4 (nI k) h s.1 s.2) FUEL (0, 0) = some (nI (sm (σ r) (σ 0 0))) := by
    refine lp_F (g := fun i => (nI (sm (σ r) i), nI i)) (σ 0 0) _ rfl (by omega) ?_ ?_
    · intro i hi
      show fX9_howMany_b4 (nI k) h (nI (sm (σ r) i)) (nI i) = _
      unfold fX9_howMany_b4
      have hi' : ¬ σ 0 0 ≤ i := by omega
      simp (disch := omega) [n_lit, n_eq, n_lt, n_le, n_mul, n_add, n_cl, grd_t, grd_T, su_c, su_s, su_k, wi_in, n_m1', n_m1, mN S, hi', mOf, hr i hi]
      rfl
    · show fX9_howMany_b4 (nI k) h (nI (sm (σ r) (σ 0 0))) (nI (σ 0 0)) = _
      unfold fX9_howMany_b4
      simp (disch := omega) [n_lit, n_eq, n_lt, n_le, n_mul, n_add, n_cl, grd_t, grd_T, su_c, su_s, su_k, wi_in, n_m1', n_m1, mN S]
  unfold fX9_howMany
  rw [hl]
  rfl
end SCK
