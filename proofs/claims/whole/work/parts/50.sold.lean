/-! 50: sold -/
theorem n64_add {a b : Nat} (h : a + b < 2147483648) : (nI a).toInt64 + (nI b).toInt64 = (nI (a + b)).toInt64 := by
  apply Int64.toInt_inj.mp
  rw [Int64.toInt_add, Int32.toInt_toInt64, Int32.toInt_toInt64, Int32.toInt_toInt64, n_toInt (by omega), n_toInt (by omega), n_toInt (by omega), Int.bmod_eq_of_le (by omega) (by omega)]
  omega
def hsm (σ : Gh) (n : Nat) : Nat → Nat := sm (fun w => if σ 10 w = n then hrN (σ 9 w) else 0)
theorem hsm_s (σ : Gh) (n W : Nat) : hsm σ n (W + 1) = hsm σ n W + (if σ 10 W = n then hrN (σ 9 W) else 0) := rfl
theorem hsm_le (σ : Gh) (n : Nat) : ∀ W, hsm σ n W ≤ 9 * W
  | 0 => Nat.le_refl _
  | W + 1 => by
    have := hsm_le σ n W
    have := hrN_lt (σ 9 W)
    rw [hsm_s]
    split <;> omega
theorem cnt_s (σ : Gh) (n W : Nat) : cnt σ n (W + 1) = cnt σ n W + (if σ 10 W = n then 1 else 0) := rfl
theorem lI_p {x : Nat} (h : 0 < x) : lI x = nI (x - 1) := by
  rw [← lI_s, show x - 1 + 1 = x by omega]
section SOL
variable {h : Sto} {σ : Gh} {n : Nat}
theorem cHsm (S : Sc h 1 84 σ) (hn : n < 14) : fX0_hourSum (nI n) h = some (nI (hsm σ n (σ 0 2))) := by
  have hW := lW S
  have hN := lN14 S
  have hNow := lNow S
  have hl : lp (fun s => fX0_hourSum_b4 (nI n) h s.1 s.2) FUEL (0, 0) = some (nI (hsm σ n (σ 0 2))) := by
    refine lp_F (g := fun i => (nI (hsm σ n i), nI i)) (σ 0 2) _ rfl (by omega) ?_ ?_
    · intro i hi
      have hi' : ¬ σ 0 2 ≤ i := by omega
      have hb2 := b10 S hi
      have hb9 := b9 S hi
      show fX0_hourSum_b4 (nI n) h (nI (hsm σ n i)) (nI i) = some (.inl (nI (hsm σ n (i + 1)), nI (i + 1)))
      rw [hsm_s]
      unfold fX0_hourSum_b4
      by_cases z : σ 10 i = n
      · simp (disch := omega) [n_lit, n_eq, n_lt, n_le, n_mul, n_add, n_cl, grd_t, grd_T, su_c, su_s, su_k, wi_in, n_m1', n_m1, cW S, hi', c12 S hi, c11 S hi, z, hO_c]
      · simp (disch := omega) [n_lit, n_eq, n_lt, n_le, n_mul, n_add, n_cl, grd_t, grd_T, su_c, su_s, su_k, wi_in, n_m1', n_m1, cW S, hi', c12 S hi, z]
    · show fX0_hourSum_b4 (nI n) h _ (nI (σ 0 2)) = _
      unfold fX0_hourSum_b4
      simp (disch := omega) [n_lit, n_eq, n_lt, n_le, n_mul, n_add, n_cl, grd_t, grd_T, su_c, su_s, su_k, wi_in, n_m1', n_m1, cW S]
  unfold fX0_hourSum
  rw [hl]
  rfl
theorem mHsm (S : Sc h 1 84 σ) (hn : n < 14) (x : Int32) : lp (fun s => fX9_sold_b38 (nI n) x h s.1 s.2) FUEL (0, 0) = some (nI (hsm σ n (σ 0 2))).toInt64 := by
  have hW := lW S
  have hN := lN14 S
  have hNow := lNow S
  rw [show ((0 : Int64), (0 : Int32)) = ((nI (hsm σ n 0)).toInt64, nI 0) by rw [show hsm σ n 0 = 0 from rfl]; decide]
  refine lp_F (g := fun i => ((nI (hsm σ n i)).toInt64, nI i)) (σ 0 2) _ rfl (by omega) ?_ ?_
  · intro i hi
    have hi' : ¬ σ 0 2 ≤ i := by omega
    have hb2 := b10 S hi
    have hb9 := b9 S hi
    have hq := hrN_lt (σ 9 i)
    have hle := hsm_le σ n i
    show fX9_sold_b38 (nI n) x h ((nI (hsm σ n i)).toInt64) (nI i) = some (.inl ((nI (hsm σ n (i + 1))).toInt64, nI (i + 1)))
    rw [hsm_s]
    unfold fX9_sold_b38
    by_cases z : σ 10 i = n
    · rw [if_neg (by rw [mW S, n_le (by omega) (by omega)]; exact hi'), show (1 : Int32) = nI 1 from rfl, w1 S hi, Option.bind_some, if_neg (by rw [z]; exact fun q => q rfl), show (0 : Int32) = nI 0 from rfl, w0 S hi, Option.bind_some, hO_m (by omega), Option.bind_some, n64_add (by omega), n_add, if_pos z]
    · simp (disch := omega) [n_lit, n_eq, n_lt, n_le, n_mul, n_add, n_cl, grd_t, grd_T, su_c, su_s, su_k, wi_in, n_m1', n_m1, mW S, hi', w1 S hi, z]
  · show fX9_sold_b38 (nI n) x h _ (nI (σ 0 2)) = _
    unfold fX9_sold_b38
    simp (disch := omega) [n_lit, n_eq, n_lt, n_le, n_mul, n_add, n_cl, grd_t, grd_T, su_c, su_s, su_k, wi_in, n_m1', n_m1, mW S]
theorem soldJ (S : Sc h 1 84 σ) (hn : n < 14) (h2 : 2 ≤ cnt σ n (σ 0 2)) (all : Int64) : ∃ b, 1 ≤ b ∧ b ≤ 200 ∧ lp (fun s => fX0_soldPlace_b31 (nI n) (nI (cnt σ n (σ 0 2))) h s.1 s.2.1 s.2.2.1 s.2.2.2.1 s.2.2.2.2.1 s.2.2.2.2.2.1 s.2.2.2.2.2.2) FUEL (all, 0, lI 0, 0, 1, nI 0, nI 0) = some (nI b) ∧ lp (fun s => fX9_sold_b102 (nI n) (nI (cnt σ n (σ 0 2))) all h s.1 s.2.1 s.2.2.1 s.2.2.2.1 s.2.2.2.2.1 s.2.2.2.2.2) FUEL (nI 0, 0, 1, 0, nI 0, nI 0) = some (nI b) := by
  have hW := lW S
  have hN := lN14 S
  have hNow := lNow S
  have hC := cnt_le σ n (σ 0 2)
  have eN : lI (cnt σ n (σ 0 2)) = nI (cnt σ n (σ 0 2) - 1) := lI_p (by omega)
  have key := lp_J (f := fun s : Int64 × Int64 × Int32 × Int64 × Int64 × Int32 × Int32 => fX0_soldPlace_b31 (nI n) (nI (cnt σ n (σ 0 2))) h s.1 s.2.1 s.2.2.1 s.2.2.2.1 s.2.2.2.2.1 s.2.2.2.2.2.1 s.2.2.2.2.2.2)
    (g := fun s : Int32 × Int64 × Int64 × Int64 × Int32 × Int32 => fX9_sold_b102 (nI n) (nI (cnt σ n (σ 0 2))) all h s.1 s.2.1 s.2.2.1 s.2.2.2.1 s.2.2.2.2.1 s.2.2.2.2.2)
    (A := Int64 × Nat × Int64 × Int64 × Nat)
    (fun a => a.2.2.2.2 ≤ σ 0 2 ∧ cnt σ n a.2.2.2.2 ≤ cnt σ n (σ 0 2) - 1 ∧ a.2.1 ≤ cnt σ n a.2.2.2.2 ∧ (a.2.1 = 0 → cnt σ n a.2.2.2.2 = 0))
    (fun a => σ 0 2 - a.2.2.2.2)
    (fun a _ => (all - a.1, a.1, (if a.2.1 = 0 then lI 0 else nI a.2.1), a.2.2.1, a.2.2.2.1, nI (cnt σ n a.2.2.2.2), nI a.2.2.2.2))
    (fun a _ => (nI a.2.1, a.2.2.1, a.2.2.2.1, a.1, nI (cnt σ n a.2.2.2.2), nI a.2.2.2.2))
    (fun x y => ∃ b, 1 ≤ b ∧ b ≤ 200 ∧ x = (fun _ => nI b) ∧ y = (fun _ => nI b)) ?_ (0, 0, 0, 1, 0) ⟨Nat.zero_le _, Nat.zero_le _, Nat.zero_le _, fun _ => rfl⟩ (by show σ 0 2 - 0 < 100000; omega)
  · obtain ⟨x, y, ⟨b, b1, b2, rfl, rfl⟩, e1, e2⟩ := key
    have e1 := e1 h
    have e2 := e2 h
    have e3 : cnt σ n 0 = 0 := rfl
    dsimp only at e1 e2
    rw [Int64.sub_zero, if_pos rfl, e3] at e1
    rw [e3] at e2
    exact ⟨b, b1, b2, e1, e2⟩
  · rintro ⟨u, b, t, m, i⟩ ⟨p1, p2, p3, p4⟩
    have p1 : i ≤ σ 0 2 := p1
    have p2 : cnt σ n i ≤ cnt σ n (σ 0 2) - 1 := p2
    have p3 : b ≤ cnt σ n i := p3
    have p4 : b = 0 → cnt σ n i = 0 := p4
    have hi : i < σ 0 2 := by
      rcases Nat.lt_or_ge i (σ 0 2) with q | q
      · exact q
      · have : i = σ 0 2 := by omega
        subst this
        omega
    have hi' : ¬ σ 0 2 ≤ i := by omega
    have hb2 := b10 S hi
    have hb9 := b9 S hi
    have hCi := cnt_le σ n i
    have hcs := cnt_s σ n i
    by_cases y : cnt σ n (σ 0 2) ≤ cnt σ n i + 1
    · have yb : ¬ b = 0 := fun q => by have := p4 q; omega
      refine Or.inr ⟨fun _ => nI b, fun _ => nI b, ⟨b, by omega, by omega, rfl, rfl⟩, fun o => ?_, fun o => ?_⟩
      · show fX0_soldPlace_b31 (nI n) (nI (cnt σ n (σ 0 2))) h (all - u) u (if b = 0 then lI 0 else nI b) t m (nI (cnt σ n i)) (nI i) = _
        have y' : cnt σ n (σ 0 2) - 1 ≤ cnt σ n i := by omega
        unfold fX0_soldPlace_b31
        simp (disch := omega) [n_lit, n_eq, n_lt, n_le, n_mul, n_add, n_cl, grd_t, grd_T, su_c, su_s, su_k, wi_in, n_m1', n_m1, cW S, hi', yb, y', eN]
      · show fX9_sold_b102 (nI n) (nI (cnt σ n (σ 0 2))) all h (nI b) t m u (nI (cnt σ n i)) (nI i) = _
        have y' : cnt σ n (σ 0 2) - 1 ≤ cnt σ n i := by omega
        unfold fX9_sold_b102
        simp (disch := omega) [n_lit, n_eq, n_lt, n_le, n_mul, n_add, n_cl, grd_t, grd_T, su_c, su_s, su_k, wi_in, n_m1', n_m1, mW S, hi', y', eN]
    · have y' : ¬ cnt σ n (σ 0 2) - 1 ≤ cnt σ n i := by omega
      by_cases z : σ 10 i = n
      · rw [if_pos z] at hcs
        have hO := hO_c (s := σ 9 i) (by omega)
        have hOm := hO_m (s := σ 9 i) (by omega)
        generalize hrN (σ 9 i) = qq at hO hOm
        have eS : all - u - (nI qq).toInt64 = all - (u + (nI qq).toInt64) := Int64.sub_sub _ _ _
        by_cases w : b = 0
        · refine Or.inl ⟨(u + (nI qq).toInt64, cnt σ n i + 1, ((u + (nI qq).toInt64) * (u + (nI qq).toInt64)) * (nI (cnt σ n (σ 0 2)) - nI (cnt σ n i + 1)).toInt64 + ((all - (u + (nI qq).toInt64)) * (all - (u + (nI qq).toInt64))) * (nI (cnt σ n i + 1)).toInt64, (nI (cnt σ n i + 1)).toInt64 * (nI (cnt σ n (σ 0 2)) - nI (cnt σ n i + 1)).toInt64, i + 1), ⟨hi, ?_, ?_, ?_⟩, by show σ 0 2 - (i + 1) < σ 0 2 - i; omega, fun o => ?_, fun o => ?_⟩
          · show cnt σ n (i + 1) ≤ _; omega
          · show cnt σ n i + 1 ≤ cnt σ n (i + 1); omega
          · intro q; exact absurd q (by show ¬ cnt σ n i + 1 = 0; omega)
          · show fX0_soldPlace_b31 (nI n) (nI (cnt σ n (σ 0 2))) h (all - u) u (if b = 0 then lI 0 else nI b) t m (nI (cnt σ n i)) (nI i) = some (.inl (all - (u + (nI qq).toInt64), u + (nI qq).toInt64, (if cnt σ n i + 1 = 0 then lI 0 else nI (cnt σ n i + 1)), _, _, nI (cnt σ n (i + 1)), nI (i + 1)))
            have e0 : lI 0 < nI 0 := by decide
            rw [hcs]
            unfold fX0_soldPlace_b31
            simp (disch := omega) [n_lit, n_eq, n_lt, n_le, n_mul, n_add, n_cl, grd_t, grd_T, su_c, su_s, su_k, wi_in, n_m1', n_m1, cW S, hi', y', eN, c12 S hi, c11 S hi, z, hO, w, e0, eS]
          · show fX9_sold_b102 (nI n) (nI (cnt σ n (σ 0 2))) all h (nI b) t m u (nI (cnt σ n i)) (nI i) = some (.inl (nI (cnt σ n i + 1), _, _, u + (nI qq).toInt64, nI (cnt σ n (i + 1)), nI (i + 1)))
            rw [hcs]
            unfold fX9_sold_b102
            rw [if_neg (by rw [mW S, n_le (by omega) (by omega)]; exact hi'), if_neg (by rw [show (1 : Int32) = nI 1 from rfl, n_m1', eN, n_le (by omega) (by omega)]; exact y'), show (1 : Int32) = nI 1 from rfl, w1 S hi, Option.bind_some, if_pos (by rw [z]), show (0 : Int32) = nI 0 from rfl, w0 S hi, Option.bind_some, hOm, Option.bind_some, Option.bind_some, n_add, n_add, if_pos (by rw [n_le (by omega) (by omega)]; omega)]
        · have w' : ¬ b ≤ 0 := by omega
          by_cases v : nI 0 < lg_cmp ((((u + (nI qq).toInt64) * (u + (nI qq).toInt64)) * (nI (cnt σ n (σ 0 2)) - nI (cnt σ n i + 1)).toInt64 + ((all - (u + (nI qq).toInt64)) * (all - (u + (nI qq).toInt64))) * (nI (cnt σ n i + 1)).toInt64) * m) (t * ((nI (cnt σ n i + 1)).toInt64 * (nI (cnt σ n (σ 0 2)) - nI (cnt σ n i + 1)).toInt64))
          · have v' := Int32.not_le.mpr v
            refine Or.inl ⟨(u + (nI qq).toInt64, cnt σ n i + 1, ((u + (nI qq).toInt64) * (u + (nI qq).toInt64)) * (nI (cnt σ n (σ 0 2)) - nI (cnt σ n i + 1)).toInt64 + ((all - (u + (nI qq).toInt64)) * (all - (u + (nI qq).toInt64))) * (nI (cnt σ n i + 1)).toInt64, (nI (cnt σ n i + 1)).toInt64 * (nI (cnt σ n (σ 0 2)) - nI (cnt σ n i + 1)).toInt64, i + 1), ⟨hi, ?_, ?_, ?_⟩, by show σ 0 2 - (i + 1) < σ 0 2 - i; omega, fun o => ?_, fun o => ?_⟩
            · show cnt σ n (i + 1) ≤ _; omega
            · show cnt σ n i + 1 ≤ cnt σ n (i + 1); omega
            · intro q; exact absurd q (by show ¬ cnt σ n i + 1 = 0; omega)
            · show fX0_soldPlace_b31 (nI n) (nI (cnt σ n (σ 0 2))) h (all - u) u (if b = 0 then lI 0 else nI b) t m (nI (cnt σ n i)) (nI i) = some (.inl (all - (u + (nI qq).toInt64), u + (nI qq).toInt64, (if cnt σ n i + 1 = 0 then lI 0 else nI (cnt σ n i + 1)), _, _, nI (cnt σ n (i + 1)), nI (i + 1)))
              rw [hcs]
              unfold fX0_soldPlace_b31
              simp (disch := omega) [n_lit, n_eq, n_lt, n_le, n_mul, n_add, n_cl, grd_t, grd_T, su_c, su_s, su_k, wi_in, n_m1', n_m1, cW S, hi', y', eN, c12 S hi, c11 S hi, z, hO, w, eS, v']
            · show fX9_sold_b102 (nI n) (nI (cnt σ n (σ 0 2))) all h (nI b) t m u (nI (cnt σ n i)) (nI i) = some (.inl (nI (cnt σ n i + 1), _, _, u + (nI qq).toInt64, nI (cnt σ n (i + 1)), nI (i + 1)))
              rw [hcs]
              unfold fX9_sold_b102
              rw [if_neg (by rw [mW S, n_le (by omega) (by omega)]; exact hi'), if_neg (by rw [show (1 : Int32) = nI 1 from rfl, n_m1', eN, n_le (by omega) (by omega)]; exact y'), show (1 : Int32) = nI 1 from rfl, w1 S hi, Option.bind_some, if_pos (by rw [z]), show (0 : Int32) = nI 0 from rfl, w0 S hi, Option.bind_some, hOm, Option.bind_some, Option.bind_some, n_add, n_add, if_neg (by rw [n_le (by omega) (by omega)]; omega), if_pos v]
          · have v' := Int32.not_lt.mp v
            refine Or.inl ⟨(u + (nI qq).toInt64, b, t, m, i + 1), ⟨hi, ?_, ?_, ?_⟩, by show σ 0 2 - (i + 1) < σ 0 2 - i; omega, fun o => ?_, fun o => ?_⟩
            · show cnt σ n (i + 1) ≤ _; omega
            · show b ≤ cnt σ n (i + 1); omega
            · intro q; exact absurd q w
            · show fX0_soldPlace_b31 (nI n) (nI (cnt σ n (σ 0 2))) h (all - u) u (if b = 0 then lI 0 else nI b) t m (nI (cnt σ n i)) (nI i) = some (.inl (all - (u + (nI qq).toInt64), u + (nI qq).toInt64, (if b = 0 then lI 0 else nI b), t, m, nI (cnt σ n (i + 1)), nI (i + 1)))
              rw [hcs]
              unfold fX0_soldPlace_b31
              simp (disch := omega) [n_lit, n_eq, n_lt, n_le, n_mul, n_add, n_cl, grd_t, grd_T, su_c, su_s, su_k, wi_in, n_m1', n_m1, cW S, hi', y', eN, c12 S hi, c11 S hi, z, hO, w, eS, v']
            · show fX9_sold_b102 (nI n) (nI (cnt σ n (σ 0 2))) all h (nI b) t m u (nI (cnt σ n i)) (nI i) = some (.inl (nI b, t, m, u + (nI qq).toInt64, nI (cnt σ n (i + 1)), nI (i + 1)))
              rw [hcs]
              unfold fX9_sold_b102
              rw [if_neg (by rw [mW S, n_le (by omega) (by omega)]; exact hi'), if_neg (by rw [show (1 : Int32) = nI 1 from rfl, n_m1', eN, n_le (by omega) (by omega)]; exact y'), show (1 : Int32) = nI 1 from rfl, w1 S hi, Option.bind_some, if_pos (by rw [z]), show (0 : Int32) = nI 0 from rfl, w0 S hi, Option.bind_some, hOm, Option.bind_some, Option.bind_some, n_add, n_add, if_neg (by rw [n_le (by omega) (by omega)]; omega), if_neg v]
      · rw [if_neg z, Nat.add_zero] at hcs
        refine Or.inl ⟨(u, b, t, m, i + 1), ⟨hi, ?_, ?_, ?_⟩, by show σ 0 2 - (i + 1) < σ 0 2 - i; omega, fun o => ?_, fun o => ?_⟩
        · show cnt σ n (i + 1) ≤ _; omega
        · show b ≤ cnt σ n (i + 1); omega
        · intro q; show cnt σ n (i + 1) = 0; rw [hcs]; exact p4 q
        · show fX0_soldPlace_b31 (nI n) (nI (cnt σ n (σ 0 2))) h (all - u) u (if b = 0 then lI 0 else nI b) t m (nI (cnt σ n i)) (nI i) = some (.inl (all - u, u, (if b = 0 then lI 0 else nI b), t, m, nI (cnt σ n (i + 1)), nI (i + 1)))
          rw [hcs]
          unfold fX0_soldPlace_b31
          simp (disch := omega) [n_lit, n_eq, n_lt, n_le, n_mul, n_add, n_cl, grd_t, grd_T, su_c, su_s, su_k, wi_in, n_m1', n_m1, cW S, hi', y', eN, c12 S hi, z]
        · show fX9_sold_b102 (nI n) (nI (cnt σ n (σ 0 2))) all h (nI b) t m u (nI (cnt σ n i)) (nI i) = some (.inl (nI b, t, m, u, nI (cnt σ n (i + 1)), nI (i + 1)))
          rw [hcs]
          unfold fX9_sold_b102
          simp (disch := omega) [n_lit, n_eq, n_lt, n_le, n_mul, n_add, n_cl, grd_t, grd_T, su_c, su_s, su_k, wi_in, n_m1', n_m1, mW S, hi', y', eN, w1 S hi, z]
end SOL
theorem st_sold (a : Int32) (h : Sto) (I : Inv h) : Agr (fX8_sold a) (fX9_sold a) h := by
  obtain ⟨σ, S⟩ := I.1
  have hN := lN14 S
  have hW := lW S
  by_cases h1 : nI 0 ≤ a ∧ a ≤ lI (σ 0 0)
  · obtain ⟨n, hn, rfl⟩ := (arg_nm (by omega)).mp h1
    have hC := cnt_le σ n (σ 0 2)
    by_cases h2 : 2 ≤ cnt σ n (σ 0 2)
    · obtain ⟨b, b1, b2, e1, e2⟩ := soldJ S (show n < 14 by omega) h2 (nI (hsm σ n (σ 0 2))).toInt64
      refine agr (nI b) h h ?_ ?_ I
      · unfold fX8_sold fX0_soldPlace
        rw [cHas S, cCnt S n (by omega), cHsm S (by omega), Option.bind_some, Option.bind_some, Option.bind_some, show (((nI (hsm σ n (σ 0 2))).toInt64, (0 : Int64), (-1 : Int32), (0 : Int64), (1 : Int64), (0 : Int32), (0 : Int32))) = ((nI (hsm σ n (σ 0 2))).toInt64, 0, lI 0, 0, 1, nI 0, nI 0) from rfl, e1]
        simp (disch := omega) [n_lit, n_eq, n_lt, n_le, n_mul, n_add, n_cl, grd_t, grd_T, su_c, su_s, su_k, wi_in, n_m1', n_m1, h1, b1]
      · unfold fX9_sold
        rw [mHas S, mCnt S n (by omega), Option.bind_some, Option.bind_some, mHsm S (by omega), Option.bind_some, show ((0 : Int32), (0 : Int64), (1 : Int64), (0 : Int64), (0 : Int32), (0 : Int32)) = (nI 0, 0, 1, 0, nI 0, nI 0) from rfl, e2]
        simp (disch := omega) [n_lit, n_eq, n_lt, n_le, n_mul, n_add, n_cl, grd_t, grd_T, su_c, su_s, su_k, wi_in, n_m1', n_m1, h1, h2]
    · refine ag_f3 I ?_ ?_
      · have el : lp (fun s : Int64 × Int64 × Int32 × Int64 × Int64 × Int32 × Int32 => fX0_soldPlace_b31 (nI n) (nI (cnt σ n (σ 0 2))) h s.1 s.2.1 s.2.2.1 s.2.2.2.1 s.2.2.2.2.1 s.2.2.2.2.2.1 s.2.2.2.2.2.2) FUEL ((nI (hsm σ n (σ 0 2))).toInt64, 0, lI 0, 0, 1, nI 0, nI 0) = some (lI 0) := by
          refine lp_F (g := fun _ => ((nI (hsm σ n (σ 0 2))).toInt64, 0, lI 0, 0, 1, nI 0, nI 0)) 0 _ rfl (by omega) (fun i hi => absurd hi (Nat.not_lt_zero _)) ?_
          show fX0_soldPlace_b31 (nI n) (nI (cnt σ n (σ 0 2))) h _ 0 (lI 0) 0 1 (nI 0) (nI 0) = _
          have e3 : lI (cnt σ n (σ 0 2)) ≤ nI 0 := by
            rcases (show cnt σ n (σ 0 2) = 0 ∨ cnt σ n (σ 0 2) = 1 by omega) with q | q
            · rw [q]; decide
            · rw [q]; decide
          unfold fX0_soldPlace_b31
          by_cases q : σ 0 2 ≤ 0
          · simp (disch := omega) [n_lit, n_eq, n_lt, n_le, n_mul, n_add, n_cl, grd_t, grd_T, su_c, su_s, su_k, wi_in, n_m1', n_m1, cW S, q]
          · simp (disch := omega) [n_lit, n_eq, n_lt, n_le, n_mul, n_add, n_cl, grd_t, grd_T, su_c, su_s, su_k, wi_in, n_m1', n_m1, cW S, q, e3]
        have e0 : ¬ nI 1 ≤ lI 0 := by decide
        unfold fX8_sold fX0_soldPlace
        rw [cHas S, cCnt S n (by omega), cHsm S (by omega), Option.bind_some, Option.bind_some, Option.bind_some, show (((nI (hsm σ n (σ 0 2))).toInt64, (0 : Int64), (-1 : Int32), (0 : Int64), (1 : Int64), (0 : Int32), (0 : Int32))) = ((nI (hsm σ n (σ 0 2))).toInt64, 0, lI 0, 0, 1, nI 0, nI 0) from rfl, el]
        simp (disch := omega) [n_lit, n_eq, n_lt, n_le, n_mul, n_add, n_cl, grd_t, grd_T, su_c, su_s, su_k, wi_in, n_m1', n_m1, h1, e0]
      · intro h1' e
        subst e
        unfold fX9_sold
        rw [mHas (Sc_find S), mCnt (Sc_find S) n (by omega)]
        simp (disch := omega) [n_lit, n_eq, n_lt, n_le, n_mul, n_add, n_cl, grd_t, grd_T, su_c, su_s, su_k, wi_in, n_m1', n_m1, h1, h2]
  · refine ag_f0 I ?_ ?_
    · unfold fX8_sold
      rw [cHas S]
      simp [h1]
    · intro h1' e
      subst e
      unfold fX9_sold
      rw [mHas (Sc_find S)]
      simp [h1]
