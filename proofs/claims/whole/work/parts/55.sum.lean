/-! 55: texts: sums, comparisons, ones -/
section SUM
variable {b : Nat → Nat} {n p o : Nat} {R : Nat → Int32} {rc : Int32 → Sto → Option (Int32 × Sto)} {rm : Sto → Option Sto}
theorem sumJ (E : EX b n p R o (fX2_readTerm rc (nI o)) (fX9_term rm)) : EX b n p R o (fX2_readSum rc (nI o)) (fX9_sum rm) := by
  intro c m q bad k S T h13 hk
  obtain ⟨val, c', m', q', bad', e1, e2, P⟩ := E c m q bad k S T h13 hk
  have hn := S.1.1
  have key : ∃ x y, (∃ val2 c2 m2 q2 bad2, x = (fun _ => (val2, c2)) ∧ y = (fun _ => m2) ∧ Prog b n p R o c m k q bad val2 c2 m2 q2 bad2) ∧ (∀ _ : Sto, lp (fun s : Int32 × Int32 × Sto => fX2_readSum_b8 rc (nI o) s.1 s.2.1 s.2.2) FUEL (val, nI 0, c') = some (x c)) ∧ (∀ _ : Sto, lp (fun s => fX9_sum_b4 rm s) FUEL m' = some (y c)) := by
    obtain ⟨x, y, ⟨val2, c2, m2, q2, bad2, rfl, rfl, P2⟩, f1, f2⟩ := lp_J (f := fun s : Int32 × Int32 × Sto => fX2_readSum_b8 rc (nI o) s.1 s.2.1 s.2.2) (g := fun s => fX9_sum_b4 rm s) (A := Int32 × Nat × Sto × Sto × Nat × Bool)
      (fun a => Prog b n p R o c m k q bad a.1 a.2.2.1 a.2.2.2.1 a.2.2.2.2.1 a.2.2.2.2.2 ∧ (a.2.2.2.2.2 = false → a.2.1 < a.2.2.2.2.1))
      (fun a => if a.2.2.2.2.2 = true then 0 else 81 - a.2.2.2.2.1)
      (fun a _ => (a.1, nI a.2.1, a.2.2.1)) (fun a _ => a.2.2.2.1)
      (fun x y => ∃ val2 c2 m2 q2 bad2, x = (fun _ => (val2, c2)) ∧ y = (fun _ => m2) ∧ Prog b n p R o c m k q bad val2 c2 m2 q2 bad2)
      (by
        rintro ⟨v, i, c1, m1, q1, bad1⟩ ⟨P1, hi⟩
        have P1 : Prog b n p R o c m k q bad v c1 m1 q1 bad1 := P1
        have hi : bad1 = false → i < q1 := hi
        obtain ⟨S1, T1, -⟩ := id P1
        cases bad1 with
        | true =>
          obtain ⟨t1, t2, t3⟩ := T1.2.2.1 rfl
          refine Or.inr ⟨fun _ => (v, c1), fun _ => m1, ⟨v, c1, m1, q1, true, rfl, rfl, P1⟩, fun _ => ?_, fun _ => ?_⟩
          · show fX2_readSum_b8 rc (nI o) v (nI i) c1 = _
            unfold fX2_readSum_b8
            by_cases z : nI 80 ≤ nI i
            · simp [n_lit, z]
            · simp (disch := omega) [n_lit, z, t1, n_eq]
          · show fX9_sum_b4 rm m1 = _
            unfold fX9_sum_b4
            simp [sgF _ t3]
        | false =>
          have hi := hi rfl
          have hq1 := T1.1
          have i80 : ¬ 80 ≤ i := by omega
          have t3 := (T1.2.2.2 rfl).2.2
          obtain ⟨x1, y1⟩ := tkJ (ch := 43) (by omega) S1 T1
          obtain ⟨x2, y2⟩ := tkJ (ch := 45) (by omega) S1 T1
          by_cases z : q1 < n ∧ b q1 = 43
          · have z1 := x1.mpr z
            have z2 := y1.mpr z
            obtain ⟨c2, m2, v2, c3, m3, m4, q2, bad2, a1, a2, a3, a4, a5, P2, a6⟩ := binJ P1 z2 (by omega) E
            have a5 : fX9_puts (nI 20043) m3 = some m4 := a5
            refine Or.inl ⟨(evj 43 v v2, i + 1, c3, m4, q2, bad2), ⟨P2, fun h => by have := a6 h; show i + 1 < q2; omega⟩, ?_, fun _ => ?_, fun _ => ?_⟩
            · show (if bad2 = true then 0 else 81 - q2) < (if false = true then 0 else 81 - q1)
              have := P2.2.1.1
              cases bad2 with
              | true => simp; omega
              | false => have := a6 rfl; simp; omega
            · show fX2_readSum_b8 rc (nI o) v (nI i) c1 = some (.inl (evj 43 v v2, nI (i + 1), c3))
              unfold fX2_readSum_b8
              simp (disch := omega) [n_lit, n_eq, n_lt, n_le, n_mul, n_add, n_cl, grd_t, grd_T, su_c, su_s, su_k, wi_in, n_m1', n_m1, i80, z1, a1, a3]
              rfl
            · show fX9_sum_b4 rm m1 = some (.inl m4)
              unfold fX9_sum_b4
              simp (disch := omega) [n_lit, n_eq, n_lt, n_le, n_mul, n_add, n_cl, grd_t, grd_T, su_c, su_s, su_k, wi_in, n_m1', n_m1, sgT, t3, z2, a2, a4, a5]
          · have z1 : ¬ c1 64 4 = nI 43 := fun h => z (x1.mp h)
            have z2 : ¬ m1 83 11 = nI 43 := fun h => z (y1.mp h)
            by_cases w : q1 < n ∧ b q1 = 45
            · have w1 := x2.mpr w
              have w2 := y2.mpr w
              obtain ⟨c2, m2, v2, c3, m3, m4, q2, bad2, a1, a2, a3, a4, a5, P2, a6⟩ := binJ P1 w2 (by omega) E
              have a5 : fX9_puts (nI 20045) m3 = some m4 := a5
              refine Or.inl ⟨(evj 45 v v2, i + 1, c3, m4, q2, bad2), ⟨P2, fun h => by have := a6 h; show i + 1 < q2; omega⟩, ?_, fun _ => ?_, fun _ => ?_⟩
              · show (if bad2 = true then 0 else 81 - q2) < (if false = true then 0 else 81 - q1)
                have := P2.2.1.1
                cases bad2 with
                | true => simp; omega
                | false => have := a6 rfl; simp; omega
              · show fX2_readSum_b8 rc (nI o) v (nI i) c1 = some (.inl (evj 45 v v2, nI (i + 1), c3))
                unfold fX2_readSum_b8
                simp (disch := omega) [n_lit, n_eq, n_lt, n_le, n_mul, n_add, n_cl, grd_t, grd_T, su_c, su_s, su_k, wi_in, n_m1', n_m1, i80, w1, a1, a3]
                rfl
              · show fX9_sum_b4 rm m1 = some (.inl m4)
                unfold fX9_sum_b4
                simp (disch := omega) [n_lit, n_eq, n_lt, n_le, n_mul, n_add, n_cl, grd_t, grd_T, su_c, su_s, su_k, wi_in, n_m1', n_m1, sgT, t3, z2, w2, a2, a4, a5]
            · have w1 : ¬ c1 64 4 = nI 45 := fun h => w (x2.mp h)
              have w2 : ¬ m1 83 11 = nI 45 := fun h => w (y2.mp h)
              refine Or.inr ⟨fun _ => (v, c1), fun _ => m1, ⟨v, c1, m1, q1, false, rfl, rfl, P1⟩, fun _ => ?_, fun _ => ?_⟩
              · show fX2_readSum_b8 rc (nI o) v (nI i) c1 = _
                unfold fX2_readSum_b8
                simp (disch := omega) [n_lit, n_eq, n_lt, n_le, n_mul, n_add, n_cl, grd_t, grd_T, su_c, su_s, su_k, wi_in, n_m1', n_m1, i80, z1, w1]
              · show fX9_sum_b4 rm m1 = _
                unfold fX9_sum_b4
                simp (disch := omega) [n_lit, n_eq, n_lt, n_le, n_mul, n_add, n_cl, grd_t, grd_T, su_c, su_s, su_k, wi_in, n_m1', n_m1, sgT, t3, z2, w2])
      (val, 0, c', m', q', bad') ⟨P, fun h => by have := (P.2.2.2.2.2 h).2.2; obtain ⟨cs, -, -, h5, -⟩ := this; show 0 < q'; omega⟩ (by show (if bad' = true then 0 else 81 - q') < 100000; split <;> omega)
    exact ⟨_, _, ⟨val2, c2, m2, q2, bad2, rfl, rfl, P2⟩, fun o => f1 o, fun o => f2 o⟩
  obtain ⟨x, y, ⟨val2, c2, m2, q2, bad2, rfl, rfl, P2⟩, f1, f2⟩ := key
  refine ⟨val2, c2, m2, q2, bad2, ?_, ?_, P2⟩
  · have f1 := f1 c
    unfold fX2_readSum
    rw [e1, Option.bind_some, show ((val, c').1, (0 : Int32), (val, c').2) = (val, nI 0, c') from rfl, f1]
    rfl
  · have f2 := f2 c
    unfold fX9_sum
    rw [e2, Option.bind_some, f2]
    rfl
theorem wholeJ (E : EX b n p R o (fX2_readSum rc (nI o)) (fX9_sum rm)) : EX b n p R o (fX2_readText rc (nI o)) (fX9_whole rm) := by
  intro c m q bad k S T h13 hk
  obtain ⟨val, c1, m1, q1, bad1, e1, e2, P1⟩ := E c m q bad k S T h13 hk
  obtain ⟨S1, T1, -⟩ := id P1
  cases bad1 with
  | true =>
    obtain ⟨t1, t2, t3⟩ := T1.2.2.1 rfl
    refine ⟨val, c1, m1, q1, true, ?_, ?_, P1⟩
    · unfold fX2_readText
      simp (disch := omega) [n_lit, n_eq, n_lt, n_le, n_mul, n_add, n_cl, grd_t, grd_T, su_c, su_s, su_k, wi_in, n_m1', n_m1, e1, t1]
    · unfold fX9_whole
      simp [e2, sgF _ t3]
  | false =>
    have t3 := (T1.2.2.2 rfl).2.2
    obtain ⟨x1, y1⟩ := tkJ (ch := 60) (by omega) S1 T1
    obtain ⟨x2, y2⟩ := tkJ (ch := 61) (by omega) S1 T1
    by_cases z : q1 < n ∧ b q1 = 60
    · have z1 := x1.mpr z
      have z2 := y1.mpr z
      obtain ⟨c2, m2, v2, c3, m3, m4, q2, bad2, a1, a2, a3, a4, a5, P2, a6⟩ := binJ P1 z2 (by omega) E
      have a5 : fX9_puts (nI 20060) m3 = some m4 := a5
      refine ⟨_, c3, m4, q2, bad2, ?_, ?_, P2⟩
      · unfold fX2_readText evj
        by_cases y : v2 ≤ val
        · simp (disch := omega) [n_lit, n_eq, n_lt, n_le, n_mul, n_add, n_cl, grd_t, grd_T, su_c, su_s, su_k, wi_in, n_m1', n_m1, e1, z1, a1, a3, y, b2i, asIn0]
        · simp (disch := omega) [n_lit, n_eq, n_lt, n_le, n_mul, n_add, n_cl, grd_t, grd_T, su_c, su_s, su_k, wi_in, n_m1', n_m1, e1, z1, a1, a3, y, b2i, asIn1]
      · unfold fX9_whole
        simp (disch := omega) [n_lit, n_eq, n_lt, n_le, n_mul, n_add, n_cl, grd_t, grd_T, su_c, su_s, su_k, wi_in, n_m1', n_m1, e2, sgT, t3, z2, a2, a4, a5]
    · have z1 : ¬ c1 64 4 = nI 60 := fun h => z (x1.mp h)
      have z2 : ¬ m1 83 11 = nI 60 := fun h => z (y1.mp h)
      by_cases w : q1 < n ∧ b q1 = 61
      · have w1 := x2.mpr w
        have w2 := y2.mpr w
        obtain ⟨c2, m2, v2, c3, m3, m4, q2, bad2, a1, a2, a3, a4, a5, P2, a6⟩ := binJ P1 w2 (by omega) E
        have a5 : fX9_puts (nI 20061) m3 = some m4 := a5
        refine ⟨_, c3, m4, q2, bad2, ?_, ?_, P2⟩
        · unfold fX2_readText evj
          by_cases y : val = v2
          · simp (disch := omega) [n_lit, n_eq, n_lt, n_le, n_mul, n_add, n_cl, grd_t, grd_T, su_c, su_s, su_k, wi_in, n_m1', n_m1, e1, w1, a1, a3, y, b2i, asIn1]
          · simp (disch := omega) [n_lit, n_eq, n_lt, n_le, n_mul, n_add, n_cl, grd_t, grd_T, su_c, su_s, su_k, wi_in, n_m1', n_m1, e1, w1, a1, a3, y, b2i, asIn0]
        · unfold fX9_whole
          simp (disch := omega) [n_lit, n_eq, n_lt, n_le, n_mul, n_add, n_cl, grd_t, grd_T, su_c, su_s, su_k, wi_in, n_m1', n_m1, e2, sgT, t3, z2, w2, a2, a4, a5]
      · have w1 : ¬ c1 64 4 = nI 61 := fun h => w (x2.mp h)
        have w2 : ¬ m1 83 11 = nI 61 := fun h => w (y2.mp h)
        refine ⟨val, c1, m1, q1, false, ?_, ?_, P1⟩
        · unfold fX2_readText
          simp (disch := omega) [n_lit, n_eq, n_lt, n_le, n_mul, n_add, n_cl, grd_t, grd_T, su_c, su_s, su_k, wi_in, n_m1', n_m1, e1, z1, w1]
        · unfold fX9_whole
          simp (disch := omega) [n_lit, n_eq, n_lt, n_le, n_mul, n_add, n_cl, grd_t, grd_T, su_c, su_s, su_k, wi_in, n_m1', n_m1, e2, sgT, t3, z2, w2]
end SUM
