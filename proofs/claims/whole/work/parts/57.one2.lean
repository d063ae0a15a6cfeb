/-! 57: texts: ones, joined -/
section ON2
variable {b : Nat → Nat} {n p o k q : Nat} {R : Nat → Int32} {c m : Sto}
theorem parenJ {f : Sto → Option (Int32 × Sto)} {g : Sto → Option Sto} (S : Src b n p R c m) (T : Stt b n R q false c m) (h8 : m 83 8 = nI k) (hk : k ≤ q) (hq : q < n) (E : EX b n p R (o + 1) f g) :
    ∃ c1 m1 v c2 c3 m4 q2 bad2, fX2_step c = some c1 ∧ fX9_next_ (su m 83 13 (nI (o + 1))) = some m1 ∧ f c1 = some (v, c2) ∧ fX2_take (nI 41) c2 = some c3 ∧ ((g m1).bind fun q_22 => (if ¬ (q_22 83 14) = 0 then (some true) else (if (q_22 83 11) = 41 then (some false) else (some true))).bind fun q_24 => (some (su q_22 83 14 (b2i q_24))).bind fun h_28 => if ¬ (h_28 83 14) = 0 then (some h_28) else ((fX9_next_ h_28).bind fun q_30 => some q_30)) = some m4 ∧ m4 83 13 = nI (o + 1) ∧ Prog b n p R o c m k q false v c3 (su m4 83 13 (nI o)) q2 bad2 := by
  have hn := S.1.1
  have g2 : Frm m (su m 83 13 (nI (o + 1))) := ⟨fun i h1 h2 => su_c _ _ _ h1, fun j hj => su_k _ _ _ (by omega)⟩
  have e8 : su m 83 13 (nI (o + 1)) 83 8 = nI k := by rw [su_k _ _ _ (by omega)]; exact h8
  have e13 : su m 83 13 (nI (o + 1)) 83 13 = nI (o + 1) := su_s _ _ _ _
  have e89 : su m 83 13 (nI (o + 1)) 89 = m 89 := su_c _ _ _ (by omega)
  have T1 : Stt b n R q false c (su m 83 13 (nI (o + 1))) := ⟨T.1, T.2.1.cg (fun j h1 h2 => su_k _ _ _ (by omega)), fun h => absurd h (by decide), fun h => by rw [su_k _ _ _ (by omega)]; exact T.2.2.2 h⟩
  generalize su m 83 13 (nI (o + 1)) = mo at *
  have S1 := S.fr (Frc.refl _) g2
  obtain ⟨c1, m1, q1, a1, a2, S2, T2, Fc2, Fm2, -, a3⟩ := stepJ S1 T1
  have a3 := a3 hq
  obtain ⟨v, c2, m2, q2, bad2, b1, b2, P⟩ := E c1 m1 q1 false k S2 T2 ((Fm2.2 13 (by omega)).trans e13) (fun _ => ⟨(Fm2.2 8 (by omega)).trans e8, by omega⟩)
  have P := P.base (q := q) Fc2 (g2.trans Fm2.fr) ((Fm2.1 89 (by omega)).trans e89) (by omega) hk
  obtain ⟨S3, T3, Fc3, Fm3, b13, L⟩ := id P
  cases bad2 with
  | true =>
    obtain ⟨t1, t2, t3⟩ := T3.2.2.1 rfl
    refine ⟨c1, m1, v, c2, c2, m2, q2, true, a1, a2, b1, ?_, ?_, b13, P.dn⟩
    · have := failB t1 t2 (by have := T3.1; omega)
      unfold fX2_take
      simp (disch := omega) [n_lit, n_eq, n_lt, n_le, n_mul, n_add, n_cl, grd_t, grd_T, su_c, su_s, su_k, wi_in, n_m1', n_m1, t1, this]
    · have e1 : ¬ m2 83 14 = 0 := by rw [t3]; decide
      have e2 : su m2 83 14 (b2i true) = m2 := su_self2 t3
      rw [b2, Option.bind_some, if_pos e1, Option.bind_some, Option.bind_some, e2, if_pos e1]
  | false =>
    have t3 := (T3.2.2.2 rfl).2.2
    obtain ⟨x1, y1⟩ := tkJ (ch := 41) (by omega) S3 T3
    have e1 : ¬ ¬ m2 83 14 = 0 := fun h => h t3
    by_cases z : q2 < n ∧ b q2 = 41
    · have z1 := x1.mpr z
      have z2 : m2 83 11 = 41 := y1.mpr z
      obtain ⟨c3, m3, q3, d1, d2, P3⟩ := P.adv
      refine ⟨c1, m1, v, c2, c3, m3, q3, false, a1, a2, b1, ?_, ?_, P3.2.2.2.2.1, P3.dn⟩
      · unfold fX2_take
        simp (disch := omega) [z1, d1]
      · have e2 : su m2 83 14 (b2i false) = m2 := su_self2 t3
        rw [b2, Option.bind_some, if_neg e1, if_pos z2, Option.bind_some, Option.bind_some, e2, if_neg e1, d2]
        rfl
    · have z1 : ¬ c2 64 4 = nI 41 := fun h => z (x1.mp h)
      have z2 : ¬ m2 83 11 = 41 := fun h => z (y1.mp h)
      obtain ⟨c3, d1, P3⟩ := P.fail v
      have P4 := P3.dn (o := o)
      refine ⟨c1, m1, v, c2, c3, _, q2, true, a1, a2, b1, ?_, ?_, P3.2.2.2.2.1, P4⟩
      · unfold fX2_take
        simp (disch := omega) [z1, d1]
      · have e2 : ¬ (su m2 83 14 (b2i true)) 83 14 = 0 := by rw [su_s]; decide
        rw [b2, Option.bind_some, if_neg e1, if_neg z2, Option.bind_some, Option.bind_some, if_pos e2]
        rfl
theorem oneJ {rc : Int32 → Sto → Option (Int32 × Sto)} {rm : Sto → Option Sto} (ho : o ≤ 6) (E : o < 6 → EX b n p R (o + 1) (rc (nI (o + 1))) rm) : EX b n p R o (fX2_readOne rc (nI o)) (fX9_one rm) := by
  intro c m q bad k S T h13 hk
  have hn := S.1.1
  have hb := S.1.2.1
  cases bad with
  | true =>
    obtain ⟨t1, t2, t3⟩ := T.2.2.1 rfl
    refine ⟨0, c, m, q, true, ?_, ?_, S, T, Frc.refl _, Frm.refl _, h13, fun h => absurd h (by decide)⟩
    · have := failB t1 t2 (by have := T.1; omega)
      unfold fX2_readOne
      simp (disch := omega) [n_lit, n_eq, n_lt, n_le, n_mul, n_add, n_cl, grd_t, grd_T, su_c, su_s, su_k, wi_in, n_m1', n_m1, t1, this]
    · unfold fX9_one
      simp (disch := omega) [n_lit, n_eq, n_lt, n_le, n_mul, n_add, n_cl, grd_t, grd_T, su_c, su_s, su_k, wi_in, n_m1', n_m1, t3]
  | false =>
    obtain ⟨h8, hk⟩ := hk rfl
    obtain ⟨t1, t2, -, t4⟩ := id T
    obtain ⟨t5, t6, t7⟩ := t4 rfl
    have t11 := t2.2.2.1
    have c4 := t5.2.2.1
    have t7' : m 83 14 = 0 := t7
    by_cases z : q = n
    · have ec : ct b n q (tV b n q) = 0 := by unfold ct; rw [if_pos z]
      have em : mt b n q = lI 0 := by unfold mt; rw [if_pos z]
      rw [ec] at c4
      rw [em] at t11
      obtain ⟨c', f1, P⟩ := St.fail (k := k) (bad0 := false) S T h13 0
      refine ⟨0, c', _, q, true, ?_, ?_, P⟩
      · unfold fX2_readOne
        simp (disch := omega) [n_lit, n_eq, n_lt, n_le, n_mul, n_add, n_cl, grd_t, grd_T, su_c, su_s, su_k, wi_in, n_m1', n_m1, c4, f1]
      · have n1 : ¬ lI 0 = nI 48 := by decide
        have n2 : lI 0 < nI 0 := by decide
        have n3 : ¬ lI 0 = nI 45 := by decide
        have n4 : ¬ lI 0 = nI 40 := by decide
        unfold fX9_one
        simp (disch := omega) [n_lit, n_eq, n_lt, n_le, n_mul, n_add, n_cl, grd_t, grd_T, su_c, su_s, su_k, wi_in, n_m1', n_m1, t7, t11, n1, n2, n3, n4, lt_m1]
    · have zl : q < n := by omega
      have h256 := hb q zl
      cases y : dgt (b q) with
      | true =>
        have em : mt b n q = nI 48 := by unfold mt; rw [if_neg z, if_pos y]
        have ec : ct b n q (tV b n q) = if tV b n q ≤ 9999 then 2 else 1 := by unfold ct; rw [if_neg z, if_pos y]
        have t12 := t2.2.2.2
        have hv := tV_le (b := b) (n := n) (q := q)
        rw [em] at t11
        by_cases w : tV b n q ≤ 9999
        · rw [if_pos w] at ec
          have g6 := t5.2.2.2.1 ec
          rw [ec] at c4
          obtain ⟨c', m1, m', q', a1, a2, a3, a4, P⟩ := atomJ (x := tV b n q) (val := nI (tV b n q)) S T h13 h8 hk zl (by omega) (fun s => by unfold ev1; rw [if_pos (by omega)])
          refine ⟨_, c', m', q', false, ?_, ?_, P⟩
          · unfold fX2_readOne
            simp (disch := omega) [n_lit, n_eq, n_lt, n_le, n_mul, n_add, n_cl, grd_t, grd_T, su_c, su_s, su_k, wi_in, n_m1', n_m1, c4, a1, g6]
          · have e2 : su m 83 14 (nI 0) = m := su_self2 t7
            unfold fX9_one
            simp (disch := omega) [n_lit, n_eq, n_lt, n_le, n_mul, n_add, n_cl, grd_t, grd_T, su_c, su_s, su_k, wi_in, n_m1', n_m1, t7, t11, t12, w, b2i, e2, a2, a3, a4]
        · rw [if_neg w] at ec
          rw [ec] at c4
          obtain ⟨c', f1, P⟩ := St.fail (k := k) (bad0 := false) S T h13 0
          refine ⟨0, c', _, q, true, ?_, ?_, P⟩
          · unfold fX2_readOne
            simp (disch := omega) [n_lit, n_eq, n_lt, n_le, n_mul, n_add, n_cl, grd_t, grd_T, su_c, su_s, su_k, wi_in, n_m1', n_m1, c4, f1]
          · have pb : fX9_puts (nI (tV b n q)) (su m 83 14 (nI 1)) = some (su m 83 14 (nI 1)) := putB _ (su_s _ _ _ _)
            unfold fX9_one
            simp (disch := omega) [n_lit, n_eq, n_lt, n_le, n_mul, n_add, n_cl, grd_t, grd_T, su_c, su_s, su_k, wi_in, n_m1', n_m1, t7, t11, t12, w, b2i, pb, su_s]
      | false =>
        have yf : ¬ dgt (b q) = true := by rw [y]; decide
        have y48 : ¬ b q = 48 := fun h => by rw [h] at y; exact absurd y (by decide)
        have em : mt b n q = nI (b q) := by unfold mt; rw [if_neg z, if_neg yf]
        rw [em] at t11
        have hlt := ltO h256 m
        by_cases w : lx (b q) < 8
        · have ec : ct b n q (tV b n q) = 3 := by unfold ct; rw [if_neg z, if_neg yf, if_pos w]
          have g6 := t5.2.2.2.2 ec
          rw [ec] at c4
          rw [if_pos w] at hlt
          have w1 : ¬ lx (b q) < 0 := by omega
          obtain ⟨c', m1, m', q', a1, a2, a3, a4, P⟩ := atomJ (x := 10000 + lx (b q)) (val := R (lx (b q))) S T h13 h8 hk zl (by omega) (fun s => by unfold ev1; rw [if_neg (by omega), if_pos (by omega), show 10000 + lx (b q) - 10000 = lx (b q) by omega])
          refine ⟨_, c', m', q', false, ?_, ?_, P⟩
          · unfold fX2_readOne
            simp (disch := omega) [n_lit, n_eq, n_lt, n_le, n_mul, n_add, n_cl, grd_t, grd_T, su_c, su_s, su_k, wi_in, n_m1', n_m1, c4, a1, g6]
          · have d1 : ¬ m 83 11 = 48 := by rw [t11, show (48 : Int32) = nI 48 from rfl, n_eq (by omega) (by omega)]; exact y48
            have d2 : ¬ nI (lx (b q)) < 0 := by rw [show (0 : Int32) = nI 0 from rfl, n_lt (by omega) (by omega)]; exact w1
            have d3 : 10000 + nI (lx (b q)) = nI (10000 + lx (b q)) := n_add 10000 _
            unfold fX9_one
            rw [if_pos t7', if_pos d1, t11, hlt, Option.bind_some, if_neg d2, Option.bind_some, d3, a2, Option.bind_some, a4]
            rfl
        · rw [if_neg w] at hlt
          have n2 : lI 0 < nI 0 := by decide
          have n2' : lI 0 < (0 : Int32) := by decide
          have ec : ct b n q (tV b n q) = if mkN (b q) = true then b q else 1 := by unfold ct; rw [if_neg z, if_neg yf, if_neg w]
          by_cases x45 : b q = 45
          · have ec : ct b n q (tV b n q) = 45 := by rw [ec, x45]; rfl
            rw [ec] at c4
            rw [x45] at t11 hlt
            by_cases o6 : o < 6
            · have o6' : ¬ 6 ≤ o := by omega
              obtain ⟨c1, m1, v, c2, m2, m3, q2, bad2, a1, a2, a3, a4, a5, a6, P⟩ := minusJ (o := o) S T h8 hk zl (E o6)
              have es : nI (o + 1) - nI 1 = nI o := by rw [n_sub (by omega)]; rfl
              refine ⟨_, c2, _, q2, bad2, ?_, ?_, P⟩
              · unfold fX2_readOne
                simp (disch := omega) [n_lit, n_eq, n_lt, n_le, n_mul, n_add, n_cl, grd_t, grd_T, su_c, su_s, su_k, wi_in, n_m1', n_m1, c4, o6, a1, a3]
              · unfold fX9_one
                simp only [n_m1'] at es
                simp (disch := omega) [n_lit, n_eq, n_lt, n_le, n_mul, n_add, n_cl, grd_t, grd_T, su_c, su_s, su_k, wi_in, n_m1', n_m1, t7, t11, hlt, n2, h13, o6', a2, a4, a5, a6, es]
            · have o6' : 6 ≤ o := by omega
              obtain ⟨c', f1, P⟩ := St.fail (k := k) (bad0 := false) S T h13 0
              refine ⟨0, c', _, q, true, ?_, ?_, P⟩
              · unfold fX2_readOne
                simp (disch := omega) [n_lit, n_eq, n_lt, n_le, n_mul, n_add, n_cl, grd_t, grd_T, su_c, su_s, su_k, wi_in, n_m1', n_m1, c4, o6, f1]
              · unfold fX9_one
                simp (disch := omega) [n_lit, n_eq, n_lt, n_le, n_mul, n_add, n_cl, grd_t, grd_T, su_c, su_s, su_k, wi_in, n_m1', n_m1, t7, t11, hlt, n2, h13, o6']
          · by_cases x40 : b q = 40
            · have ec : ct b n q (tV b n q) = 40 := by rw [ec, x40]; rfl
              rw [ec] at c4
              rw [x40] at t11 hlt
              by_cases o6 : o < 6
              · obtain ⟨c1, m1, v, c2, c3, m4, q2, bad2, a1, a2, a3, a4, a5, a6, P⟩ := parenJ (o := o) S T h8 hk zl (wholeJ (sumJ (termJ (E o6))))
                have es : nI (o + 1) - 1 = nI o := by rw [show (1 : Int32) = nI 1 from rfl, n_sub (by omega)]; rfl
                have ea : nI o + 1 = nI (o + 1) := n_add o 1
                refine ⟨_, c3, _, q2, bad2, ?_, ?_, P⟩
                · unfold fX2_readOne
                  simp (disch := omega) [n_lit, n_eq, n_lt, n_le, n_mul, n_add, n_cl, grd_t, grd_T, su_c, su_s, su_k, wi_in, n_m1', n_m1, c4, o6, a1, a3, a4]
                · have d1 : ¬ m 83 11 = 48 := by rw [t11]; decide
                  have d2 : ¬ m 83 11 = 45 := by rw [t11]; decide
                  have d3 : ¬ ¬ m 83 11 = 40 := fun h => h t11
                  have d4 : ¬ (6 : Int32) ≤ m 83 13 := by rw [h13, show (6 : Int32) = nI 6 from rfl, n_le (by omega) (by omega)]; omega
                  unfold fX9_one
                  rw [if_pos t7', if_pos d1, t11, hlt, Option.bind_some, if_pos n2', ← t11, if_neg d2, if_neg d3, if_neg d4, if_pos d2, Option.bind_some, Option.bind_some, h13, ea, a2, Option.bind_some, if_neg (by decide), a5, Option.bind_some, a6, es]
                  rfl
              · have o6' : 6 ≤ o := by omega
                obtain ⟨c', f1, P⟩ := St.fail (k := k) (bad0 := false) S T h13 0
                refine ⟨0, c', _, q, true, ?_, ?_, P⟩
                · unfold fX2_readOne
                  simp (disch := omega) [n_lit, n_eq, n_lt, n_le, n_mul, n_add, n_cl, grd_t, grd_T, su_c, su_s, su_k, wi_in, n_m1', n_m1, c4, o6, f1]
                · unfold fX9_one
                  simp (disch := omega) [n_lit, n_eq, n_lt, n_le, n_mul, n_add, n_cl, grd_t, grd_T, su_c, su_s, su_k, wi_in, n_m1', n_m1, t7, t11, hlt, n2, h13, o6']
            · obtain ⟨c', f1, P⟩ := St.fail (k := k) (bad0 := false) S T h13 0
              refine ⟨0, c', _, q, true, ?_, ?_, P⟩
              · have d1 : ∃ t, ct b n q (tV b n q) = t ∧ t < 256 ∧ ¬ t = 2 ∧ ¬ t = 3 ∧ ¬ t = 45 ∧ ¬ t = 40 := by
                  refine ⟨_, rfl, ct_le hb t1 _, ?_⟩
                  rw [ec]
                  by_cases u : mkN (b q) = true
                  · rw [if_pos u]
                    unfold mkN at u
                    simp at u
                    omega
                  · rw [if_neg u]; omega
                obtain ⟨t, et, u1, u2, u3, u4, u5⟩ := d1
                rw [et] at c4
                unfold fX2_readOne
                simp (disch := omega) [n_lit, n_eq, n_lt, n_le, n_mul, n_add, n_cl, grd_t, grd_T, su_c, su_s, su_k, wi_in, n_m1', n_m1, c4, u2, u3, u4, u5, f1]
              · unfold fX9_one
                simp (disch := omega) [n_lit, n_eq, n_lt, n_le, n_mul, n_add, n_cl, grd_t, grd_T, su_c, su_s, su_k, wi_in, n_m1', n_m1, t7, t11, hlt, n2, y48, x45, x40]
theorem rdJ : ∀ d o, o ≤ 6 → 7 ≤ d + o → EX b n p R o (rdX2 d (nI o)) (rdX9 d)
  | 0, o, h1, h2 => absurd h2 (by omega)
  | d + 1, o, h1, h2 => oneJ (rc := rdX2 d) (rm := rdX9 d) h1 (fun h => rdJ d (o + 1) (by omega) (by omega))
end ON2
