/-! 56: texts: ones -/
theorem lt_m1 (h : Sto) : fX9_letterOf (lI 0) h = some (lI 0) := rfl
section ONE
variable {b : Nat → Nat} {n p o k q q' : Nat} {R : Nat → Int32} {c m c1 m1 c0 m0 : Sto} {bad0 bad : Bool} {val : Int32}
theorem failB (h4 : c 64 4 = nI 1) (h7 : c 64 7 = nI q) (hq : q ≤ 80) : fX2_fail c = some c := by
  unfold fX2_fail
  simp (disch := omega) [n_lit, n_eq, n_lt, n_le, n_mul, n_add, n_cl, grd_t, grd_T, su_c, su_s, su_k, wi_in, n_m1', n_m1, h7]
  exact su_self2 h4
theorem Prog.fail (P : Prog b n p R o c0 m0 k q bad0 val c m q' false) (val2 : Int32) : ∃ c', fX2_fail c = some c' ∧ Prog b n p R o c0 m0 k q bad0 val2 c' (su m 83 14 (nI 1)) q' true := by
  obtain ⟨S, T, Fc, Fm, h13, -⟩ := P
  obtain ⟨t1, t2, -, t4⟩ := T
  obtain ⟨t5, t6, t7⟩ := t4 rfl
  have e0 : ¬ nI 0 ≤ lI 0 := by decide
  have g1 : Frc c (su (su c 64 7 (nI q')) 64 4 (nI 1)) := ⟨fun i hi => by rw [su_c _ _ _ hi, su_c _ _ _ hi], fun j hj => by rw [su_k _ _ _ (by omega), su_k _ _ _ (by omega)]⟩
  have g2 : Frm m (su m 83 14 (nI 1)) := ⟨fun i h1 h2 => su_c _ _ _ h1, fun j hj => su_k _ _ _ (by omega)⟩
  refine ⟨su (su c 64 7 (nI q')) 64 4 (nI 1), ?_, S.fr g1 g2, ⟨t1, t2.cg (fun j h1 h2 => su_k _ _ _ (by omega)), fun _ => ⟨su_s _ _ _ _, by rw [su_k _ _ _ (by omega), su_s], su_s _ _ _ _⟩, fun h => absurd h (by decide)⟩, Fc.trans g1, Fm.trans g2, by rw [su_k _ _ _ (by omega)]; exact h13, fun h => absurd h (by decide)⟩
  unfold fX2_fail
  simp (disch := omega) [n_lit, n_eq, n_lt, n_le, n_mul, n_add, n_cl, grd_t, grd_T, su_c, su_s, su_k, wi_in, n_m1', n_m1, t6, e0, t5.2.1]
theorem Prog.adv (P : Prog b n p R o c0 m0 k q bad0 val c m q' false) : ∃ c' m' q2, fX2_step c = some c' ∧ fX9_next_ m = some m' ∧ Prog b n p R o c0 m0 k q bad0 val c' m' q2 false := by
  obtain ⟨S, T, Fc, Fm, h13, L⟩ := P
  obtain ⟨c1, m1, q1, a1, a2, S1, T1, Fc1, Fm1, a3, -⟩ := stepJ S T
  obtain ⟨l1, l2, cs, l3, l4, l5, l6, l7, l8⟩ := L rfl
  refine ⟨c1, m1, q1, a1, a2, S1, T1, Fc.trans Fc1, Fm.trans Fm1.fr, (Fm1.2 13 (by omega)).trans h13, fun _ => ⟨l1, l2, cs, (Fm1.2 8 (by omega)).trans l3, by omega, by omega, ?_, l7, l8⟩⟩
  unfold Mem at l6 ⊢
  rw [Fm1.1 89 (by omega)]
  exact l6
theorem Prog.dn {o2 : Nat} (P : Prog b n p R o2 c0 m0 k q bad0 val c m q' bad) : Prog b n p R o c0 m0 k q bad0 val c (su m 83 13 (nI o)) q' bad := by
  obtain ⟨S, T, Fc, Fm, h13, L⟩ := P
  have g2 : Frm m (su m 83 13 (nI o)) := ⟨fun i h1 h2 => su_c _ _ _ h1, fun j hj => su_k _ _ _ (by omega)⟩
  refine ⟨S.fr (Frc.refl _) g2, ⟨T.1, T.2.1.cg (fun j h1 h2 => su_k _ _ _ (by omega)), fun h => ?_, fun h => ?_⟩, Fc, Fm.trans g2, su_s _ _ _ _, fun h => ?_⟩
  · rw [su_k _ _ _ (by omega)]; exact T.2.2.1 h
  · rw [su_k _ _ _ (by omega)]; exact T.2.2.2 h
  · obtain ⟨l1, l2, cs, l3, l4, l5, l6, l7, l8⟩ := L h
    refine ⟨l1, l2, cs, by rw [su_k _ _ _ (by omega)]; exact l3, l4, l5, ?_, l7, l8⟩
    unfold Mem at l6 ⊢
    rw [su_c _ _ _ (by omega)]
    exact l6
theorem Prog.base {q1 : Nat} (P : Prog b n p R o c1 m1 k q1 false val c m q' bad) (Fc1 : Frc c0 c1) (Fm1 : Frm m0 m1) (e : m1 89 = m0 89) (hq : q ≤ q1) (hk : k ≤ q) : Prog b n p R o c0 m0 k q false val c m q' bad := by
  obtain ⟨S, T, Fc, Fm, h13, L⟩ := P
  refine ⟨S, T, Fc1.trans Fc, Fm1.trans Fm, h13, fun h => ?_⟩
  obtain ⟨l1, l2, cs, l3, l4, l5, l6, l7, l8⟩ := L h
  refine ⟨l1, hk, cs, l3, by omega, by omega, ?_, l7, l8⟩
  unfold Mem at l6 ⊢
  rw [← e]
  exact l6
/-- nothing was read yet -/
theorem St.fail (S : Src b n p R c m) (T : Stt b n R q false c m) (h13 : m 83 13 = nI o) (val2 : Int32) : ∃ c', fX2_fail c = some c' ∧ Prog b n p R o c m k q bad0 val2 c' (su m 83 14 (nI 1)) q true := by
  obtain ⟨t1, t2, -, t4⟩ := T
  obtain ⟨t5, t6, t7⟩ := t4 rfl
  have e0 : ¬ nI 0 ≤ lI 0 := by decide
  have g1 : Frc c (su (su c 64 7 (nI q)) 64 4 (nI 1)) := ⟨fun i hi => by rw [su_c _ _ _ hi, su_c _ _ _ hi], fun j hj => by rw [su_k _ _ _ (by omega), su_k _ _ _ (by omega)]⟩
  have g2 : Frm m (su m 83 14 (nI 1)) := ⟨fun i h1 h2 => su_c _ _ _ h1, fun j hj => su_k _ _ _ (by omega)⟩
  refine ⟨su (su c 64 7 (nI q)) 64 4 (nI 1), ?_, S.fr g1 g2, ⟨t1, t2.cg (fun j h1 h2 => su_k _ _ _ (by omega)), fun _ => ⟨su_s _ _ _ _, by rw [su_k _ _ _ (by omega), su_s], su_s _ _ _ _⟩, fun h => absurd h (by decide)⟩, g1, g2, by rw [su_k _ _ _ (by omega)]; exact h13, fun h => absurd h (by decide)⟩
  unfold fX2_fail
  simp (disch := omega) [n_lit, n_eq, n_lt, n_le, n_mul, n_add, n_cl, grd_t, grd_T, su_c, su_s, su_k, wi_in, n_m1', n_m1, t6, e0, t5.2.1]
/-- a token that gives a number -/
theorem atomJ {x : Nat} (S : Src b n p R c m) (T : Stt b n R q false c m) (h13 : m 83 13 = nI o) (h8 : m 83 8 = nI k) (hk : k ≤ q) (hq : q < n) (hx : x < 10008) (hv : ∀ s, ev1 R s x = some (val :: s)) :
    ∃ c' m1 m' q', fX2_step c = some c' ∧ fX9_puts (nI x) m = some m1 ∧ m1 83 14 = nI 0 ∧ fX9_next_ m1 = some m' ∧ Prog b n p R o c m k q false val c' m' q' false := by
  have hn := S.1.1
  have t7 := (T.2.2.2 rfl).2.2
  have pf := push_fr (m := m) (K := k) (x := nI x)
  have pm := push_mem (m := m) (K := k) (x := x)
  have ep := putJ (x := x) t7 h8 (by omega)
  have e8 : su (su m 89 k (nI x)) 83 8 (nI (k + 1)) 83 8 = nI (k + 1) := su_s _ _ _ _
  generalize su (su m 89 k (nI x)) 83 8 (nI (k + 1)) = m1 at *
  have S1 := S.fr (Frc.refl _) pf.1
  have T1 : Stt b n R q false c m1 := ⟨T.1, T.2.1.cg (fun j h1 h2 => pf.2 j (by omega)), fun h => absurd h (by decide), fun _ => ⟨(T.2.2.2 rfl).1, (T.2.2.2 rfl).2.1, (pf.2 14 (by omega)).trans t7⟩⟩
  obtain ⟨c2, m2, q2, a1, a2, S2, T2, Fc2, Fm2, -, a3⟩ := stepJ S1 T1
  have a3 := a3 hq
  refine ⟨c2, m1, m2, q2, a1, ep, (pf.2 14 (by omega)).trans t7, a2, S2, T2, Fc2, pf.1.trans Fm2.fr, ?_, fun _ => ⟨rfl, hk, [x], ?_, ?_, by omega, ?_, ?_, ?_⟩⟩
  · rw [Fm2.2 13 (by omega), pf.2 13 (by omega)]; exact h13
  · rw [Fm2.2 8 (by omega)]; exact e8
  · show q + 1 ≤ q2; omega
  · unfold Mem at pm ⊢
    rw [Fm2.1 89 (by omega)]
    exact pm
  · intro z hz
    have : z = x := by simpa using hz
    omega
  · intro s
    show (ev1 R s x).bind (evs R []) = _
    rw [hv s]
    rfl
theorem minusJ {f : Sto → Option (Int32 × Sto)} {g : Sto → Option Sto} (S : Src b n p R c m) (T : Stt b n R q false c m) (h8 : m 83 8 = nI k) (hk : k ≤ q) (hq : q < n) (E : EX b n p R (o + 1) f g) :
    ∃ c1 m1 v c2 m2 m3 q2 bad2, fX2_step c = some c1 ∧ fX9_next_ (su m 83 13 (nI (o + 1))) = some m1 ∧ f c1 = some (v, c2) ∧ g m1 = some m2 ∧ fX9_puts (nI 20256) m2 = some m3 ∧ m3 83 13 = nI (o + 1) ∧ Prog b n p R o c m k q false (-v) c2 (su m3 83 13 (nI o)) q2 bad2 := by
  have hn := S.1.1
  have g2 : Frm m (su m 83 13 (nI (o + 1))) := ⟨fun i h1 h2 => su_c _ _ _ h1, fun j hj => su_k _ _ _ (by omega)⟩
  have e8 : su m 83 13 (nI (o + 1)) 83 8 = nI k := by rw [su_k _ _ _ (by omega)]; exact h8
  have e13 : su m 83 13 (nI (o + 1)) 83 13 = nI (o + 1) := su_s _ _ _ _
  have e89 : su m 83 13 (nI (o + 1)) 89 = m 89 := su_c _ _ _ (by omega)
  have T1 : Stt b n R q false c (su m 83 13 (nI (o + 1))) := ⟨T.1, T.2.1.cg (fun j h1 h2 => su_k _ _ _ (by omega)), fun h => absurd h (by decide), fun h => by rw [su_k _ _ _ (by omega)]; exact T.2.2.2 h⟩
  generalize su m 83 13 (nI (o + 1)) = mo at *
  have S1 := S.fr (Frc.refl _) g2
  obtain ⟨c1, m1, q1, a1, a2, S2, T2, Fc2, Fm2, -, a3⟩ := stepJ S1 T1
  have a3 := a3 hq
  obtain ⟨v, c2, m2, q2, bad2, b1, b2, S3, T3, Fc3, Fm3, b13, L⟩ := E c1 m1 q1 false k S2 T2 ((Fm2.2 13 (by omega)).trans e13) (fun _ => ⟨(Fm2.2 8 (by omega)).trans e8, by omega⟩)
  cases bad2 with
  | true =>
    refine ⟨c1, m1, v, c2, m2, m2, q2, true, a1, a2, b1, b2, putB _ (T3.2.2.1 rfl).2.2, b13, Prog.dn (o2 := o + 1) ⟨S3, T3, Fc2.trans Fc3, g2.trans (Fm2.fr.trans Fm3), b13, fun h => absurd h (by decide)⟩⟩
  | false =>
    obtain ⟨-, -, cs, l3, l4, l5, l6, l7, l8⟩ := L rfl
    have hK : k + cs.length < 80 := by have := T3.1; omega
    have pf := push_fr (m := m2) (K := k + cs.length) (x := nI 20256)
    refine ⟨c1, m1, v, c2, m2, _, q2, false, a1, a2, b1, b2, putJ (T3.2.2.2 rfl).2.2 l3 hK, (pf.2 13 (by omega)).trans b13, Prog.dn (o2 := o + 1) ⟨S3.fr (Frc.refl _) pf.1, ⟨T3.1, T3.2.1.cg (fun j h1 h2 => pf.2 j (by omega)), fun h => absurd h (by decide), fun _ => ⟨(T3.2.2.2 rfl).1, (T3.2.2.2 rfl).2.1, (pf.2 14 (by omega)).trans (T3.2.2.2 rfl).2.2⟩⟩, Fc2.trans Fc3, g2.trans (Fm2.fr.trans (Fm3.trans pf.1)), (pf.2 13 (by omega)).trans b13, fun _ => ⟨rfl, hk, cs ++ [20256], ?_, ?_, by omega, ?_, ?_, ?_⟩⟩⟩
    · rw [su_s, List.length_append]
      rfl
    · rw [List.length_append]
      show q + (cs.length + 1) ≤ q2
      omega
    · have y1 : Mem m m1 k [] := ⟨fun j hj => by rw [Fm2.1 89 (by omega), e89], fun j hj => absurd hj (Nat.not_lt_zero _)⟩
      exact Mem.app (a := []) y1 (Mem.app (a := cs) l6 (push_mem (x := 20256)))
    · refine l7.app (fun x hx => ?_)
      have : x = 20256 := by simpa using hx
      omega
    · intro s
      rw [evs_app, l8, Option.bind_some]
      rfl
end ONE
