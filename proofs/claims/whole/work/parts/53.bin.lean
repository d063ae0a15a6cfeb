/-! 53: texts: what codes give; two with a sign between -/
theorem evs_app {R : Nat → Int32} : ∀ (a b : List Nat) (s : List Int32), evs R (a ++ b) s = (evs R a s).bind (evs R b)
  | [], b, s => rfl
  | c :: a, b, s => by
    show (ev1 R s c).bind (evs R (a ++ b)) = ((ev1 R s c).bind (evs R a)).bind (evs R b)
    cases ev1 R s c with
    | none => rfl
    | some t => exact evs_app a b t
def Stt (b : Nat → Nat) (n : Nat) (R : Nat → Int32) (q : Nat) (bad : Bool) (c m : Sto) : Prop := q ≤ n ∧ StM b n q m ∧ (bad = true → c 64 4 = nI 1 ∧ c 64 7 = nI q ∧ m 83 14 = nI 1) ∧ (bad = false → StC b n R q c ∧ c 64 7 = lI 0 ∧ m 83 14 = nI 0)
def Mem (m0 m : Sto) (k0 : Nat) (cs : List Nat) : Prop := (∀ j, j < k0 → m 89 j = m0 89 j) ∧ ∀ j, j < cs.length → m 89 (k0 + j) = nI (cs.getD j 0)
def Prog (b : Nat → Nat) (n p : Nat) (R : Nat → Int32) (o : Nat) (c0 m0 : Sto) (k0 q0 : Nat) (bad0 : Bool) (val : Int32) (c m : Sto) (q : Nat) (bad : Bool) : Prop :=
  Src b n p R c m ∧ Stt b n R q bad c m ∧ Frc c0 c ∧ Frm m0 m ∧ m 83 13 = nI o ∧ (bad = false → bad0 = false ∧ k0 ≤ q0 ∧ ∃ cs, m 83 8 = nI (k0 + cs.length) ∧ q0 + cs.length ≤ q ∧ q0 < q ∧ Mem m0 m k0 cs ∧ okc cs ∧ ∀ s, evs R cs s = some (val :: s))
def EX (b : Nat → Nat) (n p : Nat) (R : Nat → Int32) (o : Nat) (f : Sto → Option (Int32 × Sto)) (g : Sto → Option Sto) : Prop :=
  ∀ c m q bad k, Src b n p R c m → Stt b n R q bad c m → m 83 13 = nI o → (bad = false → m 83 8 = nI k ∧ k ≤ q) → ∃ val c' m' q' bad', f c = some (val, c') ∧ g m = some m' ∧ Prog b n p R o c m k q bad val c' m' q' bad'
theorem gD_app (a b : List Nat) (j : Nat) : (a ++ b).getD j 0 = if j < a.length then a.getD j 0 else b.getD (j - a.length) 0 := by
  rw [List.getD_eq_getElem?_getD, List.getElem?_append]
  split
  · rw [List.getD_eq_getElem?_getD]
  · rw [List.getD_eq_getElem?_getD]
theorem Mem.app {m0 m1 m2 : Sto} {k0 : Nat} {a b : List Nat} (x : Mem m0 m1 k0 a) (y : Mem m1 m2 (k0 + a.length) b) : Mem m0 m2 k0 (a ++ b) := by
  refine ⟨fun j hj => (y.1 j (by omega)).trans (x.1 j hj), fun j hj => ?_⟩
  rw [List.length_append] at hj
  rw [gD_app]
  by_cases z : j < a.length
  · rw [if_pos z, y.1 _ (by omega)]; exact x.2 j z
  · rw [if_neg z]
    have := y.2 (j - a.length) (by omega)
    rw [show k0 + a.length + (j - a.length) = k0 + j by omega] at this
    exact this
theorem okc.app {a b : List Nat} (x : okc a) (y : okc b) : okc (a ++ b) := fun z hz => by
  rcases List.mem_append.mp hz with h | h
  · exact x z h
  · exact y z h
section BIN
variable {b : Nat → Nat} {n p o k0 q0 q : Nat} {R : Nat → Int32} {c0 m0 c m : Sto} {bad0 : Bool} {val : Int32}
theorem putJ {K x : Nat} (h14 : m 83 14 = nI 0) (h8 : m 83 8 = nI K) (hK : K < 80) : fX9_puts (nI x) m = some (su (su m 89 K (nI x)) 83 8 (nI (K + 1))) := by
  unfold fX9_puts
  simp (disch := omega) [n_lit, n_eq, n_lt, n_le, n_mul, n_add, n_cl, grd_t, grd_T, su_c, su_s, su_k, wi_in, n_m1', n_m1, h14, h8, n_in]
theorem putB (x : Int32) (h14 : m 83 14 = nI 1) : fX9_puts x m = some m := by
  unfold fX9_puts
  simp (disch := omega) [n_lit, n_eq, n_lt, n_le, n_mul, n_add, n_cl, grd_t, grd_T, su_c, su_s, su_k, wi_in, n_m1', n_m1, h14]
/-- one more code -/
theorem push_mem {K x : Nat} : Mem m (su (su m 89 K (nI x)) 83 8 (nI (K + 1))) K [x] := by
  refine ⟨fun j hj => ?_, fun j hj => ?_⟩
  · rw [su_c _ _ _ (by omega), su_k _ _ _ (by omega)]
  · have : j = 0 := by have : j < 1 := hj; omega
    subst this
    show su (su m 89 K (nI x)) 83 8 (nI (K + 1)) 89 K = nI x
    rw [su_c _ _ _ (by omega), su_s]
theorem push_fr {K : Nat} {x : Int32} : Frm m (su (su m 89 K x) 83 8 (nI (K + 1))) ∧ ∀ j, j ≠ 8 → su (su m 89 K x) 83 8 (nI (K + 1)) 83 j = m 83 j := by
  refine ⟨⟨fun i h1 h2 => by rw [su_c _ _ _ h1, su_c _ _ _ h2], fun j hj => by rw [su_k _ _ _ (by omega), su_c _ _ _ (by omega)]⟩, fun j hj => by rw [su_k _ _ _ hj, su_c _ _ _ (by omega)]⟩
theorem StM.cg {m' : Sto} (h : StM b n q m) (e : ∀ j, 9 ≤ j → j < 13 → m' 83 j = m 83 j) : StM b n q m' := by
  unfold StM at h ⊢
  rw [e 9 (by omega) (by omega), e 10 (by omega) (by omega), e 11 (by omega) (by omega), e 12 (by omega) (by omega)]
  exact h
theorem FrN.fr {m' : Sto} (h : FrN m m') : Frm m m' := ⟨fun i h1 _ => h.1 i h1, fun j hj => h.2 j (by omega)⟩
/-- a token is taken -/
theorem stepJ (S : Src b n p R c m) (T : Stt b n R q false c m) : ∃ c' m' q', fX2_step c = some c' ∧ fX9_next_ m = some m' ∧ Src b n p R c' m' ∧ Stt b n R q' false c' m' ∧ Frc c c' ∧ FrN m m' ∧ q ≤ q' ∧ (q < n → q < q') := by
  obtain ⟨t1, t2, -, t4⟩ := T
  obtain ⟨t5, t6, t7⟩ := t4 rfl
  obtain ⟨e1, e2, e3⟩ := tE_le (b := b) t1
  obtain ⟨c', a1, a2, a3, a4⟩ := cStep S t5.1 e2
  obtain ⟨m', b1, b2, b3⟩ := mStep S t2.2.1 e2
  obtain ⟨q1, q2⟩ := bq_le (b := b) e2
  refine ⟨c', m', bq b n (tE b n q), a1, b1, S.fr a3 b3.fr, ⟨q2, b2, fun h => absurd h (by decide), fun _ => ⟨a2, a4.trans t6, (b3.2 14 (by omega)).trans t7⟩⟩, a3, b3, by omega, fun h => by have := e3 h; omega⟩
theorem mt_lt {ch : Nat} (hq : q ≤ n) (hch : ch < 256) (h : mt b n q = nI ch) : q < n := by
  rcases Nat.lt_or_ge q n with z | z
  · exact z
  · have : q = n := by omega
    unfold mt at h
    rw [if_pos this, lI_nI (by omega) (by omega)] at h
    omega
theorem binJ {ch : Nat} {f : Sto → Option (Int32 × Sto)} {g : Sto → Option Sto} (P : Prog b n p R o c0 m0 k0 q0 bad0 val c m q false) (hch : m 83 11 = nI ch) (h256 : ch < 256) (E : EX b n p R o f g) :
    ∃ c1 m1 val2 c2 m2 m3 q2 bad2, fX2_step c = some c1 ∧ fX9_next_ m = some m1 ∧ f c1 = some (val2, c2) ∧ g m1 = some m2 ∧ fX9_puts (nI (20000 + ch)) m2 = some m3 ∧ Prog b n p R o c0 m0 k0 q0 bad0 (evj ch val val2) c2 m3 q2 bad2 ∧ (bad2 = false → q < q2) := by
  obtain ⟨S, T, Fc, Fm, h13, L⟩ := P
  obtain ⟨l1, l2, cs, l3, l4, l5, l6, l7, l8⟩ := L rfl
  have hqn : q < n := mt_lt T.1 h256 (T.2.1.2.2.1.symm.trans hch)
  have hn := S.1.1
  obtain ⟨c1, m1, q1, a1, a2, S1, T1, Fc1, Fm1, -, a3⟩ := stepJ S T
  have a3 := a3 hqn
  obtain ⟨val2, c2, m2, q2, bad2, b1, b2, S2, T2, Fc2, Fm2, g13, L2⟩ := E c1 m1 q1 false (k0 + cs.length) S1 T1 ((Fm1.2 13 (by omega)).trans h13) (fun _ => ⟨(Fm1.2 8 (by omega)).trans l3, by omega⟩)
  cases bad2 with
  | true =>
    exact ⟨c1, m1, val2, c2, m2, m2, q2, true, a1, a2, b1, b2, putB _ (T2.2.2.1 rfl).2.2, ⟨S2, T2, Fc.trans (Fc1.trans Fc2), Fm.trans (Fm1.fr.trans Fm2), g13, fun h => absurd h (by decide)⟩, fun h => absurd h (by decide)⟩
  | false =>
    obtain ⟨-, -, cs2, r3, r4, r5, r6, r7, r8⟩ := L2 rfl
    have hK : k0 + cs.length + cs2.length < 80 := by have := T2.1; omega
    have pf := push_fr (m := m2) (K := k0 + cs.length + cs2.length) (x := nI (20000 + ch))
    refine ⟨c1, m1, val2, c2, m2, _, q2, false, a1, a2, b1, b2, putJ (T2.2.2.2 rfl).2.2 r3 hK, ⟨S2.fr (Frc.refl _) pf.1, ⟨T2.1, T2.2.1.cg (fun j h1 h2 => pf.2 j (by omega)), fun h => absurd h (by decide), fun _ => ⟨(T2.2.2.2 rfl).1, (T2.2.2.2 rfl).2.1, (pf.2 14 (by omega)).trans (T2.2.2.2 rfl).2.2⟩⟩, Fc.trans (Fc1.trans Fc2), Fm.trans (Fm1.fr.trans (Fm2.trans pf.1)), (pf.2 13 (by omega)).trans g13, fun _ => ⟨l1, l2, cs ++ (cs2 ++ [20000 + ch]), ?_, ?_, by omega, ?_, ?_, ?_⟩⟩, fun _ => by omega⟩
    · rw [su_s, List.length_append, List.length_append]
      show nI (k0 + cs.length + cs2.length + 1) = nI (k0 + (cs.length + (cs2.length + 1)))
      rw [show k0 + cs.length + cs2.length + 1 = k0 + (cs.length + (cs2.length + 1)) by omega]
    · rw [List.length_append, List.length_append]
      show q0 + (cs.length + (cs2.length + 1)) ≤ q2
      omega
    · have y1 : Mem m m1 (k0 + cs.length) [] := ⟨fun j hj => by rw [Fm1.1 89 (by omega)], fun j hj => absurd hj (Nat.not_lt_zero _)⟩
      have y2 := l6.app (Mem.app (a := []) y1 (Mem.app (a := cs2) r6 (push_mem (x := 20000 + ch))))
      exact y2
    · refine l7.app (r7.app (fun x hx => ?_))
      have : x = 20000 + ch := by simpa using hx
      omega
    · intro s
      rw [evs_app, l8, Option.bind_some, evs_app, r8, Option.bind_some]
      show (ev1 R (val2 :: val :: s) (20000 + ch)).bind (evs R []) = _
      unfold ev1
      rw [if_neg (by omega), if_neg (by omega), if_neg (by omega), show 20000 + ch - 20000 = ch by omega]
      rfl
/-- which mark a token is, on both sides -/
theorem tkC {ch : Nat} (hm : ch = 40 ∨ ch = 41 ∨ ch = 42 ∨ ch = 43 ∨ ch = 45 ∨ ch = 47 ∨ ch = 60 ∨ ch = 61) (hb : ∀ j, j < n → b j < 256) (hq : q ≤ n) : (ct b n q (tV b n q) = ch) ↔ (q < n ∧ b q = ch) := by
  unfold ct
  by_cases z : q = n
  · rw [if_pos z]; omega
  · rw [if_neg z]
    have zl : q < n := by omega
    by_cases y : dgt (b q) = true
    · rw [if_pos y]
      unfold dgt at y
      simp at y
      split <;> omega
    · rw [if_neg y]
      by_cases x : lx (b q) < 8
      · rw [if_pos x]
        have : b q ≠ ch := fun h => by
          rw [h] at x
          rcases hm with h | h | h | h | h | h | h | h <;> rw [h] at x <;> exact absurd x (by decide)
        omega
      · rw [if_neg x]
        by_cases w : mkN (b q) = true
        · rw [if_pos w]; omega
        · rw [if_neg w]
          have : b q ≠ ch := fun h => by
            rw [h] at w
            rcases hm with h | h | h | h | h | h | h | h <;> rw [h] at w <;> exact absurd w (by decide)
          omega
theorem tkM {ch : Nat} (hm : ch = 40 ∨ ch = 41 ∨ ch = 42 ∨ ch = 43 ∨ ch = 45 ∨ ch = 47 ∨ ch = 60 ∨ ch = 61) (hb : ∀ j, j < n → b j < 256) (hq : q ≤ n) : (mt b n q = nI ch) ↔ (q < n ∧ b q = ch) := by
  unfold mt
  by_cases z : q = n
  · rw [if_pos z, lI_nI (by omega) (by omega)]; omega
  · rw [if_neg z]
    have zl : q < n := by omega
    have := hb q zl
    by_cases y : dgt (b q) = true
    · rw [if_pos y, n_eq (by omega) (by omega)]
      unfold dgt at y
      simp at y
      omega
    · rw [if_neg y, n_eq (by omega) (by omega)]; omega
theorem ct_le (hb : ∀ j, j < n → b j < 256) (hq : q ≤ n) (v : Nat) : ct b n q v < 256 := by
  unfold ct
  by_cases z : q = n
  · rw [if_pos z]; omega
  · have := hb q (by omega)
    rw [if_neg z]
    repeat' split
    all_goals omega
/-- the class's and the reference's look at a token -/
theorem tkJ {ch : Nat} (hm : ch = 40 ∨ ch = 41 ∨ ch = 42 ∨ ch = 43 ∨ ch = 45 ∨ ch = 47 ∨ ch = 60 ∨ ch = 61) (S : Src b n p R c m) (T : Stt b n R q false c m) : ((c 64 4 = nI ch) ↔ (q < n ∧ b q = ch)) ∧ ((m 83 11 = nI ch) ↔ (q < n ∧ b q = ch)) := by
  obtain ⟨t1, t2, -, t4⟩ := T
  obtain ⟨t5, t6, t7⟩ := t4 rfl
  have hb := S.1.2.1
  refine ⟨?_, ?_⟩
  · rw [t5.2.2.1, n_eq (by have := ct_le hb t1 (tV b n q); omega) (by omega), tkC hm hb t1]
  · rw [t2.2.2.1, tkM hm hb t1]
theorem sgF (x : Int32) (h : m 83 14 = nI 1) : fX9_isSign x m = some false := by
  unfold fX9_isSign
  simp (disch := omega) [n_lit, n_eq, n_lt, n_le, n_mul, n_add, n_cl, grd_t, grd_T, su_c, su_s, su_k, wi_in, n_m1', n_m1, h]
theorem sgT {ch : Nat} (hm : ch = 42 ∨ ch = 43 ∨ ch = 45 ∨ ch = 47 ∨ ch = 60 ∨ ch = 61) (h : m 83 14 = nI 0) : fX9_isSign (nI ch) m = some (decide (m 83 11 = nI ch)) := by
  unfold fX9_isSign
  have : ¬ ch = 48 := by omega
  by_cases z : m 83 11 = nI ch
  · simp (disch := omega) [n_lit, n_eq, n_lt, n_le, n_mul, n_add, n_cl, grd_t, grd_T, su_c, su_s, su_k, wi_in, n_m1', n_m1, h, z, this]
  · simp (disch := omega) [n_lit, n_eq, n_lt, n_le, n_mul, n_add, n_cl, grd_t, grd_T, su_c, su_s, su_k, wi_in, n_m1', n_m1, h, z, this]
end BIN
