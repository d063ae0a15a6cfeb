/-! 58: texts: a whole text is read -/
section TXT
variable {b : Nat → Nat} {n p : Nat} {R : Nat → Int32} {c m : Sto}
theorem ct0 {q : Nat} (hq : q ≤ n) : (ct b n q (tV b n q) = 0) ↔ q = n := by
  unfold ct
  by_cases z : q = n
  · rw [if_pos z]; omega
  · rw [if_neg z]
    constructor
    · intro h
      exfalso
      split at h
      · split at h <;> omega
      · split at h
        · omega
        · split at h
          · rename_i x; unfold mkN at x; simp at x; omega
          · omega
    · intro h; exact absurd h z
theorem mt0 {q : Nat} (hb : ∀ j, j < n → b j < 256) (hq : q ≤ n) : (mt b n q = lI 0) ↔ q = n := by
  unfold mt
  by_cases z : q = n
  · rw [if_pos z]; exact ⟨fun _ => z, fun _ => rfl⟩
  · rw [if_neg z]
    have := hb q (by omega)
    constructor
    · intro h
      exfalso
      split at h
      · exact absurd h (by decide)
      · rw [nI_lI (by omega) (by omega)] at h; omega
    · intro h; exact absurd h z
def mi0 (m : Sto) : Sto := su (su (su (su m 83 10 0) 83 8 0) 83 13 0) 83 14 0
theorem textJ (hn : n ≤ 80) (hb : ∀ j, j < n → b j < 256) (p1 : 0 < p) (p2 : p < 63) (p3 : shp p = (0, 80, [])) (cb : ∀ j, j < n → c p j = nI (b j)) (cR : ∀ k, k < 8 → c 63 k = R k) (mb : ∀ j, j < n → m 88 j = nI (b j)) (m6 : m 83 6 = nI n) :
    ∃ v c' m1 m2 q bad, fX2_read p (nI n) c = some (v, c') ∧ (∀ i, i ≠ 64 → c' i = c i) ∧ c' 64 7 = (if bad = true then nI q else lI 0) ∧ fX9_next_ (mi0 m) = some m1 ∧ fX9_whole (rdX9 8) m1 = some m2 ∧ (if ¬ (m2 83 14) = 0 then (some true) else (if (m2 83 11) = (-1) then (some false) else (some true))) = some bad ∧ Frm m m2 ∧ m2 83 9 = nI q ∧ q ≤ 80 ∧ (bad = false → ∃ cs, m2 83 8 = nI cs.length ∧ cs.length ≤ 80 ∧ (∀ j, j < cs.length → m2 89 j = nI (cs.getD j 0)) ∧ okc cs ∧ evs R cs [] = some [v]) := by
  have hci : ∃ ci, su (su (su (su (su c 64 0 (nI p)) 64 1 (nI n)) 64 2 (nI 63)) 64 3 0) 64 7 (-1) = ci ∧ (∀ i, i ≠ 64 → ci i = c i) ∧ ci 64 0 = nI p ∧ ci 64 1 = nI n ∧ ci 64 2 = nI 63 ∧ ci 64 3 = nI 0 ∧ ci 64 7 = lI 0 := by
    refine ⟨_, rfl, fun i hi => ?_, ?_, ?_, ?_, ?_, ?_⟩
    · simp (disch := omega) [su_c, su_s, su_k]
    · simp (disch := omega) [su_c, su_s, su_k]
    · simp (disch := omega) [su_c, su_s, su_k]
    · simp (disch := omega) [su_c, su_s, su_k]
    · simp (disch := omega) [su_c, su_s, su_k]; rfl
    · simp (disch := omega) [su_c, su_s, su_k]; rfl
  obtain ⟨ci, eci, i1, i2, i3, i4, i5, i6⟩ := hci
  have hmi : (∀ i, i ≠ 83 → mi0 m i = m i) ∧ (∀ j, j < 8 → mi0 m 83 j = m 83 j) ∧ mi0 m 83 10 = nI 0 ∧ mi0 m 83 8 = nI 0 ∧ mi0 m 83 13 = nI 0 ∧ mi0 m 83 14 = nI 0 := by
    unfold mi0
    refine ⟨fun i hi => ?_, fun j hj => ?_, ?_, ?_, ?_, ?_⟩
    · simp (disch := omega) [su_c, su_s, su_k]
    · simp (disch := omega) [su_c, su_s, su_k]
    · simp (disch := omega) [su_c, su_s, su_k]; rfl
    · simp (disch := omega) [su_c, su_s, su_k]; rfl
    · simp (disch := omega) [su_c, su_s, su_k]; rfl
    · simp (disch := omega) [su_c, su_s, su_k]; rfl
  obtain ⟨j1, j2, j3, j4, j5, j6⟩ := hmi
  generalize mi0 m = mi at *
  have S : Src b n p R ci mi := ⟨⟨hn, hb, p1, p2, p3⟩, ⟨fun j hj => by rw [i1 p (by omega)]; exact cb j hj, fun k hk => by rw [i1 63 (by omega)]; exact cR k hk, i2, i3, i4⟩, fun j hj => by rw [j1 88 (by omega)]; exact mb j hj, by rw [j2 6 (by omega)]; exact m6⟩
  obtain ⟨c1, a1, a2, a3, a4⟩ := cStep S i5 (Nat.zero_le _)
  obtain ⟨m1, b1, b2, b3⟩ := mStep S j3 (Nat.zero_le _)
  obtain ⟨q1, q2⟩ := bq_le (b := b) (Nat.zero_le n)
  have T : Stt b n R (bq b n 0) false c1 m1 := ⟨q2, b2, fun h => absurd h (by decide), fun _ => ⟨a2, a4.trans i6, (b3.2 14 (by omega)).trans j6⟩⟩
  have E : EX b n p R 0 (fX2_readText (rdX2 8) (nI 0)) (fX9_whole (rdX9 8)) := wholeJ (sumJ (termJ (rdJ 8 0 (by omega) (by omega))))
  obtain ⟨v, c2, m2, q3, bad, d1, d2, P⟩ := E c1 m1 (bq b n 0) false 0 (S.fr a3 b3.fr) T ((b3.2 13 (by omega)).trans j5) (fun _ => ⟨(b3.2 8 (by omega)).trans j4, Nat.zero_le _⟩)
  obtain ⟨S2, T2, Fc2, Fm2, -, L⟩ := id P
  have hrd : ∀ c3, fX2_take 0 c2 = some c3 → fX2_read p (nI n) c = some (v, c3) := by
    intro c3 h
    have g1 : 0 < p ∧ p < 1000 := ⟨p1, by omega⟩
    have g2 : (0 < 63 ∧ 63 < 1000) := by omega
    have d1' : fX2_readText (rdX2 8) 0 c1 = some (v, c2) := d1
    unfold fX2_read
    rw [grd_t g1, Option.bind_some, Option.bind_some, grd_t g2, Option.bind_some, Option.bind_some, Option.bind_some, eci, a1, Option.bind_some, d1', Option.bind_some, h]
    rfl
  have Fm : Frm m m2 := by
    have x1 : Frm m mi := ⟨fun i h1 _ => j1 i h1, j2⟩
    exact x1.trans (b3.fr.trans Fm2)
  have Fc : ∀ i, i ≠ 64 → c2 i = c i := fun i hi => by rw [Fc2.1 i hi, a3.1 i hi]; exact i1 i hi
  have hq := T2.1
  cases bad with
  | true =>
    obtain ⟨t1, t2, t3⟩ := T2.2.2.1 rfl
    have t3' : ¬ m2 83 14 = 0 := by rw [t3]; decide
    refine ⟨v, c2, m1, m2, q3, true, hrd c2 ?_, Fc, by rw [if_pos rfl]; exact t2, b1, d2, by rw [if_pos t3'], Fm, T2.2.1.1, by omega, fun h => absurd h (by decide)⟩
    have := failB t1 t2 (by omega)
    unfold fX2_take
    simp (disch := omega) [n_lit, n_eq, n_lt, n_le, n_mul, n_add, n_cl, grd_t, grd_T, su_c, su_s, su_k, wi_in, n_m1', n_m1, t1, this]
  | false =>
    obtain ⟨t5, t6, t7⟩ := T2.2.2.2 rfl
    have t7' : ¬ ¬ m2 83 14 = 0 := fun h => h t7
    by_cases z : q3 = n
    · have z1 : c2 64 4 = nI 0 := by rw [t5.2.2.1, (ct0 hq).mpr z]
      have z2 : m2 83 11 = -1 := by rw [T2.2.1.2.2.1]; exact (mt0 hb hq).mpr z
      obtain ⟨c3, m3, q4, f1, -, P3⟩ := P.adv
      refine ⟨v, c3, m1, m2, q3, false, hrd c3 ?_, fun i hi => ?_, ?_, b1, d2, by rw [if_neg t7', if_pos z2], Fm, T2.2.1.1, by omega, fun _ => ?_⟩
      · unfold fX2_take
        simp (disch := omega) [n_lit, n_eq, n_lt, n_le, n_mul, n_add, n_cl, grd_t, grd_T, su_c, su_s, su_k, wi_in, n_m1', n_m1, z1, f1]
      · rw [P3.2.2.1.1 i hi, a3.1 i hi]; exact i1 i hi
      · rw [if_neg (by decide)]; exact (P3.2.1.2.2.2 rfl).2.1
      · obtain ⟨l1, l2, cs, l3, l4, l5, l6, l7, l8⟩ := L rfl
        rw [Nat.zero_add] at l3
        refine ⟨cs, l3, by omega, fun j hj => ?_, l7, l8 []⟩
        have := l6.2 j hj
        rwa [Nat.zero_add] at this
    · have z1 : ¬ c2 64 4 = nI 0 := by
        rw [t5.2.2.1, n_eq (by have := ct_le hb hq (tV b n q3); omega) (by omega)]
        exact fun h => z ((ct0 hq).mp h)
      have z2 : ¬ m2 83 11 = -1 := by rw [T2.2.1.2.2.1]; exact fun h => z ((mt0 hb hq).mp h)
      obtain ⟨c3, f1, P3⟩ := P.fail v
      refine ⟨v, c3, m1, m2, q3, true, hrd c3 ?_, fun i hi => ?_, ?_, b1, d2, by rw [if_neg t7', if_neg z2], Fm, T2.2.1.1, by omega, fun h => absurd h (by decide)⟩
      · unfold fX2_take
        simp (disch := omega) [n_lit, n_eq, n_lt, n_le, n_mul, n_add, n_cl, grd_t, grd_T, su_c, su_s, su_k, wi_in, n_m1', n_m1, z1, f1]
      · rw [P3.2.2.1.1 i hi, a3.1 i hi]; exact i1 i hi
      · rw [if_pos rfl]; exact (P3.2.1.2.2.1 rfl).2.1
theorem cs_ext {x y : List Nat} (hx : okc x) (hy : okc y) (lx : x.length ≤ 80) (ly : y.length ≤ 80) (hl : nI x.length = nI y.length) (h : ∀ j, j < x.length → nI (x.getD j 0) = nI (y.getD j 0)) : x = y := by
  rw [n_eq (by omega) (by omega)] at hl
  refine List.ext_getElem hl (fun i h1 h2 => ?_)
  have e := h i h1
  rw [List.getD_eq_getElem?_getD, List.getD_eq_getElem?_getD, List.getElem?_eq_getElem h1, List.getElem?_eq_getElem h2] at e
  have a1 := hx _ (List.getElem_mem h1)
  have a2 := hy _ (List.getElem_mem h2)
  rw [Option.getD_some, Option.getD_some, n_eq (by omega) (by omega)] at e
  exact e
/-- a text that was read well -/
theorem TxR_new {bb s : Nat → Int32} (hn : n ≤ 80) (hb : ∀ j, j < n → b j < 256) (mb : ∀ j, j < n → m 88 j = nI (b j)) (m6 : m 83 6 = nI n) {m1 m2 : Sto} (e1 : fX9_next_ (mi0 m) = some m1) (e2 : fX9_whole (rdX9 8) m1 = some m2)
    (e3 : (if ¬ (m2 83 14) = 0 then (some true) else (if (m2 83 11) = (-1) then (some false) else (some true))) = some false) (hbb : ∀ j, j < n → bb j = nI (b j)) {L : Nat} (hL : m2 83 8 = nI L) (hL80 : L ≤ 80) (s0 : s 0 = nI L) (ss : ∀ j, j < L → s (1 + j) = m2 89 j) : TxR bb (nI n) s := by
  have key : ∀ (R : Nat → Int32) (h : Sto) (p : Nat), 0 < p → p < 63 → shp p = (0, 80, []) → (∀ j, j < n → h p j = nI (b j)) → (∀ k, k < 8 → h 63 k = R k) → ∃ v H cs, fX2_read p (nI n) h = some (v, H) ∧ (∀ c, c ≠ 64 → H c = h c) ∧ m2 83 8 = nI cs.length ∧ cs.length ≤ 80 ∧ (∀ j, j < cs.length → m2 89 j = nI (cs.getD j 0)) ∧ okc cs ∧ evs R cs [] = some [v] := by
    intro R h p h1 h2 h3 h4 h5
    obtain ⟨v, c', m1', m2', q, bad, g1, g2, g3, g4, g5, g6, g7, g8, g9, g10⟩ := textJ (R := R) (c := h) (m := m) hn hb h1 h2 h3 h4 h5 mb m6
    rw [e1] at g4
    obtain rfl := Option.some.inj g4
    rw [e2] at g5
    obtain rfl := Option.some.inj g5
    rw [e3] at g6
    obtain rfl := Option.some.inj g6
    obtain ⟨cs, f1, f2, f3, f4, f5⟩ := g10 rfl
    exact ⟨v, c', cs, g1, g2, f1, f2, f3, f4, f5⟩
  have h51 : shp 51 = (0, 80, []) := by decide
  obtain ⟨v0, H0, cs, -, -, f1, f2, f3, f4, -⟩ := key (fun _ => 0) (fun c j => if c = 51 then nI (b j) else 0) 51 (by omega) (by omega) h51 (fun j hj => if_pos rfl) (fun k hk => if_neg (by omega))
  have eL : L = cs.length := by
    rw [f1, n_eq (by omega) (by omega)] at hL
    exact hL.symm
  subst eL
  refine ⟨cs, n, rfl, hn, f2, s0, fun j hj => (ss j hj).trans (f3 j hj), f4, fun R => ?_⟩
  obtain ⟨v1, H1, cs1, -, -, k1, k2, k3, k4, k5⟩ := key R (fun c j => if c = 51 then nI (b j) else if c = 63 then R j else 0) 51 (by omega) (by omega) h51 (fun j hj => if_pos rfl) (fun k hk => by rw [if_neg (by omega), if_pos rfl])
  have e1 : cs = cs1 := cs_ext f4 k4 f2 k2 (f1.symm.trans k1) (fun j hj => by
    have w1 := f1.symm.trans k1
    rw [n_eq (by omega) (by omega)] at w1
    exact (f3 j hj).symm.trans (k3 j (by omega)))
  subst e1
  refine ⟨v1, k5, fun h p h1 h2 h3 h4 h5 => ?_⟩
  obtain ⟨v2, H2, cs2, x1, x2, y1, y2, y3, y4, y5⟩ := key R h p h1 h2 h3 (fun j hj => (h4 j hj).trans (hbb j hj)) h5
  have e2 : cs = cs2 := cs_ext f4 y4 f2 y2 (f1.symm.trans y1) (fun j hj => by
    have w1 := f1.symm.trans y1
    rw [n_eq (by omega) (by omega)] at w1
    exact (f3 j hj).symm.trans (y3 j (by omega)))
  subst e2
  rw [k5] at y5
  have : v1 = v2 := by simpa using y5
  subst this
  exact ⟨H2, x1, x2⟩
end TXT
