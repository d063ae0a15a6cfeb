/-! 51: texts: tokens -/
def dgt (x : Nat) : Bool := decide (48 ≤ x) && decide (x ≤ 57)
def lx (x : Nat) : Nat := if x = 119 then 0 else if x = 103 then 1 else if x = 108 then 2 else if x = 104 then 3 else if x = 102 then 4 else if x = 113 then 5 else if x = 116 then 6 else if x = 110 then 7 else 8
def mkN (x : Nat) : Bool := decide (40 ≤ x ∧ x ≤ 43) || (x == 45 || (x == 47 || (x == 60 || x == 61)))
theorem tk_ix : ∀ x, x < 256 → ixOf (((nI x).toUInt32 % 65536).toInt32) = if lx x < 8 then nI (lx x) else lI 0 := by decide +kernel
theorem tk_lt : ∀ x, x < 256 → fX9_letterOf (nI x) (fun _ _ => 0) = some (if lx x < 8 then nI (lx x) else lI 0) := by decide +kernel
theorem tk_mk : ∀ x, x < 256 → fX2_isMark (nI x) (fun _ _ => 0) = some (mkN x) := by decide +kernel
theorem tk_dc : ∀ x, x < 256 → fX2_isDigit (nI x) (fun _ _ => 0) = some (dgt x) := by decide +kernel
theorem tk_dm : ∀ x, x < 256 → fX9_isDigit (nI x) (fun _ _ => 0) = some (dgt x) := by decide +kernel
theorem ltO {x : Nat} (hx : x < 256) (h : Sto) : fX9_letterOf (nI x) h = some (if lx x < 8 then nI (lx x) else lI 0) := tk_lt x hx
theorem mkO {x : Nat} (hx : x < 256) (h : Sto) : fX2_isMark (nI x) h = some (mkN x) := tk_mk x hx
theorem dgC {x : Nat} (hx : x < 256) (h : Sto) : fX2_isDigit (nI x) h = some (dgt x) := tk_dc x hx
theorem dgM {x : Nat} (hx : x < 256) (h : Sto) : fX9_isDigit (nI x) h = some (dgt x) := tk_dm x hx
/-- the first byte from e on that is no blank -/
def bq (b : Nat → Nat) (n e : Nat) : Nat := e + fi (fun i => decide (b (e + i) ≠ 32)) (n - e)
theorem bq_le {b : Nat → Nat} {n e : Nat} (he : e ≤ n) : e ≤ bq b n e ∧ bq b n e ≤ n := by
  have := fi_le (fun i => decide (b (e + i) ≠ 32)) (n - e)
  unfold bq; omega
theorem bq_no {b : Nat → Nat} {n e i : Nat} (hi : i < bq b n e - e) : b (e + i) = 32 := by
  have := fi_no (fun i => decide (b (e + i) ≠ 32)) (n - e) i (by unfold bq at hi; omega)
  simpa using this
theorem bq_at {b : Nat → Nat} {n e : Nat} (he : e ≤ n) (h : bq b n e < n) : ¬ b (bq b n e) = 32 := by
  have := fi_at (fun i => decide (b (e + i) ≠ 32)) (n - e) (by unfold bq at h; omega)
  unfold bq
  simpa using this
/-- behind the digits from q on -/
def dq (b : Nat → Nat) (n q : Nat) : Nat := q + fi (fun i => !dgt (b (q + i))) (n - q)
theorem dq_le {b : Nat → Nat} {n e : Nat} (he : e ≤ n) : e ≤ dq b n e ∧ dq b n e ≤ n := by
  have := fi_le (fun i => !dgt (b (e + i))) (n - e)
  unfold dq; omega
theorem dq_no {b : Nat → Nat} {n e i : Nat} (hi : i < dq b n e - e) : dgt (b (e + i)) = true := by
  have := fi_no (fun i => !dgt (b (e + i))) (n - e) i (by unfold dq at hi; omega)
  simpa using this
theorem dq_at {b : Nat → Nat} {n e : Nat} (he : e ≤ n) (h : dq b n e < n) : dgt (b (dq b n e)) = false := by
  have := fi_at (fun i => !dgt (b (e + i))) (n - e) (by unfold dq at h; omega)
  unfold dq
  simpa using this
def vl (b : Nat → Nat) (q : Nat) : Nat → Nat := fo (fun i a => if 9999 < a then a else 10 * a + b (q + i) - 48) 0
theorem vl_s (b : Nat → Nat) (q i : Nat) : vl b q (i + 1) = if 9999 < vl b q i then vl b q i else 10 * vl b q i + b (q + i) - 48 := rfl
theorem vl_le {b : Nat → Nat} {n q : Nat} : ∀ i, i ≤ dq b n q - q → vl b q i ≤ 99999
  | 0, _ => by show 0 ≤ 99999; omega
  | i + 1, h => by
    have := vl_le (b := b) (n := n) (q := q) i (by omega)
    have hd := dq_no (b := b) (n := n) (e := q) (i := i) (by omega)
    unfold dgt at hd
    simp at hd
    rw [vl_s]
    split <;> omega
/-- class's text and the reference's -/
def Src (b : Nat → Nat) (n p : Nat) (R : Nat → Int32) (c m : Sto) : Prop := (n ≤ 80 ∧ (∀ j, j < n → b j < 256) ∧ 0 < p ∧ p < 63 ∧ shp p = (0, 80, [])) ∧ ((∀ j, j < n → c p j = nI (b j)) ∧ (∀ k, k < 8 → c 63 k = R k) ∧ c 64 0 = nI p ∧ c 64 1 = nI n ∧ c 64 2 = nI 63) ∧ (∀ j, j < n → m 88 j = nI (b j)) ∧ m 83 6 = nI n
def Frc (c c' : Sto) : Prop := (∀ i, i ≠ 64 → c' i = c i) ∧ ∀ j, j < 3 → c' 64 j = c 64 j
def Frm (m m' : Sto) : Prop := (∀ i, i ≠ 83 → i ≠ 89 → m' i = m i) ∧ ∀ j, j < 8 → m' 83 j = m 83 j
theorem Frc.refl (c : Sto) : Frc c c := ⟨fun _ _ => rfl, fun _ _ => rfl⟩
theorem Frm.refl (c : Sto) : Frm c c := ⟨fun _ _ _ => rfl, fun _ _ => rfl⟩
theorem Frc.trans {a b c : Sto} (x : Frc a b) (y : Frc b c) : Frc a c := ⟨fun i hi => (y.1 i hi).trans (x.1 i hi), fun j hj => (y.2 j hj).trans (x.2 j hj)⟩
theorem Frm.trans {a b c : Sto} (x : Frm a b) (y : Frm b c) : Frm a c := ⟨fun i hi h2 => (y.1 i hi h2).trans (x.1 i hi h2), fun j hj => (y.2 j hj).trans (x.2 j hj)⟩
theorem Src.fr {b : Nat → Nat} {n p : Nat} {R : Nat → Int32} {c m c' m' : Sto} (S : Src b n p R c m) (x : Frc c c') (y : Frm m m') : Src b n p R c' m' := by
  obtain ⟨⟨s1, s2, s3, s4, s5⟩, ⟨s6, s7, s8, s9, s10⟩, s11, s12⟩ := S
  refine ⟨⟨s1, s2, s3, s4, s5⟩, ⟨?_, ?_, ?_, ?_, ?_⟩, ?_, ?_⟩
  · intro j hj; rw [x.1 p (by omega)]; exact s6 j hj
  · intro j hj; rw [x.1 63 (by omega)]; exact s7 j hj
  · rw [x.2 0 (by omega)]; exact s8
  · rw [x.2 1 (by omega)]; exact s9
  · rw [x.2 2 (by omega)]; exact s10
  · intro j hj; rw [y.1 88 (by omega) (by omega)]; exact s11 j hj
  · rw [y.2 6 (by omega)]; exact s12
section TOK
variable {b : Nat → Nat} {n p e q : Nat} {R : Nat → Int32} {c m : Sto}
theorem cBlank (S : Src b n p R c m) (h3 : c 64 3 = nI e) (he : e ≤ n) : ∃ H, lp (fun s => fX2_step_b0 s) FUEL c = some H ∧ H 64 3 = nI (bq b n e) ∧ (∀ i, i ≠ 64 → H i = c i) ∧ ∀ j, j ≠ 3 → H 64 j = c 64 j := by
  obtain ⟨⟨s1, s2, s3, s4, s5⟩, ⟨s6, s7, s8, s9, s10⟩, s11, s12⟩ := S
  obtain ⟨q1, q2⟩ := bq_le (b := b) he
  refine lp_I (f := fun s => fX2_step_b0 s) (fun i s => s 64 3 = nI (e + i) ∧ (∀ i, i ≠ 64 → s i = c i) ∧ ∀ j, j ≠ 3 → s 64 j = c 64 j) (fun H => H 64 3 = nI (bq b n e) ∧ (∀ i, i ≠ 64 → H i = c i) ∧ ∀ j, j ≠ 3 → H 64 j = c 64 j) (bq b n e - e) c ⟨h3, fun _ _ => rfl, fun _ _ => rfl⟩ (by omega) ?_ ?_
  · rintro i s hi ⟨a1, a2, a3⟩
    have hb := bq_no hi
    have e0 := a3 0 (by omega)
    have e1 := a3 1 (by omega)
    have ep := a2 p (by omega)
    have e6 := s6 (e + i) (by omega)
    have hi' : ¬ n ≤ e + i := by omega
    refine ⟨su s 64 3 (nI (e + (i + 1))), ?_, ?_, ?_, ?_⟩
    · show fX2_step_b0 s = _
      unfold fX2_step_b0
      simp (disch := omega) [n_lit, n_eq, n_lt, n_le, n_mul, n_add, n_cl, grd_t, grd_T, su_c, su_s, su_k, wi_in, n_m1', n_m1, e0, e1, a1, s8, s9, s5, ep, e6, hb, hi', n_in]
      rfl
    · rw [su_s]
    · intro j hj; rw [su_c _ _ _ hj]; exact a2 j hj
    · intro j hj; rw [su_k _ _ _ hj]; exact a3 j hj
  · rintro s ⟨a1, a2, a3⟩
    rw [show e + (bq b n e - e) = bq b n e by omega] at a1
    refine ⟨s, ?_, a1, a2, a3⟩
    have e0 := a3 0 (by omega)
    have e1 := a3 1 (by omega)
    have ep := a2 p (by omega)
    show fX2_step_b0 s = _
    unfold fX2_step_b0
    by_cases z : bq b n e < n
    · have hb := bq_at he z
      have e6 := s6 _ z
      have h256 := s2 _ z
      have z' : ¬ n ≤ bq b n e := by omega
      simp (disch := omega) [n_lit, n_eq, n_lt, n_le, n_mul, n_add, n_cl, grd_t, grd_T, su_c, su_s, su_k, wi_in, n_m1', n_m1, e0, e1, a1, s8, s9, s5, ep, e6, hb, z', n_in]
    · have z' : n ≤ bq b n e := by omega
      simp (disch := omega) [n_lit, n_eq, n_lt, n_le, n_mul, n_add, n_cl, grd_t, grd_T, su_c, su_s, su_k, wi_in, n_m1', n_m1, e0, e1, a1, s8, s9, z']
theorem mBlank (S : Src b n p R c m) (h3 : m 83 9 = nI e) (he : e ≤ n) : ∃ H, lp (fun s => fX9_next__b8 s) FUEL m = some H ∧ H 83 9 = nI (bq b n e) ∧ (∀ i, i ≠ 83 → H i = m i) ∧ ∀ j, j ≠ 9 → H 83 j = m 83 j := by
  obtain ⟨⟨s1, s2, s3, s4, s5⟩, ⟨s6, s7, s8, s9, s10⟩, s11, s12⟩ := S
  obtain ⟨q1, q2⟩ := bq_le (b := b) he
  refine lp_I (f := fun s => fX9_next__b8 s) (fun i s => s 83 9 = nI (e + i) ∧ (∀ i, i ≠ 83 → s i = m i) ∧ ∀ j, j ≠ 9 → s 83 j = m 83 j) (fun H => H 83 9 = nI (bq b n e) ∧ (∀ i, i ≠ 83 → H i = m i) ∧ ∀ j, j ≠ 9 → H 83 j = m 83 j) (bq b n e - e) m ⟨h3, fun _ _ => rfl, fun _ _ => rfl⟩ (by omega) ?_ ?_
  · rintro i s hi ⟨a1, a2, a3⟩
    have hb := bq_no hi
    have e1 := a3 6 (by omega)
    have ep := a2 88 (by omega)
    have e6 := s11 (e + i) (by omega)
    have hi' : ¬ n ≤ e + i := by omega
    refine ⟨su s 83 9 (nI (e + (i + 1))), ?_, ?_, ?_, ?_⟩
    · show fX9_next__b8 s = _
      unfold fX9_next__b8
      simp (disch := omega) [n_lit, n_eq, n_lt, n_le, n_mul, n_add, n_cl, grd_t, grd_T, su_c, su_s, su_k, wi_in, n_m1', n_m1, e1, a1, s12, ep, e6, hb, hi', n_in]
      rfl
    · rw [su_s]
    · intro j hj; rw [su_c _ _ _ hj]; exact a2 j hj
    · intro j hj; rw [su_k _ _ _ hj]; exact a3 j hj
  · rintro s ⟨a1, a2, a3⟩
    rw [show e + (bq b n e - e) = bq b n e by omega] at a1
    refine ⟨s, ?_, a1, a2, a3⟩
    have e1 := a3 6 (by omega)
    have ep := a2 88 (by omega)
    show fX9_next__b8 s = _
    unfold fX9_next__b8
    by_cases z : bq b n e < n
    · have hb := bq_at he z
      have e6 := s11 _ z
      have h256 := s2 _ z
      have z' : ¬ n ≤ bq b n e := by omega
      simp (disch := omega) [n_lit, n_eq, n_lt, n_le, n_mul, n_add, n_cl, grd_t, grd_T, su_c, su_s, su_k, wi_in, n_m1', n_m1, e1, a1, s12, ep, e6, hb, z', n_in]
    · have z' : n ≤ bq b n e := by omega
      simp (disch := omega) [n_lit, n_eq, n_lt, n_le, n_mul, n_add, n_cl, grd_t, grd_T, su_c, su_s, su_k, wi_in, n_m1', n_m1, e1, a1, s12, z']
theorem cNum (S : Src b n p R c m) (h3 : c 64 3 = nI q) (he : q ≤ n) : ∃ H, lp (fun s => fX2_stepNumber_b2 s.1 s.2) FUEL (nI 0, c) = some (nI (min (vl b q (dq b n q - q)) 10000), H) ∧ H 64 3 = nI (dq b n q) ∧ (∀ i, i ≠ 64 → H i = c i) ∧ ∀ j, j ≠ 3 → H 64 j = c 64 j := by
  obtain ⟨⟨s1, s2, s3, s4, s5⟩, ⟨s6, s7, s8, s9, s10⟩, s11, s12⟩ := S
  obtain ⟨q1, q2⟩ := dq_le (b := b) he
  have key : ∃ x : Int32 × Sto, lp (fun s => fX2_stepNumber_b2 s.1 s.2) FUEL (nI 0, c) = some x ∧ (x.1 = nI (min (vl b q (dq b n q - q)) 10000) ∧ x.2 64 3 = nI (dq b n q) ∧ (∀ i, i ≠ 64 → x.2 i = c i) ∧ ∀ j, j ≠ 3 → x.2 64 j = c 64 j) := by
    refine lp_I (f := fun s : Int32 × Sto => fX2_stepNumber_b2 s.1 s.2) (fun i s => s.1 = nI (min (vl b q i) 10000) ∧ s.2 64 3 = nI (q + i) ∧ (∀ i, i ≠ 64 → s.2 i = c i) ∧ ∀ j, j ≠ 3 → s.2 64 j = c 64 j) (fun H => H.1 = nI (min (vl b q (dq b n q - q)) 10000) ∧ H.2 64 3 = nI (dq b n q) ∧ (∀ i, i ≠ 64 → H.2 i = c i) ∧ ∀ j, j ≠ 3 → H.2 64 j = c 64 j) (dq b n q - q) (nI 0, c) ⟨rfl, h3, fun _ _ => rfl, fun _ _ => rfl⟩ (by omega) ?_ ?_
    · rintro i ⟨w, s⟩ hi ⟨rfl, a1, a2, a3⟩
      dsimp only at *
      have hd := dq_no hi
      have hv := vl_le (b := b) (n := n) (q := q) i (by omega)
      have e0 := a3 0 (by omega)
      have e1 := a3 1 (by omega)
      have ep := a2 p (by omega)
      have e6 := s6 (q + i) (by omega)
      have h256 := s2 (q + i) (by omega)
      have hi' : ¬ n ≤ q + i := by omega
      have hd2 := hd
      unfold dgt at hd2
      simp at hd2
      refine ⟨(nI (min (vl b q (i + 1)) 10000), su s 64 3 (nI (q + (i + 1)))), ?_, rfl, ?_, ?_, ?_⟩
      · show fX2_stepNumber_b2 (nI (min (vl b q i) 10000)) s = _
        have em : min (min (vl b q i) 10000 * 10 + b (q + i) - 48) 10000 = min (vl b q (i + 1)) 10000 := by
          rw [vl_s]
          split <;> omega
        unfold fX2_stepNumber_b2
        simp (disch := omega) [n_lit, n_eq, n_lt, n_le, n_mul, n_add, n_cl, grd_t, grd_T, su_c, su_s, su_k, wi_in, n_m1', n_m1, e0, e1, a1, s8, s9, s5, ep, e6, hi', n_in, dgC h256, hd, n_sub, j_min, em]
        rfl
      · exact su_s s 64 3 (nI (q + (i + 1)))
      · intro j hj; exact (su_c _ _ _ hj).trans (a2 j hj)
      · intro j hj; exact (su_k _ _ _ hj).trans (a3 j hj)
    · rintro ⟨w, s⟩ ⟨rfl, a1, a2, a3⟩
      dsimp only at *
      rw [show q + (dq b n q - q) = dq b n q by omega] at a1
      refine ⟨(nI (min (vl b q (dq b n q - q)) 10000), s), ?_, rfl, a1, a2, a3⟩
      have e0 := a3 0 (by omega)
      have e1 := a3 1 (by omega)
      have ep := a2 p (by omega)
      show fX2_stepNumber_b2 (nI (min (vl b q (dq b n q - q)) 10000)) s = _
      unfold fX2_stepNumber_b2
      by_cases z : dq b n q < n
      · have hb := dq_at he z
        have e6 := s6 _ z
        have h256 := s2 _ z
        have z' : ¬ n ≤ dq b n q := by omega
        simp (disch := omega) [n_lit, n_eq, n_lt, n_le, n_mul, n_add, n_cl, grd_t, grd_T, su_c, su_s, su_k, wi_in, n_m1', n_m1, e0, e1, a1, s8, s9, s5, ep, e6, hb, z', n_in, dgC h256]
      · have z' : n ≤ dq b n q := by omega
        simp (disch := omega) [n_lit, n_eq, n_lt, n_le, n_mul, n_add, n_cl, grd_t, grd_T, su_c, su_s, su_k, wi_in, n_m1', n_m1, e0, e1, a1, s8, s9, z']
  obtain ⟨⟨w, H⟩, e1, rfl, e3⟩ := key
  exact ⟨H, e1, e3⟩
theorem mNum (S : Src b n p R c m) (h10 : m 83 10 = nI q) (h11 : m 83 11 = nI 48) (h12 : m 83 12 = nI 0) (he : q ≤ n) : ∃ H, lp (fun s => fX9_next__b128 s) FUEL m = some H ∧ H 83 10 = nI (dq b n q) ∧ H 83 12 = nI (vl b q (dq b n q - q)) ∧ (∀ i, i ≠ 83 → H i = m i) ∧ ∀ j, j ≠ 10 → j ≠ 12 → H 83 j = m 83 j := by
  obtain ⟨⟨s1, s2, s3, s4, s5⟩, ⟨s6, s7, s8, s9, s10⟩, s11, s12⟩ := S
  obtain ⟨q1, q2⟩ := dq_le (b := b) he
  refine lp_I (f := fun s : Sto => fX9_next__b128 s) (fun i s => s 83 10 = nI (q + i) ∧ s 83 12 = nI (vl b q i) ∧ (∀ i, i ≠ 83 → s i = m i) ∧ ∀ j, j ≠ 10 → j ≠ 12 → s 83 j = m 83 j) (fun H => H 83 10 = nI (dq b n q) ∧ H 83 12 = nI (vl b q (dq b n q - q)) ∧ (∀ i, i ≠ 83 → H i = m i) ∧ ∀ j, j ≠ 10 → j ≠ 12 → H 83 j = m 83 j) (dq b n q - q) m ⟨h10, h12, fun _ _ => rfl, fun _ _ _ => rfl⟩ (by omega) ?_ ?_
  · rintro i s hi ⟨a1, a4, a2, a3⟩
    have hd := dq_no hi
    have hv := vl_le (b := b) (n := n) (q := q) i (by omega)
    have e1 := a3 6 (by omega) (by omega)
    have e11 := a3 11 (by omega) (by omega)
    have ep := a2 88 (by omega)
    have e6 := s11 (q + i) (by omega)
    have h256 := s2 (q + i) (by omega)
    have hi' : ¬ n ≤ q + i := by omega
    have hd2 := hd
    unfold dgt at hd2
    simp at hd2
    refine ⟨su (su s 83 12 (nI (vl b q (i + 1)))) 83 10 (nI (q + (i + 1))), ?_, ?_, ?_, ?_, ?_⟩
    · show fX9_next__b128 s = _
      rw [vl_s]
      unfold fX9_next__b128
      by_cases y : 9999 < vl b q i
      · have y' : ¬ vl b q i ≤ 9999 := by omega
        simp (disch := omega) [n_lit, n_eq, n_lt, n_le, n_mul, n_add, n_cl, grd_t, grd_T, su_c, su_s, su_k, wi_in, n_m1', n_m1, e1, e11, h11, a1, a4, s12, ep, e6, hi', n_in, dgM h256, hd, y, y']
        rfl
      · have y' : vl b q i ≤ 9999 := by omega
        simp (disch := omega) [n_lit, n_eq, n_lt, n_le, n_mul, n_add, n_cl, grd_t, grd_T, su_c, su_s, su_k, wi_in, n_m1', n_m1, e1, e11, h11, a1, a4, s12, ep, e6, hi', n_in, dgM h256, hd, y, y', n_sub]
        rfl
    · rw [su_s]
    · rw [su_k _ _ _ (by omega), su_s]
    · intro j hj; rw [su_c _ _ _ hj, su_c _ _ _ hj]; exact a2 j hj
    · intro j hj hj2; rw [su_k _ _ _ hj, su_k _ _ _ hj2]; exact a3 j hj hj2
  · rintro s ⟨a1, a4, a2, a3⟩
    rw [show q + (dq b n q - q) = dq b n q by omega] at a1
    refine ⟨s, ?_, a1, a4, a2, a3⟩
    have e1 := a3 6 (by omega) (by omega)
    have e11 := a3 11 (by omega) (by omega)
    have ep := a2 88 (by omega)
    show fX9_next__b128 s = _
    unfold fX9_next__b128
    by_cases z : dq b n q < n
    · have hb := dq_at he z
      have e6 := s11 _ z
      have h256 := s2 _ z
      have z' : ¬ n ≤ dq b n q := by omega
      simp (disch := omega) [n_lit, n_eq, n_lt, n_le, n_mul, n_add, n_cl, grd_t, grd_T, su_c, su_s, su_k, wi_in, n_m1', n_m1, e1, e11, h11, a1, s12, ep, e6, hb, z', n_in, dgM h256]
    · have z' : n ≤ dq b n q := by omega
      simp (disch := omega) [n_lit, n_eq, n_lt, n_le, n_mul, n_add, n_cl, grd_t, grd_T, su_c, su_s, su_k, wi_in, n_m1', n_m1, e1, e11, h11, a1, s12, z']
end TOK
