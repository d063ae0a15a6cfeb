/-! 43: copy -/
theorem arg_nn {x : Int32} (h : ¬ x < 0) : ∃ k, k < 2147483648 ∧ x = nI k := by
  have h0 : nI 0 ≤ x := Int32.not_lt.mp h
  have h1 : x ≤ nI 2147483647 := by
    rw [x_le (by omega)]
    have := Int32.toInt_lt x
    omega
  obtain ⟨k, e, -, hk⟩ := arg_in (by omega) (by omega) ⟨h0, h1⟩
  exact ⟨k, by omega, e⟩
def InR (n : Nat) (p q : Int32) : Prop := ∃ b e, p = nI b ∧ q = nI e ∧ b + e ≤ n
theorem cRan {s n : Nat} {h : Sto} (hs : s < 4) (hn : n ≤ 40) (A : h (53 + s) 1 = nI n) (p q : Int32) : (InR n p q ∧ fX4_hasRange s p q h = some true) ∨ (¬ InR n p q ∧ fX4_hasRange s p q h = some false) := by
  unfold fX4_hasRange
  rw [grd_t hs, A]
  by_cases z1 : q < 0
  · refine Or.inr ⟨?_, by rw [if_pos z1]⟩
    rintro ⟨b, e, rfl, rfl, h1⟩
    have : nI e < nI 0 := z1
    rw [n_lt (by omega) (by omega)] at this
    omega
  · obtain ⟨e, he, rfl⟩ := arg_nn z1
    rw [if_neg z1]
    by_cases z2 : n < e
    · refine Or.inr ⟨?_, by rw [if_pos (by rw [n_lt (by omega) (by omega)]; exact z2)]⟩
      rintro ⟨b, e', rfl, h0, h1⟩
      rw [n_eq (by omega) (by omega)] at h0
      omega
    · rw [if_neg (by rw [n_lt (by omega) (by omega)]; exact z2), n_sub (by omega), wi_in]
      by_cases z3 : (0 : Int32) ≤ p ∧ p ≤ nI (n - e)
      · refine Or.inl ⟨?_, by simp [z3]⟩
        obtain ⟨b, rfl, -, hb⟩ := arg_in (a := 0) (by omega) (by omega) z3
        exact ⟨b, e, rfl, rfl, by omega⟩
      · refine Or.inr ⟨?_, ?_⟩
        · rintro ⟨b, e', rfl, h0, h1⟩
          rw [n_eq (by omega) (by omega)] at h0
          refine z3 ⟨?_, ?_⟩
          · rw [show (0 : Int32) = nI 0 from rfl, n_le (by omega) (by omega)]; omega
          · rw [n_le (by omega) (by omega)]; omega
        · rw [decide_eq_false z3]
          rfl
theorem sub_lt {n k e : Nat} (hn : n < 2147483648) (hk : k < 2147483648) (he : e < 2147483648) : (nI n - nI k < nI e) ↔ n < k + e := by
  rw [Int32.lt_iff_toInt_lt, Int32.toInt_sub, n_toInt hn, n_toInt hk, n_toInt he, Int.bmod_eq_of_le (by omega) (by omega)]
  omega
theorem mRan {n m : Nat} (hn : n ≤ 40) (hm : m ≤ 40) (b d e : Int32) : (InR n b e ∧ InR m d e) ↔ (¬ e < 0 ∧ ¬ b < 0 ∧ ¬ d < 0 ∧ ¬ nI n - b < e ∧ e ≤ nI m - d) := by
  constructor
  · rintro ⟨⟨i, j, rfl, rfl, h1⟩, ⟨k, l, rfl, h3, h4⟩⟩
    have hk : l = j := by
      have : nI j = nI l := h3
      by_cases q : l < 2147483648
      · rw [n_eq (by omega) (by omega)] at this; omega
      · omega
    refine ⟨?_, ?_, ?_, ?_, ?_⟩
    · rw [show (0 : Int32) = nI 0 from rfl, n_lt (by omega) (by omega)]; omega
    · rw [show (0 : Int32) = nI 0 from rfl, n_lt (by omega) (by omega)]; omega
    · rw [show (0 : Int32) = nI 0 from rfl, n_lt (by omega) (by omega)]; omega
    · rw [sub_lt (by omega) (by omega) (by omega)]; omega
    · rw [n_sub (by omega), n_le (by omega) (by omega)]; omega
  · rintro ⟨h1, h2, h3, h4, h5⟩
    obtain ⟨e, he, rfl⟩ := arg_nn h1
    obtain ⟨b, hb, rfl⟩ := arg_nn h2
    obtain ⟨d, hd, rfl⟩ := arg_nn h3
    rw [sub_lt (by omega) (by omega) (by omega)] at h4
    have h6 : ¬ nI m - nI d < nI e := Int32.not_lt.mpr h5
    rw [sub_lt (by omega) (by omega) (by omega)] at h6
    exact ⟨⟨b, e, rfl, rfl, by omega⟩, ⟨d, e, rfl, rfl, by omega⟩⟩
theorem sr_su {h : Sto} {c k : Nat} {v : Int32} {f g : Nat → Int32} (e : ∀ j, g j = if j = k then v else f j) : su (sr h c f) c k v = sr h c g := by
  funext x y
  by_cases q : x = c
  · subst q
    rw [sr_s, e]
    by_cases z : y = k
    · subst z; rw [su_s]; simp
    · rw [su_k _ _ _ z, sr_s]; simp [z]
  · rw [su_c _ _ _ q, sr_c _ _ q, sr_c _ _ q]
theorem sr_id (h : Sto) {c : Nat} {f : Nat → Int32} (e : ∀ j, f j = h c j) : sr h c f = h := by
  funext x y
  by_cases q : x = c
  · subst q; rw [sr_s]; exact e y
  · rw [sr_c _ _ q]
theorem mCpF {s t b d e : Nat} (hs : s < 4) (ht : t < 4) (hb : b + e ≤ 40) (hd : d + e ≤ 40) (q : 40 * t + d ≤ 40 * s + b ∨ 40 * s + b + e ≤ 40 * t + d) (h : Sto) : lp (fun r => fX9_copy_b139 (nI s) (nI b) (nI t) (nI d) (nI e) false r.1 r.2) FUEL (nI 0, h) = some (sr h 95 (va_cpy (h 95) (h 95) (40 * s + b) (40 * t + d) e)) := by
  refine lp_F (g := fun i => (nI i, sr h 95 (va_cpy (h 95) (h 95) (40 * s + b) (40 * t + d) i))) e _ ?_ (by omega) ?_ ?_
  · rw [sr_id]
    intro j
    unfold va_cpy
    rw [if_neg (by omega)]
  · intro i hi
    have z : ¬ e ≤ i := by omega
    show fX9_copy_b139 (nI s) (nI b) (nI t) (nI d) (nI e) false (nI i) (sr h 95 (va_cpy (h 95) (h 95) (40 * s + b) (40 * t + d) i)) = _
    have hr : sr h 95 (va_cpy (h 95) (h 95) (40 * s + b) (40 * t + d) i) 95 (40 * s + b + i) = h 95 (40 * s + b + i) := by
      rw [sr_s]
      unfold va_cpy
      rw [if_neg (by omega)]
    have hw : su (sr h 95 (va_cpy (h 95) (h 95) (40 * s + b) (40 * t + d) i)) 95 (40 * t + d + i) (h 95 (40 * s + b + i)) = sr h 95 (va_cpy (h 95) (h 95) (40 * s + b) (40 * t + d) (i + 1)) := by
      refine sr_su (fun j => ?_)
      unfold va_cpy
      by_cases y : j = 40 * t + d + i
      · rw [if_pos (by omega), if_pos y, y, show 40 * s + b + (40 * t + d + i - (40 * t + d)) = 40 * s + b + i by omega]
      · rw [if_neg y]
        by_cases y2 : 40 * t + d ≤ j ∧ j < 40 * t + d + i
        · rw [if_pos (by omega), if_pos y2]
        · rw [if_neg (by omega), if_neg y2]
    unfold fX9_copy_b139
    simp (disch := omega) [n_lit, n_eq, n_lt, n_le, n_mul, n_add, n_cl, grd_t, grd_T, su_c, su_s, su_k, wi_in, n_m1', n_m1, z, hr, hw]
  · show fX9_copy_b139 (nI s) (nI b) (nI t) (nI d) (nI e) false (nI e) (sr h 95 (va_cpy (h 95) (h 95) (40 * s + b) (40 * t + d) e)) = _
    unfold fX9_copy_b139
    simp (disch := omega) [n_lit, n_eq, n_lt, n_le, n_mul, n_add, n_cl, grd_t, grd_T, su_c, su_s, su_k, wi_in, n_m1', n_m1]
theorem mCpB {s t b d e : Nat} (hs : s < 4) (ht : t < 4) (hb : b + e ≤ 40) (hd : d + e ≤ 40) (q : 40 * s + b < 40 * t + d) (h : Sto) : lp (fun r => fX9_copy_b139 (nI s) (nI b) (nI t) (nI d) (nI e) true r.1 r.2) FUEL (nI 0, h) = some (sr h 95 (va_cpy (h 95) (h 95) (40 * s + b) (40 * t + d) e)) := by
  refine lp_F (g := fun i => (nI i, sr h 95 (va_cpy (h 95) (h 95) (40 * s + b + (e - i)) (40 * t + d + (e - i)) i))) e _ ?_ (by omega) ?_ ?_
  · rw [sr_id]
    intro j
    unfold va_cpy
    rw [if_neg (by omega)]
  · intro i hi
    have z : ¬ e ≤ i := by omega
    show fX9_copy_b139 (nI s) (nI b) (nI t) (nI d) (nI e) true (nI i) (sr h 95 (va_cpy (h 95) (h 95) (40 * s + b + (e - i)) (40 * t + d + (e - i)) i)) = _
    have hr : sr h 95 (va_cpy (h 95) (h 95) (40 * s + b + (e - i)) (40 * t + d + (e - i)) i) 95 (40 * s + b + (e - 1 - i)) = h 95 (40 * s + b + (e - 1 - i)) := by
      rw [sr_s]
      unfold va_cpy
      rw [if_neg (by omega)]
    have hw : su (sr h 95 (va_cpy (h 95) (h 95) (40 * s + b + (e - i)) (40 * t + d + (e - i)) i)) 95 (40 * t + d + (e - 1 - i)) (h 95 (40 * s + b + (e - 1 - i))) = sr h 95 (va_cpy (h 95) (h 95) (40 * s + b + (e - (i + 1))) (40 * t + d + (e - (i + 1))) (i + 1)) := by
      refine sr_su (fun j => ?_)
      unfold va_cpy
      by_cases y : j = 40 * t + d + (e - 1 - i)
      · rw [if_pos (by omega), if_pos y, y]
        congr 1
        omega
      · rw [if_neg y]
        by_cases y2 : 40 * t + d + (e - i) ≤ j ∧ j < 40 * t + d + (e - i) + i
        · rw [if_pos (by omega), if_pos y2]
          congr 1
          omega
        · rw [if_neg (by omega), if_neg y2]
    have e1 : nI e - nI 1 = nI (e - 1) := n_sub (by omega)
    have e2 : nI (e - 1) - nI i = nI (e - 1 - i) := n_sub (by omega)
    have e3 : lI e = nI (e - 1) := e1
    unfold fX9_copy_b139
    simp (disch := omega) [n_lit, n_eq, n_lt, n_le, n_mul, n_add, n_cl, grd_t, grd_T, su_c, su_s, su_k, wi_in, n_m1', n_m1, z, hr, hw, e2, e3]
  · show fX9_copy_b139 (nI s) (nI b) (nI t) (nI d) (nI e) true (nI e) (sr h 95 (va_cpy (h 95) (h 95) (40 * s + b + (e - e)) (40 * t + d + (e - e)) e)) = _
    rw [show e - e = 0 by omega, Nat.add_zero, Nat.add_zero]
    unfold fX9_copy_b139
    simp (disch := omega) [n_lit, n_eq, n_lt, n_le, n_mul, n_add, n_cl, grd_t, grd_T, su_c, su_s, su_k, wi_in, n_m1', n_m1]
theorem st_copy (a b c d e : Int32) (h : Sto) (I : Inv h) : Agr (fX8_copy a b c d e) (fX9_copy a b c d e) h := by
  by_cases h1 : nI 0 ≤ a ∧ a ≤ nI 3
  · by_cases h2 : nI 0 ≤ c ∧ c ≤ nI 3
    · obtain ⟨s, rfl, -, hs⟩ := arg_in (by omega) (by omega) h1
      obtain ⟨t, rfl, -, ht⟩ := arg_in (by omega) (by omega) h2
      have hs4 : s < 4 := by omega
      have ht4 : t < 4 := by omega
      obtain ⟨n, A1, A2, A3, A4, A5, A6, A7⟩ := I.2.2.2.2.1 s hs4
      obtain ⟨m, B1, B2, B3, B4, B5, B6, B7⟩ := I.2.2.2.2.1 t ht4
      by_cases z0 : h 93 s = nI 0
      · refine ag_f5 I ?_ ?_
        · unfold fX8_copy
          rw [cSh, cSh, decide_eq_true h1, decide_eq_true h2]
          simp (disch := omega) [n_lit, n_eq, n_lt, n_le, n_mul, n_add, n_cl, grd_t, grd_T, su_c, su_s, su_k, wi_in, n_m1', n_m1, cMis, A4, z0]
        · intro h1' e
          subst e
          unfold fX9_copy
          rw [mSh, mSh, decide_eq_true h1, decide_eq_true h2]
          simp (disch := omega) [n_lit, n_eq, n_lt, n_le, n_mul, n_add, n_cl, grd_t, grd_T, su_c, su_s, su_k, wi_in, n_m1', n_m1, z0]
      · by_cases y0 : h 93 t = nI 0
        · refine ag_f5 I ?_ ?_
          · unfold fX8_copy
            rw [cSh, cSh, decide_eq_true h1, decide_eq_true h2]
            simp (disch := omega) [n_lit, n_eq, n_lt, n_le, n_mul, n_add, n_cl, grd_t, grd_T, su_c, su_s, su_k, wi_in, n_m1', n_m1, cMis, A4, B4, z0, y0]
          · intro h1' e
            subst e
            unfold fX9_copy
            rw [mSh, mSh, decide_eq_true h1, decide_eq_true h2]
            simp (disch := omega) [n_lit, n_eq, n_lt, n_le, n_mul, n_add, n_cl, grd_t, grd_T, su_c, su_s, su_k, wi_in, n_m1', n_m1, z0, y0]
        · by_cases x0 : h 93 s = h 93 t
          · have z0' : ¬ h 93 t = nI 0 := y0
            have hc : fX8_copy (nI s) b (nI t) d e h = ((fX4_hasRange s b e h).bind fun q_20 => if q_20 = true then ((fX4_hasRange t d e h).bind fun q_23 => if q_23 = true then (grd ((¬ (b : Int32) < 0 ∧ ¬ (d : Int32) < 0 ∧ ¬ (e : Int32) < 0) ∧ (Int32.toNatClampNeg b) + (Int32.toNatClampNeg e) ≤ 40 ∧ (Int32.toNatClampNeg d) + (Int32.toNatClampNeg e) ≤ 40) <| (some (sr h (57 + t) (va_cpy (h (57 + s)) (h (57 + t)) (Int32.toNatClampNeg b) (Int32.toNatClampNeg d) (Int32.toNatClampNeg e)))).bind fun h_27 => some (e, h_27)) else ((fX8_tellFinding (-1000001) h).bind fun q_28 => some (q_28.1, q_28.2))) else ((fX8_tellFinding (-1000001) h).bind fun q_30 => some (q_30.1, q_30.2))) := by
              unfold fX8_copy
              rw [cSh, cSh, decide_eq_true h1, decide_eq_true h2]
              simp (disch := omega) [n_lit, n_eq, n_lt, n_le, n_mul, n_add, n_cl, grd_t, grd_T, su_c, su_s, su_k, wi_in, n_m1', n_m1, cMis, A4, B4, x0, y0]
            have hm : ∀ h', h' 93 = h 93 → h' 94 = h 94 → fX9_copy (nI s) b (nI t) d e h' = if e < 0 then ((fX9_finds (-1000001) h').bind fun q_17 => some (q_17.1, q_17.2)) else (if b < 0 then ((fX9_finds (-1000001) h').bind fun q_20 => some (q_20.1, q_20.2)) else (if d < 0 then ((fX9_finds (-1000001) h').bind fun q_23 => some (q_23.1, q_23.2)) else (if (nI n - b) < e then ((fX9_finds (-1000001) h').bind fun q_27 => some (q_27.1, q_27.2)) else (if e ≤ (nI m - d) then ((if ¬ nI s = nI t then (some false) else (if d ≤ b then (some false) else (some true))).bind fun q_31 => (lp (fun r => fX9_copy_b139 (nI s) b (nI t) d e q_31 r.1 r.2) FUEL (0, h')).bind fun v_50 => some (e, v_50)) else ((fX9_finds (-1000001) h').bind fun q_59 => some (q_59.1, q_59.2)))))) := by
              intro h' e93 e94
              unfold fX9_copy
              rw [mSh, mSh, decide_eq_true h1, decide_eq_true h2]
              simp (disch := omega) [n_lit, n_eq, n_lt, n_le, n_mul, n_add, n_cl, grd_t, grd_T, su_c, su_s, su_k, wi_in, n_m1', n_m1, e93, e94, A3, B3, x0, y0]
            have hiff := mRan A1 B1 b d e
            by_cases hr : InR n b e ∧ InR m d e
            · obtain ⟨p1, p2, p3, p4, p5⟩ := hiff.mp hr
              have c1 := (cRan hs4 A1 A2 b e).resolve_right (fun q => q.1 hr.1)
              have c2 := (cRan ht4 B1 B2 d e).resolve_right (fun q => q.1 hr.2)
              obtain ⟨⟨i, j, rfl, rfl, r1⟩, ⟨k, l, rfl, r3, r4⟩⟩ := hr
              have hl : l = j := by
                by_cases q : l < 2147483648
                · rw [n_eq (by omega) (by omega)] at r3; omega
                · omega
              subst hl
              have hm2 : ∀ h', h' 93 = h 93 → h' 94 = h 94 → fX9_copy (nI s) (nI i) (nI t) (nI k) (nI l) h' = some (nI l, sr h' 95 (va_cpy (h' 95) (h' 95) (40 * s + i) (40 * t + k) l)) := by
                intro h' e93 e94
                rw [hm h' e93 e94, if_neg p1, if_neg p2, if_neg p3, if_neg p4, if_pos p5]
                by_cases q : s = t
                · by_cases q2 : k ≤ i
                  · have := mCpF hs4 ht4 (show i + l ≤ 40 by omega) (show k + l ≤ 40 by omega) (by omega) h'
                    simp (disch := omega) [n_lit, n_eq, n_lt, n_le, n_mul, n_add, n_cl, grd_t, grd_T, su_c, su_s, su_k, wi_in, n_m1', n_m1, q, q2] at this ⊢
                    rw [this]
                    rfl
                  · have := mCpB hs4 ht4 (show i + l ≤ 40 by omega) (show k + l ≤ 40 by omega) (by omega) h'
                    simp (disch := omega) [n_lit, n_eq, n_lt, n_le, n_mul, n_add, n_cl, grd_t, grd_T, su_c, su_s, su_k, wi_in, n_m1', n_m1, q, q2] at this ⊢
                    rw [this]
                    rfl
                · have := mCpF hs4 ht4 (show i + l ≤ 40 by omega) (show k + l ≤ 40 by omega) (by omega) h'
                  simp (disch := omega) [n_lit, n_eq, n_lt, n_le, n_mul, n_add, n_cl, grd_t, grd_T, su_c, su_s, su_k, wi_in, n_m1', n_m1, q] at this ⊢
                  rw [this]
                  rfl
              refine agr (nI l) (sr h (57 + t) (va_cpy (h (57 + s)) (h (57 + t)) i k l)) _ ?_ (hm2 _ (sr_c _ _ (by omega)) (sr_c _ _ (by omega))) ?_
              · rw [hc, c1.2, c2.2]
                simp (disch := omega) [n_lit, n_eq, n_lt, n_le, n_mul, n_add, n_cl, grd_t, grd_T, su_c, su_s, su_k, wi_in, n_m1', n_m1]
              · have hx : ∀ c, c ≠ 57 + t → c ≠ 95 → sr (sr h (57 + t) (va_cpy (h (57 + s)) (h (57 + t)) i k l)) 95 (va_cpy (sr h (57 + t) (va_cpy (h (57 + s)) (h (57 + t)) i k l) 95) (sr h (57 + t) (va_cpy (h (57 + s)) (h (57 + t)) i k l) 95) (40 * s + i) (40 * t + k) l) c = h c := fun c q1 q2 => by
                  rw [sr_c _ _ q2, sr_c _ _ q1]
                have e95 : sr h (57 + t) (va_cpy (h (57 + s)) (h (57 + t)) i k l) 95 = h 95 := sr_c _ _ (by omega)
                refine Inv_sh (s := t) (n := m) I ht4 ⟨B1, ?_, ?_, ?_, ?_, ?_, ?_⟩ ?_ ?_ ?_ ?_ ?_
                · rw [hx _ (by omega) (by omega)]; exact B2
                · rw [hx _ (by omega) (by omega)]; exact B3
                · rw [hx _ (by omega) (by omega), hx _ (by omega) (by omega)]; exact B4
                · rw [hx _ (by omega) (by omega)]; exact B5
                · rw [hx _ (by omega) (by omega)]; exact B6
                · intro j hj
                  rw [sr_c _ _ (by omega), sr_s, sr_s, e95]
                  unfold va_cpy
                  by_cases q : k ≤ j ∧ j < k + l
                  · rw [if_pos q, if_pos (by omega), A7 _ (by omega)]
                    congr 1
                    omega
                  · rw [if_neg q, if_neg (by omega)]
                    exact B7 j hj
                · intro c q1 q2 q3; exact hx c (by omega) (by omega)
                · intro c q1 q2 q3 q4; exact hx c (by omega) (by omega)
                · intro j hj; rw [hx _ (by omega) (by omega)]
                · intro j hj; rw [hx _ (by omega) (by omega)]
                · intro j hj
                  rw [sr_s, e95]
                  unfold va_cpy
                  rw [if_neg (by omega)]
            · have hc2 : fX8_copy (nI s) b (nI t) d e h = ((fX8_tellFinding (-1000001) h).bind fun q_28 => some (q_28.1, q_28.2)) := by
                rw [hc]
                rcases cRan hs4 A1 A2 b e with c1 | c1
                · rcases cRan ht4 B1 B2 d e with c2 | c2
                  · exact absurd ⟨c1.1, c2.1⟩ hr
                  · rw [c1.2, c2.2]; rfl
                · rw [c1.2]; rfl
              refine ag_f0 I hc2 ?_
              intro h1' e'
              rw [hm h1' (by rw [e']; exact su_c _ _ _ (by omega)) (by rw [e']; exact su_c _ _ _ (by omega))]
              by_cases p1 : e < 0
              · rw [if_pos p1]
              · rw [if_neg p1]
                by_cases p2 : b < 0
                · rw [if_pos p2]
                · rw [if_neg p2]
                  by_cases p3 : d < 0
                  · rw [if_pos p3]
                  · rw [if_neg p3]
                    by_cases p4 : nI n - b < e
                    · rw [if_pos p4]
                    · rw [if_neg p4, if_neg (fun p5 => hr (hiff.mpr ⟨p1, p2, p3, p4, p5⟩))]
          · refine ag_f2 I ?_ ?_
            · unfold fX8_copy
              rw [cSh, cSh, decide_eq_true h1, decide_eq_true h2]
              simp (disch := omega) [n_lit, n_eq, n_lt, n_le, n_mul, n_add, n_cl, grd_t, grd_T, su_c, su_s, su_k, wi_in, n_m1', n_m1, cMis, A4, B4, z0, y0, x0]
            · intro h1' e
              subst e
              unfold fX9_copy
              rw [mSh, mSh, decide_eq_true h1, decide_eq_true h2]
              simp (disch := omega) [n_lit, n_eq, n_lt, n_le, n_mul, n_add, n_cl, grd_t, grd_T, su_c, su_s, su_k, wi_in, n_m1', n_m1, z0, y0, x0]
    · refine ag_f0 I ?_ ?_
      · unfold fX8_copy
        rw [cSh, cSh]
        simp [h1, h2]
      · intro h1' e
        unfold fX9_copy
        rw [mSh, mSh]
        simp [h1, h2]
  · refine ag_f0 I ?_ ?_
    · unfold fX8_copy
      rw [cSh]
      simp [h1]
    · intro h1' e
      unfold fX9_copy
      rw [mSh]
      simp [h1]
