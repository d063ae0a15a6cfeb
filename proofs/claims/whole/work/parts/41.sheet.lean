/-! 41: sheets -/
theorem Inv_sh {h H : Sto} (I : Inv h) {s n : Nat} (hs : s < 4) (A : Sh1 H s n) (e : ∀ c, c < 83 → c ≠ 53 + s → c ≠ 57 + s → H c = h c) (e2 : ∀ c, 83 ≤ c → c ≠ 93 → c ≠ 94 → c ≠ 95 → H c = h c) (k3 : ∀ j, j ≠ s → H 93 j = h 93 j) (k4 : ∀ j, j ≠ s → H 94 j = h 94 j) (k5 : ∀ j, (j < 40 * s ∨ 40 * s + 40 ≤ j) → H 95 j = h 95 j) : Inv H := by
  obtain ⟨⟨σ, S⟩, ⟨T, X⟩, K, P, Sh, F⟩ := I
  refine ⟨⟨σ, Sc_congr (by rw [e _ (by omega) (by omega) (by omega)]) (fun j h1 h2 h3 => e _ (by omega) (by omega) (by omega)) (e _ (by omega) (by omega) (by omega)) (fun j _ => by rw [e2 84 (by omega) (by omega) (by omega) (by omega)]) S⟩, ⟨T, TxS_congr (by rw [e _ (by omega) (by omega) (by omega)]) (fun t ht => e _ (by omega) (by omega) (by omega)) (e _ (by omega) (by omega) (by omega)) (fun j _ => by rw [e2 84 (by omega) (by omega) (by omega) (by omega)]) X⟩, Kp_congr (fun c h1 h2 => e c (by omega) (by omega) (by omega)) (by rw [e 0 (by omega) (by omega) (by omega)]) (by rw [e2 83 (by omega) (by omega) (by omega) (by omega)]) (e2 85 (by omega) (by omega) (by omega) (by omega)) K, Tp_congr (by rw [e 0 (by omega) (by omega) (by omega)]) (by rw [e2 83 (by omega) (by omega) (by omega) (by omega)]) (e _ (by omega) (by omega) (by omega)) (e2 88 (by omega) (by omega) (by omega) (by omega)) P, fun s' hs' => ?_, fun i hi => ?_⟩
  · by_cases q : s' = s
    · subst q; exact ⟨n, A⟩
    · obtain ⟨m, a1, a2, a3, a4, a5, a6, a7⟩ := Sh s' hs'
      refine ⟨m, a1, ?_, ?_, ?_, ?_, ?_, ?_⟩
      · rw [e _ (by omega) (by omega) (by omega)]; exact a2
      · rw [k4 _ q]; exact a3
      · rw [e _ (by omega) (by omega) (by omega), k3 _ q]; exact a4
      · rw [k3 _ q]; exact a5
      · rw [k3 _ q]; exact a6
      · intro j hj
        rw [e _ (by omega) (by omega) (by omega), k5 _ (by omega)]
        exact a7 j hj
  · rw [e 61 (by omega) (by omega) (by omega), e2 86 (by omega) (by omega) (by omega) (by omega)]
    exact F i hi
theorem cSh (x : Int32) (h : Sto) : fX8_isSheet x h = some (decide (nI 0 ≤ x ∧ x ≤ nI 3)) := by
  unfold fX8_isSheet
  rw [wi_in]
  rfl
theorem mSh (x : Int32) (h : Sto) : fX9_isSheet x h = some (decide (nI 0 ≤ x ∧ x ≤ nI 3)) := by
  unfold fX9_isSheet
  rw [in_n x 0 3 (by omega) (by omega)]
  rfl
theorem cMis {s : Nat} (hs : s < 4) (h : Sto) : fX4_isMissing s h = some (decide (h (53 + s) 0 = 0)) := by
  unfold fX4_isMissing
  rw [grd_t hs]
  by_cases z : h (53 + s) 0 = 0 <;> simp [z]
def zr (h : Sto) (c a i : Nat) : Sto := sr h c (fun j => if a ≤ j ∧ j < a + i then 0 else h c j)
theorem zr_0 (h : Sto) (c a : Nat) : zr h c a 0 = h := by
  funext x y
  unfold zr
  by_cases q : x = c
  · subst q; rw [sr_s]; simp; intro h1 h2; omega
  · rw [sr_c _ _ q]
theorem zr_s (h : Sto) (c a i : Nat) : su (zr h c a i) c (a + i) 0 = zr h c a (i + 1) := by
  funext x y
  unfold zr
  by_cases q : x = c
  · subst q
    rw [sr_s]
    by_cases z : y = a + i
    · subst z; rw [su_s]; simp
    · rw [su_k _ _ _ z, sr_s]
      by_cases z2 : a ≤ y ∧ y < a + i
      · have : a ≤ y ∧ y < a + (i + 1) := by omega
        simp [z2, this]
      · have : ¬ (a ≤ y ∧ y < a + (i + 1)) := by omega
        simp [z2, this]
  · rw [su_c _ _ _ q, sr_c _ _ q, sr_c _ _ q]
theorem zr_c (h : Sto) {c c' : Nat} (a i : Nat) (q : ¬ c' = c) : zr h c a i c' = h c' := sr_c _ _ q
theorem zr_in (h : Sto) {c a i j : Nat} (q : a ≤ j) (q2 : j < a + i) : zr h c a i c j = 0 := by unfold zr; rw [sr_s]; simp [q, q2]
theorem zr_out (h : Sto) {c a i j : Nat} (q : j < a ∨ a + i ≤ j) : zr h c a i c j = h c j := by
  unfold zr; rw [sr_s]
  have : ¬ (a ≤ j ∧ j < a + i) := by omega
  simp only [this, if_false]
theorem cBeg {s m : Nat} {b : Int32} (hs : s < 4) (hm : m ≤ 40) (h : Sto) (q : (b = 0 → m = 0)) (x : Int32) (hx : (if ¬ b = 0 then x else 0) = nI m) : fX4_begin s b x h = some (zr (su (su h (53 + s) 0 b) (53 + s) 1 (nI m)) (57 + s) 0 m) := by
  have hl : lp (fun r => fX4_begin_b20 s r.1 r.2) FUEL (0, su (su h (53 + s) 0 b) (53 + s) 1 (nI m)) = some (zr (su (su h (53 + s) 0 b) (53 + s) 1 (nI m)) (57 + s) 0 m) := by
    refine lp_F (g := fun i => (nI i, zr (su (su h (53 + s) 0 b) (53 + s) 1 (nI m)) (57 + s) 0 i)) m _ (by rw [zr_0]; rfl) (by omega) ?_ ?_
    · intro i hi
      have hi2 : ¬ m ≤ i := by omega
      have hz := zr_s (su (su h (53 + s) 0 b) (53 + s) 1 (nI m)) (57 + s) 0 i
      rw [Nat.zero_add] at hz
      show fX4_begin_b20 s (nI i) (zr (su (su h (53 + s) 0 b) (53 + s) 1 (nI m)) (57 + s) 0 i) = _
      unfold fX4_begin_b20
      rw [show (0 : Int32) = nI 0 from rfl] at hz
      simp (disch := omega) [n_lit, n_eq, n_lt, n_le, n_mul, n_add, n_cl, grd_t, grd_T, su_c, su_s, su_k, wi_in, n_m1', n_m1, zr_c, hi2, hz]
    · show fX4_begin_b20 s (nI m) (zr (su (su h (53 + s) 0 b) (53 + s) 1 (nI m)) (57 + s) 0 m) = _
      unfold fX4_begin_b20
      simp (disch := omega) [n_lit, n_eq, n_lt, n_le, n_mul, n_add, n_cl, grd_t, grd_T, su_c, su_s, su_k, wi_in, n_m1', n_m1, zr_c]
  have hi : (if ¬ b = 0 then (some x) else (some 0)) = some (nI m) := by rw [← hx]; split <;> rfl
  unfold fX4_begin
  rw [grd_t hs, Option.bind_some, hi, Option.bind_some, Option.bind_some, hl]
  rfl
theorem mBeg {s : Nat} (hs : s < 4) (h : Sto) : lp (fun r => fX9_sheet_b86 (nI s) r.1 r.2) FUEL (nI 0, h) = some (zr h 95 (40 * s) 40) := by
  refine lp_F (g := fun i => (nI i, zr h 95 (40 * s) i)) 40 _ (by rw [zr_0]) (by omega) ?_ ?_
  · intro i hi
    have hi2 : ¬ 40 ≤ i := by omega
    have hz := zr_s h 95 (40 * s) i
    show fX9_sheet_b86 (nI s) (nI i) (zr h 95 (40 * s) i) = _
    unfold fX9_sheet_b86
    rw [show (0 : Int32) = nI 0 from rfl] at hz
    simp (disch := omega) [n_lit, n_eq, n_lt, n_le, n_mul, n_add, n_cl, grd_t, grd_T, su_c, su_s, su_k, wi_in, n_m1', n_m1, hi2, hz]
  · show fX9_sheet_b86 (nI s) (nI 40) (zr h 95 (40 * s) 40) = _
    unfold fX9_sheet_b86
    simp (disch := omega) [n_lit, n_eq, n_lt, n_le, n_mul, n_add, n_cl, grd_t, grd_T, su_c, su_s, su_k, wi_in, n_m1', n_m1]
theorem st_sheet (a b c : Int32) (h : Sto) (I : Inv h) : Agr (fX8_sheet a b c) (fX9_sheet a b c) h := by
  by_cases h1 : nI 0 ≤ a ∧ a ≤ nI 3
  · by_cases h2 : b = 0 ∨ b = 8 ∨ b = 16 ∨ b = 32
    · have eb : (if b = 0 then (some true) else (if b = 8 then (some true) else (if b = 16 then (some true) else (if ¬ b = 32 then (some false) else (some true))))) = some true := by
        rcases h2 with rfl | rfl | rfl | rfl <;> rfl
      have em : ∀ h', fX9_sheet a b c h' = if 0 ≤ c then (if c ≤ 40 then (grd (inb a 4) <| (some (su h' 93 (Int32.toNatClampNeg a) b)).bind fun h_8 => (if ¬ b = 0 then (some c) else (some 0)).bind fun q_9 => grd (inb a 4) <| (some (su h_8 94 (Int32.toNatClampNeg a) q_9)).bind fun h_13 => (lp (fun s => fX9_sheet_b86 a s.1 s.2) FUEL (0, h_13)).bind fun v_25 => grd (inb a 4) <| some ((v_25 94 (Int32.toNatClampNeg a)), v_25)) else ((fX9_finds (-1000001) h').bind fun q_31 => some (q_31.1, q_31.2))) else ((fX9_finds (-1000007) h').bind fun q_33 => some (q_33.1, q_33.2)) := by
        intro h'
        unfold fX9_sheet
        rw [mSh, decide_eq_true h1]
        rcases h2 with rfl | rfl | rfl | rfl <;> rfl
      have ec : fX8_sheet a b c h = if 0 ≤ c then (if c ≤ 40 then (grd (inb a 4) <| (fX4_begin (Int32.toNatClampNeg a) b c h).bind fun q_14 => grd (inb a 4) <| some ((q_14 (53 + (Int32.toNatClampNeg a)) 1), q_14)) else ((fX8_tellFinding (-1000001) h).bind fun q_17 => some (q_17.1, q_17.2))) else ((fX8_tellFinding (-1000007) h).bind fun q_19 => some (q_19.1, q_19.2)) := by
        unfold fX8_sheet
        rw [eb, cSh, decide_eq_true h1]
        rfl
      by_cases h3 : 0 ≤ c
      · by_cases h4 : c ≤ 40
        · obtain ⟨s, rfl, -, hs⟩ := arg_in (by omega) (by omega) h1
          obtain ⟨m0, rfl, -, hm0⟩ := arg_in (a := 0) (b := 40) (by omega) (by omega) ⟨h3, h4⟩
          have hs4 : s < 4 := by omega
          obtain ⟨m, hm, hm40, hq⟩ : ∃ m, (if ¬ b = 0 then nI m0 else 0) = nI m ∧ m ≤ 40 ∧ (b = 0 → m = 0) := by
            by_cases q : b = 0
            · exact ⟨0, by simp [q]; rfl, by omega, fun _ => rfl⟩
            · exact ⟨m0, by simp [q], hm0, fun w => absurd w q⟩
          have hi : (if ¬ b = 0 then (some (nI m0)) else (some 0)) = some (nI m) := by rw [← hm]; split <;> rfl
          have cB := cBeg hs4 hm40 h hq (nI m0) hm
          refine agr (nI m) (zr (su (su h (53 + s) 0 b) (53 + s) 1 (nI m)) (57 + s) 0 m) (zr (su (su (zr (su (su h (53 + s) 0 b) (53 + s) 1 (nI m)) (57 + s) 0 m) 93 s b) 94 s (nI m)) 95 (40 * s) 40) ?_ ?_ ?_
          · rw [ec, if_pos h3, if_pos h4]
            simp (disch := omega) [n_lit, n_eq, n_lt, n_le, n_mul, n_add, n_cl, grd_t, grd_T, su_c, su_s, su_k, wi_in, n_m1', n_m1, cB, zr_c]
          · rw [em, if_pos h3, if_pos h4, hi]
            simp (disch := omega) [n_lit, n_eq, n_lt, n_le, n_mul, n_add, n_cl, grd_t, grd_T, su_c, su_s, su_k, wi_in, n_m1', n_m1, mBeg, zr_c]
          · refine Inv_sh (s := s) (n := m) I hs4 ⟨hm40, ?_, ?_, ?_, ?_, ?_, ?_⟩ ?_ ?_ ?_ ?_ ?_
            · simp (disch := omega) [zr_c, su_c, su_s, su_k]
            · simp (disch := omega) [zr_c, su_c, su_s, su_k]
            · simp (disch := omega) [zr_c, su_c, su_s, su_k]
            · simp (disch := omega) [zr_c, su_c, su_s, su_k]; exact h2
            · simp (disch := omega) [zr_c, su_c, su_s, su_k]; exact hq
            · intro j hj
              rw [zr_in _ (by omega) (by omega)]
              rw [zr_c _ _ _ (by omega), su_c _ _ _ (by omega), su_c _ _ _ (by omega), zr_in _ (by omega) (by omega)]
            · intro c h1 h2 h3; simp (disch := omega) [zr_c, su_c, su_s, su_k]
            · intro c h1 h2 h3 h4; simp (disch := omega) [zr_c, su_c, su_s, su_k]
            · intro j hj; simp (disch := omega) [zr_c, su_c, su_s, su_k]
            · intro j hj; simp (disch := omega) [zr_c, su_c, su_s, su_k]
            · intro j hj; rw [zr_out _ hj]; simp (disch := omega) [zr_c, su_c, su_s, su_k]
        · refine ag_f0 I ?_ ?_
          · rw [ec, if_pos h3, if_neg h4]
          · intro h1' e; rw [em, if_pos h3, if_neg h4]
      · refine ag_f6 I ?_ ?_
        · rw [ec, if_neg h3]
        · intro h1' e; rw [em, if_neg h3]
    · have n0 : ¬ b = 0 := fun q => h2 (Or.inl q)
      have n1 : ¬ b = 8 := fun q => h2 (Or.inr (Or.inl q))
      have n2 : ¬ b = 16 := fun q => h2 (Or.inr (Or.inr (Or.inl q)))
      have n3 : ¬ b = 32 := fun q => h2 (Or.inr (Or.inr (Or.inr q)))
      refine ag_f0 I ?_ ?_
      · unfold fX8_sheet
        rw [cSh, decide_eq_true h1]
        simp only [n0, n1, n2, n3]
        rfl
      · intro h1' e
        unfold fX9_sheet
        rw [mSh, decide_eq_true h1]
        simp only [n0, n1, n2, n3]
        rfl
  · refine ag_f0 I ?_ ?_
    · unfold fX8_sheet
      rw [cSh, decide_eq_false h1]
      by_cases n0 : b = 0
      · simp only [n0]; rfl
      · by_cases n1 : b = 8
        · simp only [n1]; rfl
        · by_cases n2 : b = 16
          · simp only [n2]; rfl
          · by_cases n3 : b = 32
            · simp only [n3]; rfl
            · simp only [n0, n1, n2, n3]; rfl
    · intro h1' e
      unfold fX9_sheet
      rw [mSh, decide_eq_false h1]
      rfl
