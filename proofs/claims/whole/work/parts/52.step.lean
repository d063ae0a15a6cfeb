/-! 52: texts: a step -/
theorem lp_1 {S X : Type} {f : S → Option (S ⊕ X)} {s : S} {x : X} (h : f s = some (.inr x)) : lp f FUEL s = some x :=
  lp_F (fun _ => s) 0 x rfl (by omega) (fun i hi => absurd hi (Nat.not_lt_zero _)) h
def mt (b : Nat → Nat) (n q : Nat) : Int32 := if q = n then lI 0 else if dgt (b q) = true then nI 48 else nI (b q)
def ct (b : Nat → Nat) (n q v : Nat) : Nat := if q = n then 0 else if dgt (b q) = true then (if v ≤ 9999 then 2 else 1) else if lx (b q) < 8 then 3 else if mkN (b q) = true then b q else 1
def tE (b : Nat → Nat) (n q : Nat) : Nat := if q = n then n else if dgt (b q) = true then dq b n q else q + 1
def tV (b : Nat → Nat) (n q : Nat) : Nat := if q = n then 0 else if dgt (b q) = true then vl b q (dq b n q - q) else 0
def StC (b : Nat → Nat) (n : Nat) (R : Nat → Int32) (q : Nat) (c : Sto) : Prop := c 64 3 = nI (tE b n q) ∧ c 64 5 = nI q ∧ c 64 4 = nI (ct b n q (tV b n q)) ∧ (ct b n q (tV b n q) = 2 → c 64 6 = nI (tV b n q)) ∧ (ct b n q (tV b n q) = 3 → c 64 6 = R (lx (b q)))
def StM (b : Nat → Nat) (n q : Nat) (m : Sto) : Prop := m 83 9 = nI q ∧ m 83 10 = nI (tE b n q) ∧ m 83 11 = mt b n q ∧ m 83 12 = nI (tV b n q)
theorem tE_le {b : Nat → Nat} {n q : Nat} (hq : q ≤ n) : q ≤ tE b n q ∧ tE b n q ≤ n ∧ (q < n → q < tE b n q) := by
  unfold tE
  by_cases z : q = n
  · rw [if_pos z]; omega
  · rw [if_neg z]
    obtain ⟨h1, h2⟩ := dq_le (b := b) hq
    cases y : dgt (b q) with
    | true =>
      rw [if_pos rfl]
      refine ⟨h1, h2, fun _ => ?_⟩
      rcases Nat.lt_or_ge q (dq b n q) with w | w
      · exact w
      · have h3 : dq b n q = q := by omega
        have := dq_at (b := b) hq (by omega)
        rw [h3, y] at this
        exact absurd this (by decide)
    | false => rw [if_neg (by decide)]; omega
theorem tV_le {b : Nat → Nat} {n q : Nat} : tV b n q ≤ 99999 := by
  unfold tV
  split
  · omega
  · split
    · exact vl_le (n := n) _ (Nat.le_refl _)
    · omega
section STP
variable {b : Nat → Nat} {n p e : Nat} {R : Nat → Int32} {c m : Sto}
theorem cStep (S : Src b n p R c m) (h3 : c 64 3 = nI e) (he : e ≤ n) : ∃ c', fX2_step c = some c' ∧ StC b n R (bq b n e) c' ∧ Frc c c' ∧ c' 64 7 = c 64 7 := by
  obtain ⟨H, e1, e2, e3, e4⟩ := cBlank S h3 he
  obtain ⟨q1, q2⟩ := bq_le (b := b) he
  have hnz : bq b n e < n → ¬ b (bq b n e) = 32 := fun z => bq_at he z
  unfold fX2_step StC
  rw [e1, Option.bind_some, Option.bind_some, e2]
  generalize bq b n e = q at *
  have F1 : Frc c (su H 64 5 (nI q)) := ⟨fun i hi => by rw [su_c _ _ _ hi]; exact e3 i hi, fun j hj => by rw [su_k _ _ _ (by omega)]; exact e4 j (by omega)⟩
  have S2 := S.fr F1 (Frm.refl m)
  have k3 : su H 64 5 (nI q) 64 3 = nI q := by rw [su_k _ _ _ (by omega)]; exact e2
  have k5 : su H 64 5 (nI q) 64 5 = nI q := su_s _ _ _ _
  have k7 : su H 64 5 (nI q) 64 7 = c 64 7 := by rw [su_k _ _ _ (by omega)]; exact e4 7 (by omega)
  have hlp : ∀ H2, (Frc (su H 64 5 (nI q)) H2 ∧ H2 64 7 = su H 64 5 (nI q) 64 7) → (Frc c H2 ∧ H2 64 7 = c 64 7) := fun H2 h => ⟨F1.trans h.1, h.2.trans k7⟩
  generalize su H 64 5 (nI q) = D at *
  obtain ⟨⟨s1, s2, s3, s4, s5⟩, ⟨s6, s7, s8, s9, s10⟩, s11, s12⟩ := S2
  by_cases z : q = n
  · have z' : ¬ q < n := by omega
    refine ⟨su D 64 4 (nI 0), ?_, ⟨?_, ?_, ?_, ?_, ?_⟩, hlp _ ⟨⟨fun i hi => su_c _ _ _ hi, fun j hj => su_k _ _ _ (by omega)⟩, su_k _ _ _ (by omega)⟩⟩
    · simp (disch := omega) [n_lit, n_eq, n_lt, n_le, n_mul, n_add, n_cl, grd_t, grd_T, su_c, su_s, su_k, wi_in, n_m1', n_m1, k3, s9, z']
    · rw [su_k _ _ _ (by omega), k3]; unfold tE; rw [if_pos z, z]
    · rw [su_k _ _ _ (by omega), k5]
    · rw [su_s]; unfold ct; rw [if_pos z]
    · unfold ct; rw [if_pos z]; intro h; exact absurd h (by omega)
    · unfold ct; rw [if_pos z]; intro h; exact absurd h (by omega)
  · have zl : q < n := by omega
    have h256 := s2 q zl
    have e6 := s6 q zl
    cases y : dgt (b q) with
    | true =>
      obtain ⟨H2, f1, f2, f3, f4⟩ := cNum (q := q) (R := R) ⟨⟨s1, s2, s3, s4, s5⟩, ⟨s6, s7, s8, s9, s10⟩, s11, s12⟩ k3 (by omega)
      have eE : tE b n q = dq b n q := by unfold tE; rw [if_neg z, if_pos y]
      have eV : tV b n q = vl b q (dq b n q - q) := by unfold tV; rw [if_neg z, if_pos y]
      have eC : ∀ v, ct b n q v = if v ≤ 9999 then 2 else 1 := by intro v; unfold ct; rw [if_neg z, if_pos y]
      have hv := vl_le (b := b) (n := n) (q := q) _ (Nat.le_refl _)
      have hst : fX2_stepNumber D = some (su (su H2 64 4 (nI (if vl b q (dq b n q - q) ≤ 9999 then 2 else 1))) 64 6 (nI (min (vl b q (dq b n q - q)) 10000))) := by
        unfold fX2_stepNumber
        rw [show ((0 : Int32), D) = (nI 0, D) from rfl, f1]
        by_cases w : vl b q (dq b n q - q) ≤ 9999
        · have w' : min (vl b q (dq b n q - q)) 10000 ≤ 9999 := by omega
          simp (disch := omega) [n_lit, n_eq, n_lt, n_le, n_mul, n_add, n_cl, grd_t, grd_T, su_c, su_s, su_k, wi_in, n_m1', n_m1, w, w']
        · have w' : ¬ min (vl b q (dq b n q - q)) 10000 ≤ 9999 := by omega
          simp (disch := omega) [n_lit, n_eq, n_lt, n_le, n_mul, n_add, n_cl, grd_t, grd_T, su_c, su_s, su_k, wi_in, n_m1', n_m1, w, w']
      rw [eE, eV, eC]
      refine ⟨su (su H2 64 4 (nI (if vl b q (dq b n q - q) ≤ 9999 then 2 else 1))) 64 6 (nI (min (vl b q (dq b n q - q)) 10000)), ?_, ⟨?_, ?_, ?_, ?_, ?_⟩, hlp _ ⟨⟨fun i hi => ?_, fun j hj => ?_⟩, ?_⟩⟩
      · simp (disch := omega) [n_lit, n_eq, n_lt, n_le, n_mul, n_add, n_cl, grd_t, grd_T, su_c, su_s, su_k, wi_in, n_m1', n_m1, k3, s8, s9, s5, e6, zl, n_in, dgC h256, y, hst]
      · rw [su_k _ _ _ (by omega), su_k _ _ _ (by omega)]; exact f2
      · rw [su_k _ _ _ (by omega), su_k _ _ _ (by omega), f4 5 (by omega)]; exact k5
      · rw [su_k _ _ _ (by omega), su_s]
      · intro h
        have : vl b q (dq b n q - q) ≤ 9999 := by
          rcases Nat.lt_or_ge 9999 (vl b q (dq b n q - q)) with w | w
          · rw [if_neg (by omega)] at h; omega
          · exact w
        rw [su_s, Nat.min_eq_left (by omega)]
      · intro h; split at h <;> omega
      · rw [su_c _ _ _ hi, su_c _ _ _ hi]; exact f3 i hi
      · rw [su_k _ _ _ (by omega), su_k _ _ _ (by omega)]; exact f4 j (by omega)
      · rw [su_k _ _ _ (by omega), su_k _ _ _ (by omega)]; exact f4 7 (by omega)
    | false =>
      have yf : ¬ dgt (b q) = true := by rw [y]; decide
      have eE : tE b n q = q + 1 := by unfold tE; rw [if_neg z, if_neg yf]
      have eC : ∀ v, ct b n q v = if lx (b q) < 8 then 3 else if mkN (b q) = true then b q else 1 := by intro v; unfold ct; rw [if_neg z, if_neg yf]
      have hix := tk_ix (b q) h256
      rw [eE, eC]
      by_cases w : lx (b q) < 8
      · have w1 : ¬ nI (lx (b q)) < nI 0 := by rw [n_lt (by omega) (by omega)]; omega
        rw [if_pos w] at hix
        refine ⟨su (su (su D 64 3 (nI (q + 1))) 64 4 (nI 3)) 64 6 (R (lx (b q))), ?_, ⟨?_, ?_, ?_, ?_, ?_⟩, hlp _ ⟨⟨fun i hi => ?_, fun j hj => ?_⟩, ?_⟩⟩
        · have hs7 := s7 _ w
          simp (disch := omega) [n_lit, n_eq, n_lt, n_le, n_mul, n_add, n_cl, grd_t, grd_T, su_c, su_s, su_k, wi_in, n_m1', n_m1, k3, s8, s9, s5, s10, e6, zl, n_in, dgC h256, y, hix, w1, hs7, show shp 63 = (0, 8, []) from rfl]
        · simp (disch := omega) [su_c, su_s, su_k]
        · simp (disch := omega) [su_c, su_s, su_k]; exact k5
        · simp (disch := omega) [su_c, su_s, su_k, w]
        · simp (disch := omega) [w]
        · simp (disch := omega) [su_c, su_s, su_k]
        · simp (disch := omega) [su_c, su_s, su_k]
        · simp (disch := omega) [su_c, su_s, su_k]
        · simp (disch := omega) [su_c, su_s, su_k]
      · rw [if_neg w] at hix
        have w1 : lI 0 < nI 0 := by decide
        refine ⟨su (su D 64 3 (nI (q + 1))) 64 4 (nI (if mkN (b q) = true then b q else 1)), ?_, ⟨?_, ?_, ?_, ?_, ?_⟩, hlp _ ⟨⟨fun i hi => ?_, fun j hj => ?_⟩, ?_⟩⟩
        · cases x : mkN (b q) with
          | true => simp (disch := omega) [n_lit, n_eq, n_lt, n_le, n_mul, n_add, n_cl, grd_t, grd_T, su_c, su_s, su_k, wi_in, n_m1', n_m1, k3, s8, s9, s5, s10, e6, zl, n_in, dgC h256, y, hix, w1, mkO h256, x]
          | false => simp (disch := omega) [n_lit, n_eq, n_lt, n_le, n_mul, n_add, n_cl, grd_t, grd_T, su_c, su_s, su_k, wi_in, n_m1', n_m1, k3, s8, s9, s5, s10, e6, zl, n_in, dgC h256, y, hix, w1, mkO h256, x]
        · simp (disch := omega) [su_c, su_s, su_k]
        · simp (disch := omega) [su_c, su_s, su_k]; exact k5
        · simp (disch := omega) [su_c, su_s, su_k, w]
        · rw [if_neg w]; intro h
          split at h
          · rename_i x; unfold mkN at x; simp at x; omega
          · omega
        · rw [if_neg w]; intro h
          split at h
          · rename_i x; unfold mkN at x; simp at x; omega
          · omega
        · simp (disch := omega) [su_c, su_s, su_k]
        · simp (disch := omega) [su_c, su_s, su_k]
        · simp (disch := omega) [su_c, su_s, su_k]
def FrN (m m' : Sto) : Prop := (∀ i, i ≠ 83 → m' i = m i) ∧ ∀ j, j < 9 ∨ 13 ≤ j → m' 83 j = m 83 j
theorem mStep (S : Src b n p R c m) (h3 : m 83 10 = nI e) (he : e ≤ n) : ∃ m', fX9_next_ m = some m' ∧ StM b n (bq b n e) m' ∧ FrN m m' := by
  have S1 : Src b n p R c (su m 83 9 (nI e)) := S.fr (Frc.refl c) ⟨fun i h1 h2 => su_c _ _ _ h1, fun j hj => su_k _ _ _ (by omega)⟩
  obtain ⟨H, e1, e2, e3, e4⟩ := mBlank S1 (su_s _ _ _ _) he
  obtain ⟨q1, q2⟩ := bq_le (b := b) he
  unfold fX9_next_ StM
  rw [h3, Option.bind_some, e1, Option.bind_some, Option.bind_some, Option.bind_some, Option.bind_some, e2]
  generalize bq b n e = q at *
  have F1 : FrN m (su (su (su H 83 10 (nI q)) 83 12 0) 83 11 (-1)) := ⟨fun i hi => by rw [su_c _ _ _ hi, su_c _ _ _ hi, su_c _ _ _ hi, e3 i hi, su_c _ _ _ hi], fun j hj => by rw [su_k _ _ _ (by omega), su_k _ _ _ (by omega), su_k _ _ _ (by omega), e4 j (by omega), su_k _ _ _ (by omega)]⟩
  have k9 : su (su (su H 83 10 (nI q)) 83 12 0) 83 11 (-1) 83 9 = nI q := by rw [su_k _ _ _ (by omega), su_k _ _ _ (by omega), su_k _ _ _ (by omega)]; exact e2
  have k10 : su (su (su H 83 10 (nI q)) 83 12 0) 83 11 (-1) 83 10 = nI q := by rw [su_k _ _ _ (by omega), su_k _ _ _ (by omega), su_s]
  have k11 : su (su (su H 83 10 (nI q)) 83 12 0) 83 11 (-1) 83 11 = lI 0 := su_s _ _ _ _
  have k12 : su (su (su H 83 10 (nI q)) 83 12 0) 83 11 (-1) 83 12 = nI 0 := by rw [su_k _ _ _ (by omega), su_s]; rfl
  generalize su (su (su H 83 10 (nI q)) 83 12 0) 83 11 (-1) = D at *
  have S2 : Src b n p R c D := S.fr (Frc.refl c) ⟨fun i h1 h2 => F1.1 i h1, fun j hj => F1.2 j (by omega)⟩
  have S2' := S2
  obtain ⟨⟨s1, s2, s3, s4, s5⟩, ⟨s6, s7, s8, s9, s10⟩, s11, s12⟩ := S2
  by_cases z : q = n
  · refine ⟨D, ?_, ⟨k9, ?_, ?_, ?_⟩, F1⟩
    · simp (disch := omega) [n_lit, n_eq, n_lt, n_le, n_mul, n_add, n_cl, grd_t, grd_T, su_c, su_s, su_k, wi_in, n_m1', n_m1, k9, s12, z]
    · unfold tE; rw [if_pos z, ← z]; exact k10
    · unfold mt; rw [if_pos z]; exact k11
    · unfold tV; rw [if_pos z]; exact k12
  · have zl : q < n := by omega
    have h256 := s2 q zl
    have e6 := s11 q zl
    cases y : dgt (b q) with
    | true =>
      have S3 : Src b n p R c (su D 83 11 (nI 48)) := S2'.fr (Frc.refl c) ⟨fun i h1 h2 => su_c _ _ _ h1, fun j hj => su_k _ _ _ (by omega)⟩
      obtain ⟨H2, f1, f2, f3, f4, f5⟩ := mNum S3 (by rw [su_k _ _ _ (by omega)]; exact k10) (su_s _ _ _ _) (by rw [su_k _ _ _ (by omega)]; exact k12) q2
      refine ⟨H2, ?_, ⟨?_, ?_, ?_, ?_⟩, ⟨fun i hi => ?_, fun j hj => ?_⟩⟩
      · simp (disch := omega) [n_lit, n_eq, n_lt, n_le, n_mul, n_add, n_cl, grd_t, grd_T, su_c, su_s, su_k, wi_in, n_m1', n_m1, k9, s12, z, e6, n_in, dgM h256, y, f1]
      · rw [f5 9 (by omega) (by omega), su_k _ _ _ (by omega)]; exact k9
      · unfold tE; rw [if_neg z, if_pos y]; exact f2
      · unfold mt; rw [if_neg z, if_pos y, f5 11 (by omega) (by omega), su_s]
      · unfold tV; rw [if_neg z, if_pos y]; exact f3
      · rw [f4 i hi, su_c _ _ _ hi]; exact F1.1 i hi
      · rw [f5 j (by omega) (by omega), su_k _ _ _ (by omega)]; exact F1.2 j hj
    | false =>
      have yf : ¬ dgt (b q) = true := by rw [y]; decide
      have y48 : ¬ b q = 48 := fun h => by rw [h] at y; exact absurd y (by decide)
      have hl : lp (fun s => fX9_next__b128 s) FUEL (su (su D 83 11 (nI (b q))) 83 10 (nI (q + 1))) = some (su (su D 83 11 (nI (b q))) 83 10 (nI (q + 1))) := by
        apply lp_1
        show fX9_next__b128 _ = _
        unfold fX9_next__b128
        simp (disch := omega) [n_lit, n_eq, n_lt, n_le, n_mul, n_add, n_cl, grd_t, grd_T, su_c, su_s, su_k, wi_in, n_m1', n_m1, y48]
      refine ⟨su (su D 83 11 (nI (b q))) 83 10 (nI (q + 1)), ?_, ⟨?_, ?_, ?_, ?_⟩, ⟨fun i hi => ?_, fun j hj => ?_⟩⟩
      · simp (disch := omega) [n_lit, n_eq, n_lt, n_le, n_mul, n_add, n_cl, grd_t, grd_T, su_c, su_s, su_k, wi_in, n_m1', n_m1, k9, k10, s12, z, e6, n_in, dgM h256, y, y48, hl]
      · simp (disch := omega) [su_c, su_s, su_k, k9]
      · unfold tE; rw [if_neg z, if_neg yf, su_s]
      · unfold mt; rw [if_neg z, if_neg yf, su_k _ _ _ (by omega), su_s]
      · unfold tV; rw [if_neg z, if_neg yf, su_k _ _ _ (by omega), su_k _ _ _ (by omega)]; exact k12
      · rw [su_c _ _ _ hi, su_c _ _ _ hi]; exact F1.1 i hi
      · rw [su_k _ _ _ (by omega), su_k _ _ _ (by omega)]; exact F1.2 j hj
end STP
