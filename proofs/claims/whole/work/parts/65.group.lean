/-! 65: groups -/
def jn (l : Nat → Nat) (a b : Nat) : Nat → Nat := fun k => if l k = max (l a) (l b) then min (l a) (l b) else l k
def gin (σ : Gh) (d n a : Nat) (l : Nat → Nat) : Nat → Nat → Nat := fo (fun b l => if n ≤ tgt σ a b d (σ 0 2) ∨ n ≤ tgt σ b a d (σ 0 2) then jn l a b else l) l
def gou (σ : Gh) (d n : Nat) : Nat → Nat → Nat := fo (fun a l => gin σ d n a l a) (fun k => k)
theorem gin_s (σ : Gh) (d n a : Nat) (l : Nat → Nat) (b : Nat) : gin σ d n a l (b + 1) = if n ≤ tgt σ a b d (σ 0 2) ∨ n ≤ tgt σ b a d (σ 0 2) then jn (gin σ d n a l b) a b else gin σ d n a l b := rfl
theorem gou_s (σ : Gh) (d n a : Nat) : gou σ d n (a + 1) = gin σ d n a (gou σ d n a) a := rfl
theorem jn_lt {l : Nat → Nat} {N a b : Nat} (h : ∀ k, k < N → l k < 14) (ha : a < N) (hb : b < N) : ∀ k, k < N → jn l a b k < 14 := by
  intro k hk
  have h1 := h a ha
  have h2 := h b hb
  have h3 := h k hk
  unfold jn
  split <;> omega
theorem gin_lt {σ : Gh} {d n N a : Nat} {l : Nat → Nat} (h : ∀ k, k < N → l k < 14) (ha : a < N) : ∀ b, b ≤ a → ∀ k, k < N → gin σ d n a l b k < 14
  | 0, _ => h
  | b + 1, hb => by
    have ih := gin_lt (σ := σ) (d := d) (n := n) h ha b (by omega)
    rw [gin_s]
    split
    · exact jn_lt ih ha (by omega)
    · exact ih
theorem gou_lt {σ : Gh} {d n N : Nat} (hN : N ≤ 14) : ∀ a, a ≤ N → ∀ k, k < N → gou σ d n a k < 14
  | 0, _ => fun k hk => by show k < 14; omega
  | a + 1, ha => by
    rw [gou_s]
    exact gin_lt (gou_lt hN a (by omega)) (by omega) a (Nat.le_refl _)
def FrT (h H : Sto) : Prop := ∀ c, (c < 66 ∨ 81 < c) → H c = h c
theorem FrT.refl (h : Sto) : FrT h h := fun _ _ => rfl
theorem FrT.trans {a b c : Sto} (x : FrT a b) (y : FrT b c) : FrT a c := fun i hi => (y i hi).trans (x i hi)
section GRP
variable {h g : Sto} {σ : Gh} {d n N : Nat}
theorem Sc_frT (S : Sc h 1 84 σ) (e : FrT h g) : Sc g 1 84 σ := Sc_cells S (fun c h1 h2 => e c (by omega)) (e 84 (by omega))
/-- all are 0 -/
theorem cZero (h65 : g 65 0 = nI N) (hN : N ≤ 14) (x : Int32) : ∃ H, lp (fun s : Int32 × Sto => fX7_gatherNear_b2 x s.1 s.2) FUEL (nI 0, g) = some H ∧ ((∀ a b, a < N → b < N → H (68 + a) b = nI 0) ∧ FrT g H) := by
  refine lp_I (f := fun s : Int32 × Sto => fX7_gatherNear_b2 x s.1 s.2) (fun i s => s.1 = nI i ∧ (∀ a b, a < i → b < N → s.2 (68 + a) b = nI 0) ∧ FrT g s.2) _ N (nI 0, g) ⟨rfl, fun a b ha _ => absurd ha (Nat.not_lt_zero _), FrT.refl g⟩ (by omega) ?_ ?_
  · rintro i ⟨k, s⟩ hi ⟨rfl, a1, a2⟩
    dsimp only at *
    have e65 : s 65 0 = nI N := by rw [a2 65 (by omega)]; exact h65
    have key : ∃ H, lp (fun r : Int32 × Sto => fX7_gatherNear_b13 x (nI i) r.1 r.2) FUEL (nI 0, s) = some H ∧ ((∀ b, b < N → H (68 + i) b = nI 0) ∧ ∀ c, c ≠ 68 + i → H c = s c) := by
      refine lp_I (f := fun r : Int32 × Sto => fX7_gatherNear_b13 x (nI i) r.1 r.2) (fun j r => r.1 = nI j ∧ (∀ b, b < j → r.2 (68 + i) b = nI 0) ∧ ∀ c, c ≠ 68 + i → r.2 c = s c) _ N (nI 0, s) ⟨rfl, fun b hb => absurd hb (Nat.not_lt_zero _), fun _ _ => rfl⟩ (by omega) ?_ ?_
      · rintro j ⟨k, r⟩ hj ⟨rfl, b1, b2⟩
        dsimp only at *
        have f65 : r 65 0 = nI N := by rw [b2 65 (by omega)]; exact e65
        have hj' : ¬ N ≤ j := by omega
        refine ⟨(nI (j + 1), su r (68 + i) j (nI 0)), ?_, rfl, fun b hb => ?_, fun c hc => (su_c _ _ _ hc).trans (b2 c hc)⟩
        · show fX7_gatherNear_b13 x (nI i) (nI j) r = _
          unfold fX7_gatherNear_b13
          simp (disch := omega) [n_lit, n_eq, n_lt, n_le, n_mul, n_add, n_cl, grd_t, grd_T, su_c, su_s, su_k, wi_in, n_m1', n_m1, f65, hj', n_in]
        · show su r (68 + i) j (nI 0) (68 + i) b = nI 0
          by_cases z : b = j
          · subst z; rw [su_s]
          · rw [su_k _ _ _ z]; exact b1 b (by omega)
      · rintro ⟨k, r⟩ ⟨rfl, b1, b2⟩
        dsimp only at *
        have f65 : r 65 0 = nI N := by rw [b2 65 (by omega)]; exact e65
        refine ⟨r, ?_, b1, b2⟩
        show fX7_gatherNear_b13 x (nI i) (nI N) r = _
        unfold fX7_gatherNear_b13
        simp (disch := omega) [n_lit, n_eq, n_lt, n_le, n_mul, n_add, n_cl, grd_t, grd_T, su_c, su_s, su_k, wi_in, n_m1', n_m1, f65]
    obtain ⟨H, c1, c2, c3⟩ := key
    have hi' : ¬ N ≤ i := by omega
    refine ⟨(nI (i + 1), H), ?_, rfl, fun a b ha hb => ?_, a2.trans (fun c hc => c3 c (by omega))⟩
    · show fX7_gatherNear_b2 x (nI i) s = _
      unfold fX7_gatherNear_b2
      rw [if_neg (by rw [e65, n_le (by omega) (by omega)]; exact hi'), show ((0 : Int32), s) = (nI 0, s) from rfl, c1, Option.bind_some, show nI i + 1 = nI (i + 1) from n_add i 1]
    · by_cases z : a = i
      · subst z; exact c2 b hb
      · show H (68 + a) b = _
        rw [c3 _ (by omega)]; exact a1 a b (by omega) hb
  · rintro ⟨k, s⟩ ⟨rfl, a1, a2⟩
    dsimp only at *
    have e65 : s 65 0 = nI N := by rw [a2 65 (by omega)]; exact h65
    refine ⟨s, ?_, a1, a2⟩
    show fX7_gatherNear_b2 x (nI N) s = _
    unfold fX7_gatherNear_b2
    rw [if_pos (by rw [e65]; exact Int32.le_refl _)]
/-- how many are near, by words -/
theorem cWords (S : Sc h 1 84 σ) (e : FrT (su h 65 0 (nI (σ 0 0))) g) (h0 : ∀ a b, a < σ 0 0 → b < σ 0 0 → g (68 + a) b = nI 0) (hd : d ≤ 99) : ∃ H, lp (fun s : Int32 × Sto => fX7_gatherNear_b46 (nI d) s.1 s.2) FUEL (nI 0, g) = some H ∧ ((∀ a b, a < σ 0 0 → b < σ 0 0 → H (68 + a) b = nI (tgt σ a b d (σ 0 2))) ∧ FrT (su h 65 0 (nI (σ 0 0))) H) := by
  have hN := lN14 S
  have hW := lW S
  have S0 : Sc (su h 65 0 (nI (σ 0 0))) 1 84 σ := Sc_cells S (fun c h1 h2 => su_c _ _ _ (by omega)) (su_c _ _ _ (by omega))
  have q65 : su h 65 0 (nI (σ 0 0)) 65 0 = nI (σ 0 0) := su_s _ _ _ _
  generalize su h 65 0 (nI (σ 0 0)) = hh at *
  refine lp_I (f := fun s : Int32 × Sto => fX7_gatherNear_b46 (nI d) s.1 s.2) (fun i s => s.1 = nI i ∧ (∀ a b, a < σ 0 0 → b < σ 0 0 → s.2 (68 + a) b = nI (tgt σ a b d i)) ∧ FrT hh s.2) _ (σ 0 2) (nI 0, g) ⟨rfl, fun a b ha hb => h0 a b ha hb, e⟩ (by omega) ?_ ?_
  · rintro i ⟨k, s⟩ hi ⟨rfl, a1, a2⟩
    dsimp only at *
    have S2 := Sc_frT S0 a2
    have e65 : s 65 0 = nI (σ 0 0) := by rw [a2 65 (by omega)]; exact q65
    have hsp := b10 S2 hi
    have hlt : bt (btw σ ((σ 9 i : Int) - d) ((σ 9 i : Int) + d)) (σ 10) (σ 0 2) < 2 ^ 14 := bt_lt (fun w hw => by have := b10 S hw; omega)
    have key : ∃ H, lp (fun r : Int32 × Sto => fX7_gatherNear_b65 (nI d) (nI i) (nI (bt (btw σ ((σ 9 i : Int) - d) ((σ 9 i : Int) + d)) (σ 10) (σ 0 2))) r.1 r.2) FUEL (nI 0, s) = some H ∧ ((∀ b, b < σ 0 0 → H (68 + σ 10 i) b = nI (tgt σ (σ 10 i) b d (i + 1))) ∧ ∀ c, c ≠ 68 + σ 10 i → H c = s c) := by
      refine lp_I (f := fun r : Int32 × Sto => fX7_gatherNear_b65 (nI d) (nI i) (nI (bt (btw σ ((σ 9 i : Int) - d) ((σ 9 i : Int) + d)) (σ 10) (σ 0 2))) r.1 r.2) (fun j r => r.1 = nI j ∧ (∀ b, b < j → r.2 (68 + σ 10 i) b = nI (tgt σ (σ 10 i) b d (i + 1))) ∧ (∀ b, j ≤ b → b < σ 0 0 → r.2 (68 + σ 10 i) b = nI (tgt σ (σ 10 i) b d i)) ∧ ∀ c, c ≠ 68 + σ 10 i → r.2 c = s c) _ (σ 0 0) (nI 0, s) ⟨rfl, fun b hb => absurd hb (Nat.not_lt_zero _), fun b _ hb => a1 _ b hsp hb, fun _ _ => rfl⟩ (by omega) ?_ ?_
      · rintro j ⟨k, r⟩ hj ⟨rfl, b1, b2, b3⟩
        dsimp only at *
        have f65 : r 65 0 = nI (σ 0 0) := by rw [b3 65 (by omega)]; exact e65
        have f12 : r 12 i = nI (σ 10 i) := by rw [b3 12 (by omega)]; exact c12 S2 hi
        have hj' : ¬ σ 0 0 ≤ j := by omega
        have hv := b2 j (Nat.le_refl _) hj
        have hn := bt_near (b := j) (d := d) S (σ 9 i)
        have hts := tgt_s σ (σ 10 i) j d i
        refine ⟨(nI (j + 1), su r (68 + σ 10 i) j (nI (tgt σ (σ 10 i) j d (i + 1)))), ?_, rfl, fun b hb => ?_, fun b hb1 hb2 => ?_, fun c hc => (su_c _ _ _ hc).trans (b3 c hc)⟩
        · show fX7_gatherNear_b65 (nI d) (nI i) _ (nI j) r = _
          unfold fX7_gatherNear_b65
          cases z : nearP σ j (σ 9 i) d with
          | true =>
            rw [z] at hn
            rw [z, if_pos ⟨rfl, rfl⟩] at hts
            simp (disch := omega) [n_lit, n_eq, n_lt, n_le, n_mul, n_add, n_cl, grd_t, grd_T, su_c, su_s, su_k, wi_in, n_m1', n_m1, f65, hj', f12, n_in, hb, hn, b2i, asIn1, hv, hts]
          | false =>
            rw [z] at hn
            rw [z, if_neg (fun q => absurd q.2 (by decide)), Nat.add_zero] at hts
            simp (disch := omega) [n_lit, n_eq, n_lt, n_le, n_mul, n_add, n_cl, grd_t, grd_T, su_c, su_s, su_k, wi_in, n_m1', n_m1, f65, hj', f12, n_in, hb, hn, b2i, asIn0, hv, hts]
        · show su r (68 + σ 10 i) j _ (68 + σ 10 i) b = _
          by_cases z : b = j
          · subst z; rw [su_s]
          · rw [su_k _ _ _ z]; exact b1 b (by omega)
        · show su r (68 + σ 10 i) j _ (68 + σ 10 i) b = _
          rw [su_k _ _ _ (by omega)]; exact b2 b (by omega) hb2
      · rintro ⟨k, r⟩ ⟨rfl, b1, b2, b3⟩
        dsimp only at *
        have f65 : r 65 0 = nI (σ 0 0) := by rw [b3 65 (by omega)]; exact e65
        refine ⟨r, ?_, b1, b3⟩
        show fX7_gatherNear_b65 (nI d) (nI i) _ (nI (σ 0 0)) r = _
        unfold fX7_gatherNear_b65
        simp (disch := omega) [n_lit, n_eq, n_lt, n_le, n_mul, n_add, n_cl, grd_t, grd_T, su_c, su_s, su_k, wi_in, n_m1', n_m1, f65]
    obtain ⟨H, c1, c2, c3⟩ := key
    have hi' : ¬ σ 0 2 ≤ i := by omega
    refine ⟨(nI (i + 1), H), ?_, rfl, fun a b ha hb2 => ?_, a2.trans (fun c hc => c3 c (by omega))⟩
    · show fX7_gatherNear_b46 (nI d) (nI i) s = _
      unfold fX7_gatherNear_b46
      rw [if_neg (by rw [cW S2, n_le (by omega) (by omega)]; exact hi'), cNear S2 hi hd, Option.bind_some, show ((0 : Int32), s) = (nI 0, s) from rfl, c1, Option.bind_some, show nI i + 1 = nI (i + 1) from n_add i 1]
    · show H (68 + a) b = _
      by_cases z : a = σ 10 i
      · subst z; exact c2 b hb2
      · rw [c3 _ (by omega), a1 a b ha hb2, tgt_s, if_neg (fun q => z q.1.symm), Nat.add_zero]
  · rintro ⟨k, s⟩ ⟨rfl, a1, a2⟩
    dsimp only at *
    refine ⟨s, ?_, a1, a2⟩
    show fX7_gatherNear_b46 (nI d) (nI (σ 0 2)) s = _
    unfold fX7_gatherNear_b46
    rw [if_pos (by rw [cW (Sc_frT S0 a2)]; exact Int32.le_refl _)]
end GRP
