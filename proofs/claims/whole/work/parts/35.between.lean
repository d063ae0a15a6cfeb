/-! 35: whose words lie between two seconds -/
theorem lp_M {S X : Type} {f : S → Option (S ⊕ X)} (P : S → Prop) (μ : S → Nat) (Q : X → Prop) (hs : ∀ s, P s → (∃ s', f s = some (.inl s') ∧ P s' ∧ μ s' < μ s) ∨ (∃ x, f s = some (.inr x) ∧ Q x)) (s0 : S) (h0 : P s0) (hn : μ s0 < 100000) : ∃ x, lp f FUEL s0 = some x ∧ Q x := by
  have key : ∀ m s, P s → μ s < m → ∃ x, lp f m s = some x ∧ Q x := by
    intro m
    induction m with
    | zero => intro s _ h; exact absurd h (Nat.not_lt_zero _)
    | succ m ih =>
      intro s hp hm
      rcases hs s hp with ⟨s', e, hp', hm'⟩ | ⟨x, e, hq⟩
      · obtain ⟨x, hx, hq⟩ := ih s' hp' (by omega)
        refine ⟨x, ?_, hq⟩
        show (match f s with | none => none | some (.inl s') => lp f m s' | some (.inr x) => some x) = some x
        rw [e]
        exact hx
      · refine ⟨x, ?_, hq⟩
        show (match f s with | none => none | some (.inl s') => lp f m s' | some (.inr x) => some x) = some x
        rw [e]
  exact key FUEL s0 h0 hn
theorem x_le {x : Int32} {s : Nat} (hs : s < 2147483648) : (x ≤ nI s) = (x.toInt ≤ (s : Int)) := propext (by rw [Int32.le_iff_toInt_le, n_toInt hs])
theorem x_lt {x : Int32} {s : Nat} (hs : s < 2147483648) : (x < nI s) = (x.toInt < (s : Int)) := propext (by rw [Int32.lt_iff_toInt_lt, n_toInt hs])
theorem le_x {x : Int32} {s : Nat} (hs : s < 2147483648) : (nI s ≤ x) = ((s : Int) ≤ x.toInt) := propext (by rw [Int32.le_iff_toInt_le, n_toInt hs])
theorem lt_x {x : Int32} {s : Nat} (hs : s < 2147483648) : (nI s < x) = ((s : Int) < x.toInt) := propext (by rw [Int32.lt_iff_toInt_lt, n_toInt hs])
def bt (p : Nat → Bool) (f : Nat → Nat) : Nat → Nat := fo (fun w a => if p w then a ||| 2 ^ f w else a) 0
theorem bt_bit {p : Nat → Bool} {f : Nat → Nat} (n : Nat) : ∀ W, (bt p f W).testBit n = decide (∃ w, w < W ∧ p w = true ∧ f w = n)
  | 0 => by
    show (0 : Nat).testBit n = _
    simp
  | W + 1 => by
    have ih := bt_bit (p := p) (f := f) n W
    show (if p W then bt p f W ||| 2 ^ f W else bt p f W).testBit n = _
    by_cases hp : p W = true
    · rw [if_pos hp, Nat.testBit_or, ih, Nat.testBit_two_pow]
      rw [← Bool.decide_or]
      apply decide_eq_decide.mpr
      constructor
      · rintro (⟨w, h1, h2, h3⟩ | h)
        · exact ⟨w, by omega, h2, h3⟩
        · exact ⟨W, by omega, hp, h⟩
      · rintro ⟨w, h1, h2, h3⟩
        by_cases e : w = W
        · subst e; exact Or.inr h3
        · exact Or.inl ⟨w, by omega, h2, h3⟩
    · rw [if_neg hp, ih]
      apply decide_eq_decide.mpr
      constructor
      · rintro ⟨w, h1, h2, h3⟩; exact ⟨w, by omega, h2, h3⟩
      · rintro ⟨w, h1, h2, h3⟩
        by_cases e : w = W
        · subst e; exact absurd h2 hp
        · exact ⟨w, by omega, h2, h3⟩
theorem bt_lt {p : Nat → Bool} {f : Nat → Nat} {k : Nat} : ∀ {W}, (∀ w, w < W → f w < k) → bt p f W < 2 ^ k
  | 0, _ => by show 0 < 2 ^ k; exact Nat.two_pow_pos k
  | W + 1, h => by
    have ih := bt_lt (p := p) (f := f) (k := k) (W := W) (fun w hw => h w (by omega))
    have h2 : 2 ^ f W < 2 ^ k := Nat.pow_lt_pow_right (by decide) (h W (by omega))
    show (if p W then bt p f W ||| 2 ^ f W else bt p f W) < 2 ^ k
    split
    · exact or_lt ih h2
    · exact ih
theorem bt_none {p : Nat → Bool} {f : Nat → Nat} {m : Nat} : ∀ {n}, m ≤ n → (∀ w, m ≤ w → w < n → p w = false) → bt p f n = bt p f m
  | 0, h, _ => by rw [show m = 0 by omega]
  | n + 1, h, hp => by
    by_cases e : m = n + 1
    · rw [e]
    · show (if p n then bt p f n ||| 2 ^ f n else bt p f n) = _
      rw [hp n (by omega) (by omega)]
      exact bt_none (n := n) (by omega) (fun w h1 h2 => hp w h1 (by omega))
def btw (σ : Gh) (x y : Int) (w : Nat) : Bool := decide (x ≤ (σ 9 w : Int)) && decide ((σ 9 w : Int) ≤ y)
section BET
variable {h : Sto} {σ : Gh}
theorem cFrom (S : Sc h 1 84 σ) (x : Int32) : fX0_firstFrom x h = some (nI (fi (fun w => decide (x.toInt ≤ (σ 9 w : Int))) (σ 0 2))) := by
  have hW := lW S
  have hNow := lNow S
  generalize hm : fi (fun w => decide (x.toInt ≤ (σ 9 w : Int))) (σ 0 2) = m
  have m1 : m ≤ σ 0 2 := hm ▸ fi_le _ _
  have m2 : ∀ w, w < m → (σ 9 w : Int) < x.toInt := fun w hw => by
    have := fi_no (fun w => decide (x.toInt ≤ (σ 9 w : Int))) (σ 0 2) w (by rw [hm]; exact hw)
    simp at this
    exact this
  have m3 : ∀ w, m ≤ w → w < σ 0 2 → x.toInt ≤ (σ 9 w : Int) := fun w h1 h2 => by
    have := fi_at (fun w => decide (x.toInt ≤ (σ 9 w : Int))) (σ 0 2) (by rw [hm]; omega)
    rw [hm] at this
    simp at this
    have := mono S m w h1 h2
    omega
  obtain ⟨r, e, hr⟩ : ∃ r, lp (fun s => fX0_firstFrom_b10 x h s.1 s.2.1 s.2.2) FUEL (0, (h 10 1), 0) = some r ∧ r = nI m := by
    refine lp_M (P := fun s => ∃ l u k : Nat, s = (nI l, nI u, nI k) ∧ l ≤ m ∧ m ≤ u ∧ u ≤ σ 0 2 ∧ u - l + k ≤ 200) (fun s => (200 - s.2.2.toNatClampNeg)) (fun r => r = nI m) ?_ _ ⟨0, σ 0 2, 0, by rw [cW S]; rfl, by omega, m1, by omega, by omega⟩ (by show 200 - _ < 100000; omega)
    rintro s ⟨l, u, k, rfl, h1, h2, h3, h4⟩
    by_cases z : u ≤ l
    · refine Or.inr ⟨nI l, ?_, by rw [show l = m by omega]⟩
      show fX0_firstFrom_b10 x h (nI l) (nI u) (nI k) = _
      unfold fX0_firstFrom_b10
      by_cases z2 : 200 ≤ k
      · simp (disch := omega) [n_lit, n_eq, n_lt, n_le, n_mul, n_add, n_cl, grd_t, grd_T, su_c, su_s, su_k, wi_in, n_m1', n_m1, z2]
      · simp (disch := omega) [n_lit, n_eq, n_lt, n_le, n_mul, n_add, n_cl, grd_t, grd_T, su_c, su_s, su_k, wi_in, n_m1', n_m1, z2, z]
    · have z2 : ¬ 200 ≤ k := by omega
      have hq : (l + u) / 2 < σ 0 2 := by omega
      have hq2 := b9 S hq
      by_cases y : x.toInt ≤ (σ 9 ((l + u) / 2) : Int)
      · refine Or.inl ⟨(nI l, nI ((l + u) / 2), nI (k + 1)), ?_, ⟨l, (l + u) / 2, k + 1, rfl, h1, ?_, by omega, by omega⟩, ?_⟩
        · show fX0_firstFrom_b10 x h (nI l) (nI u) (nI k) = _
          unfold fX0_firstFrom_b10
          simp (disch := omega) [n_lit, n_eq, n_lt, n_le, n_mul, n_add, n_cl, grd_t, grd_T, su_c, su_s, su_k, wi_in, n_m1', n_m1, z2, z, n_div, c11 S hq, @x_le x, y]
        · by_cases q : m ≤ (l + u) / 2
          · exact q
          · have := m2 _ (show (l + u) / 2 < m by omega); omega
        · show 200 - (nI (k + 1)).toNatClampNeg < 200 - (nI k).toNatClampNeg
          rw [n_cl (by omega), n_cl (by omega)]; omega
      · refine Or.inl ⟨(nI ((l + u) / 2 + 1), nI u, nI (k + 1)), ?_, ⟨(l + u) / 2 + 1, u, k + 1, rfl, ?_, h2, h3, by omega⟩, ?_⟩
        · show fX0_firstFrom_b10 x h (nI l) (nI u) (nI k) = _
          unfold fX0_firstFrom_b10
          simp (disch := omega) [n_lit, n_eq, n_lt, n_le, n_mul, n_add, n_cl, grd_t, grd_T, su_c, su_s, su_k, wi_in, n_m1', n_m1, z2, z, n_div, c11 S hq, @x_le x, y]
        · by_cases q : (l + u) / 2 < m
          · omega
          · have := m3 _ (show m ≤ (l + u) / 2 by omega) hq; omega
        · show 200 - (nI (k + 1)).toNatClampNeg < 200 - (nI k).toNatClampNeg
          rw [n_cl (by omega), n_cl (by omega)]; omega
  unfold fX0_firstFrom
  rw [e, hr]
  rfl
theorem cBetw (S : Sc h 1 84 σ) (x y : Int32) : fX0_speakersBetween x y h = some (nI (bt (btw σ x.toInt y.toInt) (σ 10) (σ 0 2))) := by
  have hW := lW S
  have hN := lN14 S
  have hNow := lNow S
  unfold fX0_speakersBetween
  rw [cFrom S x]
  generalize hm : fi (fun w => decide (x.toInt ≤ (σ 9 w : Int))) (σ 0 2) = m
  have m1 : m ≤ σ 0 2 := hm ▸ fi_le _ _
  have m2 : ∀ w, w < m → (σ 9 w : Int) < x.toInt := fun w hw => by
    have := fi_no (fun w => decide (x.toInt ≤ (σ 9 w : Int))) (σ 0 2) w (by rw [hm]; exact hw)
    simp at this
    exact this
  have m3 : ∀ w, m ≤ w → w < σ 0 2 → x.toInt ≤ (σ 9 w : Int) := fun w h1 h2 => by
    have := fi_at (fun w => decide (x.toInt ≤ (σ 9 w : Int))) (σ 0 2) (by rw [hm]; omega)
    rw [hm] at this
    simp at this
    have := mono S m w h1 h2
    omega
  -- the end: the first word behind m later than y
  obtain ⟨e, he1, he2, he3, he4⟩ : ∃ e, m ≤ e ∧ e ≤ σ 0 2 ∧ (∀ w, m ≤ w → w < e → (σ 9 w : Int) ≤ y.toInt) ∧ (e < σ 0 2 → y.toInt < (σ 9 e : Int)) := by
    refine ⟨m + fi (fun i => decide (y.toInt < (σ 9 (m + i) : Int))) (σ 0 2 - m), by omega, ?_, ?_, ?_⟩
    · have := fi_le (fun i => decide (y.toInt < (σ 9 (m + i) : Int))) (σ 0 2 - m); omega
    · intro w h1 h2
      have := fi_no (fun i => decide (y.toInt < (σ 9 (m + i) : Int))) (σ 0 2 - m) (w - m) (by omega)
      rw [show m + (w - m) = w by omega] at this
      simp at this
      exact this
    · intro h1
      have := fi_at (fun i => decide (y.toInt < (σ 9 (m + i) : Int))) (σ 0 2 - m) (by omega)
      simp at this
      exact this
  have b0 : bt (btw σ x.toInt y.toInt) (σ 10) m = 0 := by
    rw [bt_none (m := 0) (by omega) (fun w _ hw => ?_)]
    · rfl
    · have := m2 w hw
      unfold btw
      have : ¬ x.toInt ≤ (σ 9 w : Int) := by omega
      simp [this]
  have bE : bt (btw σ x.toInt y.toInt) (σ 10) (σ 0 2) = bt (btw σ x.toInt y.toInt) (σ 10) e := by
    refine bt_none he2 (fun w h1 h2 => ?_)
    have q1 := he4 (by omega)
    have q2 := mono S e w h1 h2
    unfold btw
    have : ¬ (σ 9 w : Int) ≤ y.toInt := by omega
    simp [this]
  have hl : lp (fun s => fX0_speakersBetween_b9 y h s.1 s.2) FUEL (0, nI m) = some (nI (bt (btw σ x.toInt y.toInt) (σ 10) (σ 0 2))) := by
    refine lp_F (g := fun i => (nI (bt (btw σ x.toInt y.toInt) (σ 10) (m + i)), nI (m + i))) (e - m) _ ?_ (by omega) ?_ ?_
    · show (nI (bt _ _ (m + 0)), nI (m + 0)) = (0, nI m)
      rw [Nat.add_zero, b0]; rfl
    · intro i hi
      have hw : m + i < σ 0 2 := by omega
      have hw' : ¬ σ 0 2 ≤ m + i := by omega
      have q1 := m3 (m + i) (by omega) hw
      have q2 := he3 (m + i) (by omega) (by omega)
      have q3 : ¬ y.toInt < (σ 9 (m + i) : Int) := by omega
      have q4 := b9 S hw
      have q5 := b10 S hw
      have q6 : btw σ x.toInt y.toInt (m + i) = true := by unfold btw; simp [q1, q2]
      show fX0_speakersBetween_b9 y h (nI (bt _ _ (m + i))) (nI (m + i)) = some (.inl (nI (bt _ _ (m + (i + 1))), nI (m + (i + 1))))
      rw [show bt (btw σ x.toInt y.toInt) (σ 10) (m + (i + 1)) = bt (btw σ x.toInt y.toInt) (σ 10) (m + i) ||| 2 ^ σ 10 (m + i) by
        show (if btw σ x.toInt y.toInt (m + i) then bt _ _ (m + i) ||| 2 ^ σ 10 (m + i) else bt _ _ (m + i)) = _
        rw [q6]; rfl]
      unfold fX0_speakersBetween_b9
      simp (disch := omega) [n_lit, n_eq, n_lt, n_le, n_mul, n_add, n_cl, grd_t, grd_T, su_c, su_s, su_k, wi_in, n_m1', n_m1, cW S, hw', c11 S hw, c12 S hw, @x_lt y, q3, n_shl, n_or]
      omega
    · show fX0_speakersBetween_b9 y h (nI (bt _ _ (m + (e - m)))) (nI (m + (e - m))) = _
      rw [show m + (e - m) = e by omega, bE]
      unfold fX0_speakersBetween_b9
      by_cases z : σ 0 2 ≤ e
      · simp (disch := omega) [n_lit, n_eq, n_lt, n_le, n_mul, n_add, n_cl, grd_t, grd_T, su_c, su_s, su_k, wi_in, n_m1', n_m1, cW S, z]
      · have q1 := he4 (by omega)
        have q4 := b9 S (show e < σ 0 2 by omega)
        simp (disch := omega) [n_lit, n_eq, n_lt, n_le, n_mul, n_add, n_cl, grd_t, grd_T, su_c, su_s, su_k, wi_in, n_m1', n_m1, cW S, z, c11 S (show e < σ 0 2 by omega), @x_lt y, q1]
  show Option.bind (lp _ _ _) _ = _
  rw [hl]
  rfl
end BET
