/-! 23: names, what is had of them -/
section SCN
variable {h : Sto} {σ : Gh}
theorem cN (S : Sc h 1 84 σ) : h 2 0 = nI (σ 0 0) := S.1.1.2.1
theorem mN (S : Sc h 1 84 σ) : h 84 0 = nI (σ 0 0) := S.1.1.2.2
theorem lN14 (S : Sc h 1 84 σ) : σ 0 0 ≤ 14 := S.1.1.1
theorem cNow (S : Sc h 1 84 σ) : h 10 0 = nI (σ 0 1) := S.1.2.1.2.1
theorem mNow (S : Sc h 1 84 σ) : h 84 1 = nI (σ 0 1) := S.1.2.1.2.2
theorem lNow (S : Sc h 1 84 σ) : σ 0 1 ≤ 29999 := S.1.2.1.1
theorem cW (S : Sc h 1 84 σ) : h 10 1 = nI (σ 0 2) := S.1.2.2.1.2.1
theorem mW (S : Sc h 1 84 σ) : h 84 2 = nI (σ 0 2) := S.1.2.2.1.2.2
theorem lW (S : Sc h 1 84 σ) : σ 0 2 ≤ 200 := S.1.2.2.1.1
theorem cHas (S : Sc h 1 84 σ) (x : Int32) : fX1_has x h = some (decide (nI 0 ≤ x ∧ x ≤ lI (σ 0 0))) := by
  unfold fX1_has
  rw [wi_in, cN S]
  rfl
theorem mHas (S : Sc h 1 84 σ) (x : Int32) : fX9_isName x h = some (decide (nI 0 ≤ x ∧ x ≤ lI (σ 0 0))) := by
  unfold fX9_isName
  rw [mN S, in_v]
  rfl
theorem mOf (x k : Nat) (hx : x < 14) (hk : k < 8) : fX9_of (nI x) (nI k) h = some (h 84 (6 + 8 * x + k)) := by
  unfold fX9_of
  simp only [n_lit, n_mul, n_add]
  rw [g_in (by omega) (by omega), n_cl (by omega)]
theorem mWd (w k : Nat) (hw : w < 200) (hk : k < 3) : fX9_word (nI w) (nI k) h = some (h 84 (118 + 3 * w + k)) := by
  unfold fX9_word
  simp only [n_lit, n_mul, n_add]
  rw [g_in (by omega) (by omega), n_cl (by omega)]
end SCN
-- the ways of a finding
theorem ag_f0 {f g : Sto → Option (Int32 × Sto)} {h : Sto} (I : Inv h) (a : f h = (fX8_tellFinding (-1000001) h).bind fun q => some (q.1, q.2)) (b : ∀ h1, h1 = su h 61 0 (h 61 0 + 1) → g h1 = (fX9_finds (-1000001) h1).bind fun q => some (q.1, q.2)) : Agr f g h :=
  ⟨_, _, _, by rw [a, tf0]; rfl, by rw [b _ rfl, mf0]; rfl, Inv_find I 0 (by omega)⟩
theorem ag_f1 {f g : Sto → Option (Int32 × Sto)} {h : Sto} (I : Inv h) (a : f h = (fX8_tellFinding (-1000002) h).bind fun q => some (q.1, q.2)) (b : ∀ h1, h1 = su h 61 1 (h 61 1 + 1) → g h1 = (fX9_finds (-1000002) h1).bind fun q => some (q.1, q.2)) : Agr f g h :=
  ⟨_, _, _, by rw [a, tf1]; rfl, by rw [b _ rfl, mf1]; rfl, Inv_find I 1 (by omega)⟩
theorem ag_f2 {f g : Sto → Option (Int32 × Sto)} {h : Sto} (I : Inv h) (a : f h = (fX8_tellFinding (-1000003) h).bind fun q => some (q.1, q.2)) (b : ∀ h1, h1 = su h 61 2 (h 61 2 + 1) → g h1 = (fX9_finds (-1000003) h1).bind fun q => some (q.1, q.2)) : Agr f g h :=
  ⟨_, _, _, by rw [a, tf2]; rfl, by rw [b _ rfl, mf2]; rfl, Inv_find I 2 (by omega)⟩
theorem ag_f3 {f g : Sto → Option (Int32 × Sto)} {h : Sto} (I : Inv h) (a : f h = (fX8_tellFinding (-1000004) h).bind fun q => some (q.1, q.2)) (b : ∀ h1, h1 = su h 61 3 (h 61 3 + 1) → g h1 = (fX9_finds (-1000004) h1).bind fun q => some (q.1, q.2)) : Agr f g h :=
  ⟨_, _, _, by rw [a, tf3]; rfl, by rw [b _ rfl, mf3]; rfl, Inv_find I 3 (by omega)⟩
theorem ag_f4 {f g : Sto → Option (Int32 × Sto)} {h : Sto} (I : Inv h) (a : f h = (fX8_tellFinding (-1000005) h).bind fun q => some (q.1, q.2)) (b : ∀ h1, h1 = su h 61 4 (h 61 4 + 1) → g h1 = (fX9_finds (-1000005) h1).bind fun q => some (q.1, q.2)) : Agr f g h :=
  ⟨_, _, _, by rw [a, tf4]; rfl, by rw [b _ rfl, mf4]; rfl, Inv_find I 4 (by omega)⟩
theorem ag_f5 {f g : Sto → Option (Int32 × Sto)} {h : Sto} (I : Inv h) (a : f h = (fX8_tellFinding (-1000006) h).bind fun q => some (q.1, q.2)) (b : ∀ h1, h1 = su h 61 5 (h 61 5 + 1) → g h1 = (fX9_finds (-1000006) h1).bind fun q => some (q.1, q.2)) : Agr f g h :=
  ⟨_, _, _, by rw [a, tf5]; rfl, by rw [b _ rfl, mf5]; rfl, Inv_find I 5 (by omega)⟩
theorem ag_f6 {f g : Sto → Option (Int32 × Sto)} {h : Sto} (I : Inv h) (a : f h = (fX8_tellFinding (-1000007) h).bind fun q => some (q.1, q.2)) (b : ∀ h1, h1 = su h 61 6 (h 61 6 + 1) → g h1 = (fX9_finds (-1000007) h1).bind fun q => some (q.1, q.2)) : Agr f g h :=
  ⟨_, _, _, by rw [a, tf6]; rfl, by rw [b _ rfl, mf6]; rfl, Inv_find I 6 (by omega)⟩
/-- the store behind the class's finding is the scene that it was -/
theorem Sc_find {h : Sto} {σ : Gh} {k : Nat} {v : Int32} (S : Sc h 1 84 σ) : Sc (su h 61 k v) 1 84 σ := by
  have e : ∀ c, c ≠ 61 → su h 61 k v c = h c := fun c h1 => su_c _ _ _ h1
  exact Sc_congr (by rw [e _ (by omega)]) (fun j h1 h2 h3 => e _ (by omega)) (e _ (by omega)) (fun j _ => by rw [e 84 (by omega)]) S
theorem grd_t {α : Type} {p : Prop} [Decidable p] {o : Option α} (h : p) : grd p o = o := if_pos h
theorem grd_T {α : Type} [Decidable True] {o : Option α} : grd True o = o := if_pos trivial
theorem bs_push {f g : Nat → Nat} {n : Nat} (h1 : ∀ i, i < n → f i = g i) (h2 : f n = 0) : bs f (n + 1) = bs g n := by
  show bs f n + f n * 2 ^ n = bs g n
  rw [h2, bs_congr h1]
  omega
-- name
theorem st_name (a b : Int32) (h : Sto) (I : Inv h) : Agr (fX8_name a b) (fX9_name a b) h := by
  obtain ⟨σ, S⟩ := I.1
  have hN := lN14 S
  by_cases h1 : nI 0 ≤ a ∧ a ≤ nI 7
  · by_cases h2 : nI 1 ≤ b ∧ b ≤ nI 999
    · by_cases h3 : σ 0 0 < 14
      · obtain ⟨ka, ea, -, hka⟩ := arg_in (by omega) (by omega) h1
        obtain ⟨g, eb, hg1, hg2⟩ := arg_in (by omega) (by omega) h2
        have h3' : ¬ σ 0 0 = 14 := by omega
        generalize eN : σ 0 0 = N at *
        have ec : fX8_name a b h = some (nI N, su (su (su (su (su (su (su h 4 N a) 5 N b) 6 N (nI 1023)) 7 N (nI 0)) 8 N (lI 0)) 9 N (nI 0)) 2 0 (nI (N + 1))) := by
          unfold fX8_name fX1_add
          simp (disch := omega) [n_lit, n_eq, n_lt, n_le, n_mul, n_add, n_cl, grd_t, grd_T, su_c, su_s, su_k, wi_in, n_m1', n_m1, h1, h2, cN S, eN, h3]
        generalize hh1 : su (su (su (su (su (su (su h 4 N a) 5 N b) 6 N (nI 1023)) 7 N (nI 0)) 8 N (lI 0)) 9 N (nI 0)) 2 0 (nI (N + 1)) = h1s at ec
        have e84 : h1s 84 = h 84 := by rw [← hh1]; simp (disch := omega) [su_c, su_s, su_k]
        have em : fX9_name a b h1s = some (nI N, su (su (su (su (su (su (su (su (su h1s 84 (6 + 8 * N) a) 84 (6 + 8 * N + 1) b) 84 (6 + 8 * N + 2) (nI 1023)) 84 (6 + 8 * N + 3) (nI 0)) 84 (6 + 8 * N + 4) (lI 0)) 84 (6 + 8 * N + 5) (nI 0)) 84 (6 + 8 * N + 6) (nI 0)) 84 (6 + 8 * N + 7) (nI 0)) 84 0 (nI (N + 1))) := by
          unfold fX9_name
          simp (disch := omega) [in_n _ 0 7 (by omega) (by omega), in_n _ 1 999 (by omega) (by omega), n_lit, n_eq, n_lt, n_le, n_mul, n_add, n_cl, grd_t, grd_T, su_c, su_s, su_k, wi_in, n_m1', n_m1, h1, h2, e84, mN S, eN, h3']
        refine agr _ _ _ ec em (Inv_scene (τ := fun r i => if r = 0 ∧ i = 0 then N + 1 else if i = N ∧ r = 1 then ka else if i = N ∧ r = 2 then g else if i = N ∧ r = 3 then 1023 else if i = N ∧ 4 ≤ r ∧ r ≤ 8 then 0 else σ r i) I ?_ ?_ ?_ ?_ ?_ ?_ ?_)
        · subst hh1 ea eb eN
          obtain ⟨⟨⟨a1, a2, a3⟩, ⟨b1, b2, b3⟩, ⟨c1, c2, c3⟩, d1, d2⟩, T, ⟨s1, s2⟩, W, P⟩ := S
          refine ⟨⟨⟨?_, ?_, ?_⟩, ⟨?_, ?_, ?_⟩, ⟨?_, ?_, ?_⟩, ?_, ?_⟩, fun i hi => ?_, ⟨?_, ?_⟩, ?_, ?_⟩
          · simp; omega
          · simp (disch := omega) [su_c, su_s, su_k]
          · simp (disch := omega) [su_c, su_s, su_k]
          · simpa using b1
          · simp (disch := omega) [su_c, su_s, su_k]; exact b2
          · simp (disch := omega) [su_c, su_s, su_k]; exact b3
          · simpa using c1
          · simp (disch := omega) [su_c, su_s, su_k]; exact c2
          · simp (disch := omega) [su_c, su_s, su_k]; exact c3
          · simp (disch := omega) [su_c, su_s, su_k]; exact d1
          · simp (disch := omega) [su_c, su_s, su_k]; exact d2
          · by_cases ei : i = σ 0 0
            · subst ei
              refine ⟨⟨?_, ?_, ?_⟩, ⟨?_, ?_, ?_, ?_⟩, ⟨?_, ?_, ?_, ?_⟩, ⟨?_, ?_, ?_⟩, ⟨?_, ?_, ?_⟩, ⟨?_, ?_, ?_⟩, ⟨?_, ?_⟩, ⟨?_, ?_⟩⟩ <;> simp (disch := omega) [su_c, su_s, su_k] <;> omega
            · have hi2 : i < σ 0 0 := by simp at hi; omega
              have := T i hi2
              simp (disch := omega) [su_c, su_s, su_k, ei]
              refine ⟨⟨this.1.1, this.1.2.1, this.1.2.2⟩, this.2.1, this.2.2.1, this.2.2.2.1, ⟨this.2.2.2.2.1.1, this.2.2.2.2.1.2.1, by omega⟩, this.2.2.2.2.2.1, this.2.2.2.2.2.2.1, this.2.2.2.2.2.2.2⟩
          · simp (disch := omega) [su_c, su_s, su_k]
            rw [bs_push (g := σ 7) (fun i hi => by simp; omega) (by simp)]
            exact s1
          · simp (disch := omega) [su_c, su_s, su_k]
            rw [bs_push (g := σ 8) (fun i hi => by simp; omega) (by simp)]
            exact s2
          · exact ScW_c W c1 (by simp (disch := omega) [su_c, su_s, su_k]) (by simp (disch := omega) [su_c, su_s, su_k]) (by simp (disch := omega) [su_c, su_s, su_k]) (by simp (disch := omega) [su_c, su_s, su_k]) (fun j h1 h2 => by simp (disch := omega) [su_c, su_s, su_k]) (by simp) (by simp) (by simp) (by funext j; simp) (by funext j; simp) (by funext j; simp)
          · exact ScP_c P (by simp (disch := omega) [su_c, su_s, su_k]) (fun j h1 => by simp (disch := omega) [su_c, su_s, su_k]) (by funext j; simp) (by simp)
        · intro c hc
          subst hh1
          simp (disch := omega) [su_c, su_s, su_k]
        · intro c hc
          subst hh1
          simp (disch := omega) [su_c, su_s, su_k]
        · subst hh1; simp (disch := omega) [su_c, su_s, su_k]
        · intro t ht; subst hh1; simp (disch := omega) [su_c, su_s, su_k]
        · subst hh1; simp (disch := omega) [su_c, su_s, su_k]
        · intro j hj; subst hh1; simp (disch := omega) [su_c, su_s, su_k]
      · refine ag_f1 I ?_ ?_
        · unfold fX8_name
          simp (disch := omega) [n_lit, n_eq, n_lt, n_le, n_mul, n_add, n_cl, grd_t, grd_T, su_c, su_s, su_k, wi_in, n_m1', n_m1, h1, h2, cN S, h3]
        · intro h1' e
          subst e
          have h4 : σ 0 0 = 14 := by omega
          unfold fX9_name
          simp (disch := omega) [in_n _ 0 7 (by omega) (by omega), in_n _ 1 999 (by omega) (by omega), n_lit, n_eq, n_lt, n_le, n_mul, n_add, n_cl, grd_t, grd_T, su_c, su_s, su_k, wi_in, n_m1', n_m1, h1, h2, mN (Sc_find S), h4]
    · refine ag_f0 I ?_ ?_
      · unfold fX8_name
        simp [wi_in, n_lit, h1, h2]
      · intro h1' _
        unfold fX9_name
        simp [in_n _ 0 7 (by omega) (by omega), in_n _ 1 999 (by omega) (by omega), h1, h2]
  · refine ag_f0 I ?_ ?_
    · unfold fX8_name
      simp [wi_in, n_lit, h1]
    · intro h1' _
      unfold fX9_name
      simp [in_n _ 0 7 (by omega) (by omega), h1]
