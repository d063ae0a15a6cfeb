/-! 40: say, go -/
theorem lp_J {S1 S2 X1 X2 A : Type} {f : S1 → Option (S1 ⊕ X1)} {g : S2 → Option (S2 ⊕ X2)} (P : A → Prop) (μ : A → Nat) (c : A → Sto → S1) (m : A → Sto → S2) (Q : (Sto → X1) → (Sto → X2) → Prop)
    (step : ∀ a, P a → (∃ a', P a' ∧ μ a' < μ a ∧ (∀ o, f (c a o) = some (.inl (c a' o))) ∧ (∀ o, g (m a o) = some (.inl (m a' o)))) ∨ (∃ x y, Q x y ∧ (∀ o, f (c a o) = some (.inr (x o))) ∧ ∀ o, g (m a o) = some (.inr (y o)))) (a : A) (h0 : P a) (hn : μ a < 100000) :
    ∃ x y, Q x y ∧ (∀ o, lp f FUEL (c a o) = some (x o)) ∧ (∀ o, lp g FUEL (m a o) = some (y o)) := by
  have key : ∀ n a, P a → μ a < n → ∃ x y, Q x y ∧ (∀ o, lp f n (c a o) = some (x o)) ∧ (∀ o, lp g n (m a o) = some (y o)) := by
    intro n
    induction n with
    | zero => intro a _ h; exact absurd h (Nat.not_lt_zero _)
    | succ n ih =>
      intro a hp hm
      rcases step a hp with ⟨a', hp', hm', e1, e2⟩ | ⟨x, y, q, e1, e2⟩
      · obtain ⟨x, y, q, h1, h2⟩ := ih a' hp' (by omega)
        refine ⟨x, y, q, fun o => ?_, fun o => ?_⟩
        · show (match f (c a o) with | none => none | some (.inl s') => lp f n s' | some (.inr x) => some x) = some (x o)
          rw [e1]
          exact h1 o
        · show (match g (m a o) with | none => none | some (.inl s') => lp g n s' | some (.inr x) => some x) = some (y o)
          rw [e2]
          exact h2 o
      · refine ⟨x, y, q, fun o => ?_, fun o => ?_⟩
        · show (match f (c a o) with | none => none | some (.inl s') => lp f n s' | some (.inr x) => some x) = some (x o)
          rw [e1]
        · show (match g (m a o) with | none => none | some (.inl s') => lp g n s' | some (.inr x) => some x) = some (y o)
          rw [e2]
  exact key FUEL a h0 hn
def Fr (h H : Sto) : Prop := (∀ c, c = 0 ∨ (14 < c ∧ c ≠ 84) → H c = h c) ∧ (∀ j, j = 4 ∨ 718 ≤ j → H 84 j = h 84 j)
theorem Fr.refl (h : Sto) : Fr h h := ⟨fun _ _ => rfl, fun _ _ => rfl⟩
theorem Fr.trans {a b c : Sto} (x : Fr a b) (y : Fr b c) : Fr a c := ⟨fun i hi => (y.1 i hi).trans (x.1 i hi), fun j hj => (y.2 j hj).trans (x.2 j hj)⟩
theorem Inv_fr {h H : Sto} {τ : Gh} (I : Inv h) (S : Sc H 1 84 τ) (F : Fr h H) : Inv H :=
  Inv_scene I S (fun c hc => F.1 c (by omega)) (fun c hc => F.1 c (by omega)) (by rw [F.1 16 (by omega)]) (fun t ht => F.1 _ (by omega)) (F.1 _ (by omega)) (fun j hj => F.2 j (by omega))
section GO
variable {h : Sto} {σ : Gh} {n : Nat}
theorem y_speak (a b : Int32) (o : Sto) : fX3_isSpeaking a b (hy h o) = fX3_isSpeaking a b h := rfl
theorem y_does (a b : Int32) (o : Sto) : fX9_doesSpeak a b (hy o h) = fX9_doesSpeak a b h := rfl
theorem y_of (a b : Int32) (o : Sto) : fX9_of a b (hy o h) = fX9_of a b h := rfl
theorem y_full (o : Sto) : fX0_isFull (hy h o) = fX0_isFull h := rfl
theorem y_top (a : Int32) (o : Sto) : fX3_topicOf a (hy h o) = fX3_topicOf a h := rfl
theorem y_tells (a : Int32) (o : Sto) : fX9_tellsNow a (hy o h) = fX9_tellsNow a h := rfl
theorem Sc_lost (S : Sc h 1 84 σ) : Sc (su (su h 10 2 (h 10 2 + nI 1)) 84 3 (h 84 3 + nI 1)) 1 84 σ := by
  have hN := lN14 S
  have hW := lW S
  obtain ⟨⟨⟨a1, a2, a3⟩, ⟨b1, b2, b3⟩, ⟨c1, c2', c3⟩, d1, d2⟩, T, ⟨s1, s2⟩, W, P⟩ := S
  have d1 : h 10 2 = h 84 3 := d1
  refine ⟨⟨⟨a1, ?_, ?_⟩, ⟨b1, ?_, ?_⟩, ⟨c1, ?_, ?_⟩, ?_, ?_⟩, ?_, ⟨?_, ?_⟩, ?_, ?_⟩
  · rw [← a2]; simp (disch := omega) [su_c, su_s, su_k]
  · rw [← a3]; simp (disch := omega) [su_c, su_s, su_k]
  · rw [← b2]; simp (disch := omega) [su_c, su_s, su_k]
  · rw [← b3]; simp (disch := omega) [su_c, su_s, su_k]
  · rw [← c2']; simp (disch := omega) [su_c, su_s, su_k]
  · rw [← c3]; simp (disch := omega) [su_c, su_s, su_k]
  · simp (disch := omega) [su_c, su_s, su_k, d1]
  · simp (disch := omega) [su_c, su_s, su_k]; exact d2
  · exact ScT_c T a1 (fun j h1 h2 => by simp (disch := omega) [su_c, su_s, su_k]) (fun j h1 h2 => by simp (disch := omega) [su_c, su_s, su_k]) rfl (fun j h1 h2 => rfl)
  · rw [← s1]; simp (disch := omega) [su_c, su_s, su_k]
  · rw [← s2]; simp (disch := omega) [su_c, su_s, su_k]
  · exact ScW_c W c1 (by simp (disch := omega) [su_c, su_s, su_k]) (by simp (disch := omega) [su_c, su_s, su_k]) (by simp (disch := omega) [su_c, su_s, su_k]) (by simp (disch := omega) [su_c, su_s, su_k]) (fun j h1 h2 => by simp (disch := omega) [su_c, su_s, su_k]) rfl (Nat.le_refl _) (Nat.le_refl _) rfl rfl rfl
  · exact ScP_c P (by simp (disch := omega) [su_c, su_s, su_k]) (fun j h1 => by simp (disch := omega) [su_c, su_s, su_k]) rfl (Nat.le_refl _)
theorem goJ (S : Sc h 1 84 σ) (hn : n < σ 0 0) (x1 x2 : Int32) : ∃ H τ, (∀ o, fX3_passSecond_b2 (nI n) (hy h o) = some (.inl (nI (n + 1), hy H o))) ∧ (∀ o, fX9_go_b49 x1 x2 (nI n) (hy o h) = some (.inl (nI (n + 1), hy o H))) ∧ Sc H 1 84 τ ∧ τ 0 0 = σ 0 0 ∧ τ 0 1 = σ 0 1 ∧ Fr h H := by
  have hN := lN14 S
  have hNow := lNow S
  have hW := lW S
  have z1 : ¬ σ 0 0 ≤ n := by omega
  have g7 := f7 S n hn
  have m6 : ∀ o, fX9_of (nI n) 6 (hy o h) = some (nI (σ 7 n)) := fun o => (y_of _ _ o).trans (o6 S hn)
  have cb : ∀ o o', fX8_hasBit (h 2 1) (nI n) (hy o o') = some (decide (σ 7 n = 1)) := fun o o' => cBit S hn _
  have cs : ∀ o, fX3_isSpeaking (nI n) (nI (σ 0 1)) (hy h o) = some (spS σ n (σ 0 1)) := fun o => (y_speak _ _ o).trans (cSpeak S hn (by omega))
  have ms : ∀ o, fX9_doesSpeak (nI n) (nI (σ 0 1)) (hy o h) = some (spS σ n (σ 0 1)) := fun o => (y_does _ _ o).trans (mSpeak S hn (by omega))
  have cf : ∀ o, fX0_isFull (hy h o) = some (decide (200 ≤ σ 0 2)) := fun o => (y_full o).trans (cFull S)
  have ct : ∀ o, fX3_topicOf (nI n) (hy h o) = some (nI (tpS σ n)) := fun o => (y_top _ o).trans (cTop S hn)
  have mt : ∀ o, fX9_tellsNow (nI n) (hy o h) = some (nI (tpS σ n)) := fun o => (y_tells _ o).trans (mTop S hn)
  by_cases z7 : σ 7 n = 1
  · refine ⟨h, σ, fun o => ?_, fun o => ?_, S, rfl, rfl, Fr.refl h⟩
    · unfold fX3_passSecond_b2
      simp (disch := omega) [n_lit, n_eq, n_lt, n_le, n_mul, n_add, n_cl, grd_t, grd_T, su_c, su_s, su_k, wi_in, n_m1', n_m1, hy_l, cN S, z1, cb, z7]
    · unfold fX9_go_b49
      rw [m6]
      simp (disch := omega) [n_lit, n_eq, n_lt, n_le, n_mul, n_add, n_cl, grd_t, grd_T, su_c, su_s, su_k, wi_in, n_m1', n_m1, hy_r, mN S, z1, z7]
  · have z70 : σ 7 n = 0 := by omega
    by_cases zs : spS σ n (σ 0 1) = true
    · by_cases zf : 200 ≤ σ 0 2
      · have eL : hy (su h 10 2 (h 10 2 + nI 1)) (su h 84 3 (h 84 3 + nI 1)) = su (su h 10 2 (h 10 2 + nI 1)) 84 3 (h 84 3 + nI 1) := by
          funext c
          by_cases q : c < 83
          · simp (disch := omega) [hy_l, su_c]
          · rw [hy_r (by omega)]
            by_cases q2 : c = 84
            · subst q2
              funext j
              by_cases q3 : j = 3
              · subst q3; simp (disch := omega) [su_c, su_s, su_k]
              · simp (disch := omega) [su_c, su_s, su_k, q3]
            · simp (disch := omega) [su_c]
        refine ⟨hy (su h 10 2 (h 10 2 + nI 1)) (su h 84 3 (h 84 3 + nI 1)), σ, fun o => ?_, fun o => ?_, ?_, rfl, rfl, ?_⟩
        · unfold fX3_passSecond_b2
          simp (disch := omega) [n_lit, n_eq, n_lt, n_le, n_mul, n_add, n_cl, grd_t, grd_T, su_c, su_s, su_k, wi_in, n_m1', n_m1, hy_l, cN S, cNow S, z1, cb, z70, cs, zs, cf, zf, su_hl, hy_hl]
        · have hs : fX9_isSaid (nI n) (nI (tpS σ n)) (hy o h) = some (false, hy o h) := by
            unfold fX9_isSaid
            have : σ 0 2 = 200 := by omega
            simp (disch := omega) [n_lit, n_eq, n_lt, n_le, n_mul, n_add, n_cl, grd_t, grd_T, su_c, su_s, su_k, wi_in, n_m1', n_m1, hy_r, mW S, this]
          unfold fX9_go_b49
          rw [m6, mt, Option.bind_some, Option.bind_some, hs]
          simp (disch := omega) [n_lit, n_eq, n_lt, n_le, n_mul, n_add, n_cl, grd_t, grd_T, su_c, su_s, su_k, wi_in, n_m1', n_m1, hy_r, mN S, mNow S, z1, z70, ms, zs, su_hr, hy_hr]
        · rw [eL]; exact Sc_lost S
        · rw [eL]
          refine ⟨fun c hc => ?_, fun j hj => ?_⟩
          · simp (disch := omega) [su_c]
          · simp (disch := omega) [su_c, su_s, su_k]
      · obtain ⟨H, a1, a2, a3, a4, a5, a6⟩ := sayJ S hn (tpS_le S hn) (show σ 0 2 < 200 by omega)
        have e3 : H 84 3 = h 84 3 := a6 3 (by omega)
        have eH : su H 84 3 (h 84 3 + nI 0) = H := by rw [← e3]; exact su_self2 (Int32.add_zero _).symm
        refine ⟨H, _, fun o => ?_, fun o => ?_, a3, wrd_0 _ _ _ (by omega), wrd_0 _ _ _ (by omega), ?_⟩
        · unfold fX3_passSecond_b2
          simp (disch := omega) [n_lit, n_eq, n_lt, n_le, n_mul, n_add, n_cl, grd_t, grd_T, su_c, su_s, su_k, wi_in, n_m1', n_m1, hy_l, cN S, cNow S, z1, cb, z70, cs, zs, cf, zf, ct, a1]
        · unfold fX9_go_b49
          rw [m6, mt, Option.bind_some, Option.bind_some, a2]
          simp (disch := omega) [n_lit, n_eq, n_lt, n_le, n_mul, n_add, n_cl, grd_t, grd_T, su_c, su_s, su_k, wi_in, n_m1', n_m1, hy_r, mN S, mNow S, z1, z70, ms, zs, su_hr, hy_hr, eH]
        · exact ⟨fun c hc => a5 c (by omega), fun j hj => a6 j (by omega)⟩
    · refine ⟨h, σ, fun o => ?_, fun o => ?_, S, rfl, rfl, Fr.refl h⟩
      · unfold fX3_passSecond_b2
        simp (disch := omega) [n_lit, n_eq, n_lt, n_le, n_mul, n_add, n_cl, grd_t, grd_T, su_c, su_s, su_k, wi_in, n_m1', n_m1, hy_l, cN S, cNow S, z1, cb, z70, cs, zs]
      · unfold fX9_go_b49
        rw [m6]
        simp (disch := omega) [n_lit, n_eq, n_lt, n_le, n_mul, n_add, n_cl, grd_t, grd_T, su_c, su_s, su_k, wi_in, n_m1', n_m1, hy_r, mN S, mNow S, z1, z70, ms, zs]
theorem Sc_tick (S : Sc h 1 84 σ) (hlt : σ 0 1 < 29999) : Sc (su (su h 10 0 (nI (σ 0 1 + 1))) 84 1 (nI (σ 0 1 + 1))) 1 84 (sg σ 0 1 (σ 0 1 + 1)) := by
  have hN := lN14 S
  have hW := lW S
  obtain ⟨⟨⟨a1, a2, a3⟩, ⟨b1, b2, b3⟩, ⟨c1, c2', c3⟩, d1, d2⟩, T, ⟨s1, s2⟩, W, P⟩ := S
  refine ⟨⟨⟨a1, ?_, ?_⟩, ⟨?_, ?_, ?_⟩, ⟨c1, ?_, ?_⟩, ?_, ?_⟩, ?_, ⟨?_, ?_⟩, ?_, ?_⟩
  · rw [sg_i _ _ _ (by omega), ← a2]; simp (disch := omega) [su_c, su_s, su_k]
  · rw [sg_i _ _ _ (by omega), ← a3]; simp (disch := omega) [su_c, su_s, su_k]
  · rw [sg_s]; omega
  · rw [sg_s]; simp (disch := omega) [su_c, su_s, su_k]
  · rw [sg_s]; simp (disch := omega) [su_c, su_s, su_k]
  · rw [sg_i _ _ _ (by omega), ← c2']; simp (disch := omega) [su_c, su_s, su_k]
  · rw [sg_i _ _ _ (by omega), ← c3]; simp (disch := omega) [su_c, su_s, su_k]
  · simp (disch := omega) [su_c, su_s, su_k]; exact d1
  · simp (disch := omega) [su_c, su_s, su_k]; exact d2
  · exact ScT_c T a1 (fun j h1 h2 => by simp (disch := omega) [su_c, su_s, su_k]) (fun j h1 h2 => by simp (disch := omega) [su_c, su_s, su_k]) (sg_i _ _ _ (by omega)) (fun j h1 h2 => sg_r _ _ _ (by omega))
  · rw [sg_i _ _ _ (by omega), sg_r _ _ _ (by omega), ← s1]; simp (disch := omega) [su_c, su_s, su_k]
  · rw [sg_i _ _ _ (by omega), sg_r _ _ _ (by omega), ← s2]; simp (disch := omega) [su_c, su_s, su_k]
  · refine ScW_c W c1 (by simp (disch := omega) [su_c, su_s, su_k]) (by simp (disch := omega) [su_c, su_s, su_k]) (by simp (disch := omega) [su_c, su_s, su_k]) (by simp (disch := omega) [su_c, su_s, su_k]) (fun j h1 h2 => by simp (disch := omega) [su_c, su_s, su_k]) (sg_i _ _ _ (by omega)) ?_ ?_ (sg_r _ _ _ (by omega)) (sg_r _ _ _ (by omega)) (sg_r _ _ _ (by omega))
    · rw [sg_i _ _ _ (by omega)]; exact Nat.le_refl _
    · rw [sg_s]; omega
  · refine ScP_c P (by simp (disch := omega) [su_c, su_s, su_k]) (fun j h1 => by simp (disch := omega) [su_c, su_s, su_k]) (sg_r _ _ _ (by omega)) ?_
    rw [sg_i _ _ _ (by omega)]; exact Nat.le_refl _
/-- a second goes by -/
theorem secJ (S : Sc h 1 84 σ) (hlt : σ 0 1 < 29999) (x1 x2 : Int32) : ∃ H τ, (∀ o, fX3_passSecond (hy h o) = some (hy H o)) ∧ (∀ o, ((lp (fun s => fX9_go_b49 x1 x2 s.1 s.2) FUEL (0, hy o h)).bind fun v_28 => (some (su v_28 84 1 ((v_28 84 1) + 1)))) = some (hy o H)) ∧ Sc H 1 84 τ ∧ τ 0 1 = σ 0 1 + 1 ∧ Fr h H := by
  have hN := lN14 S
  have key : ∃ x y, (∃ H τ, x = (fun o => hy H o) ∧ y = (fun o => hy o H) ∧ Sc H 1 84 τ ∧ τ 0 0 = σ 0 0 ∧ τ 0 1 = σ 0 1 ∧ Fr h H) ∧ (∀ o, lp (fun s : Int32 × Sto => fX3_passSecond_b2 s.1 s.2) FUEL (nI 0, hy h o) = some (x o)) ∧ (∀ o, lp (fun s : Int32 × Sto => fX9_go_b49 x1 x2 s.1 s.2) FUEL (nI 0, hy o h) = some (y o)) := by
    refine lp_J (A := Nat × Sto) (fun a => a.1 ≤ σ 0 0 ∧ ∃ τ, Sc a.2 1 84 τ ∧ τ 0 0 = σ 0 0 ∧ τ 0 1 = σ 0 1 ∧ Fr h a.2) (fun a => σ 0 0 - a.1) (fun a o => (nI a.1, hy a.2 o)) (fun a o => (nI a.1, hy o a.2)) (fun x y => ∃ H τ, x = (fun o => hy H o) ∧ y = (fun o => hy o H) ∧ Sc H 1 84 τ ∧ τ 0 0 = σ 0 0 ∧ τ 0 1 = σ 0 1 ∧ Fr h H) ?_ (0, h) ⟨Nat.zero_le _, σ, S, rfl, rfl, Fr.refl h⟩ (by show σ 0 0 - 0 < 100000; omega)
    rintro ⟨i, H⟩ ⟨hi, τ, S2, eN, eT, F⟩
    have S2 : Sc H 1 84 τ := S2
    by_cases z : i < σ 0 0
    · obtain ⟨H', τ', a1, a2, a3, a4, a5, a6⟩ := goJ S2 (show i < τ 0 0 by rw [eN]; exact z) x1 x2
      exact Or.inl ⟨(i + 1, H'), ⟨z, τ', a3, a4.trans eN, a5.trans eT, F.trans a6⟩, by show σ 0 0 - (i + 1) < σ 0 0 - i; omega, a1, a2⟩
    · have hi : i = σ 0 0 := by have : i ≤ σ 0 0 := hi; omega
      refine Or.inr ⟨fun o => hy H o, fun o => hy o H, ⟨H, τ, rfl, rfl, S2, eN, eT, F⟩, fun o => ?_, fun o => ?_⟩
      · show fX3_passSecond_b2 (nI i) (hy H o) = _
        unfold fX3_passSecond_b2
        simp (disch := omega) [n_lit, n_eq, n_lt, n_le, n_mul, n_add, n_cl, grd_t, grd_T, su_c, su_s, su_k, wi_in, n_m1', n_m1, hy_l, cN S2, eN, hi]
      · show fX9_go_b49 x1 x2 (nI i) (hy o H) = _
        unfold fX9_go_b49
        simp (disch := omega) [n_lit, n_eq, n_lt, n_le, n_mul, n_add, n_cl, grd_t, grd_T, su_c, su_s, su_k, wi_in, n_m1', n_m1, hy_r, mN S2, eN, hi]
  obtain ⟨x, y, ⟨H, τ, rfl, rfl, S2, eN, eT, F⟩, e1, e2⟩ := key
  have S3 := Sc_tick S2 (by omega)
  have ec := cNow S2
  have em := mNow S2
  have eL : hy (su H 10 0 (nI (τ 0 1 + 1))) (su H 84 1 (nI (τ 0 1 + 1))) = su (su H 10 0 (nI (τ 0 1 + 1))) 84 1 (nI (τ 0 1 + 1)) := by
    rw [← su_hr _ _ (by omega), show hy (su H 10 0 (nI (τ 0 1 + 1))) H = su (hy H H) 10 0 (nI (τ 0 1 + 1)) from (su_hl _ _ (by omega)).symm, hy_self]
  rw [← eL] at S3
  refine ⟨_, _, fun o => ?_, fun o => ?_, S3, ?_, ?_⟩
  · unfold fX3_passSecond
    rw [show ((0 : Int32), hy h o) = (nI 0, hy h o) from rfl, e1 o]
    simp (disch := omega) [n_lit, n_eq, n_lt, n_le, n_mul, n_add, n_cl, grd_t, grd_T, su_c, su_s, su_k, wi_in, n_m1', n_m1, hy_l, ec, su_hl, hy_hl]
  · rw [show ((0 : Int32), hy o h) = (nI 0, hy o h) from rfl, e2 o]
    simp (disch := omega) [n_lit, n_eq, n_lt, n_le, n_mul, n_add, n_cl, grd_t, grd_T, su_c, su_s, su_k, wi_in, n_m1', n_m1, hy_r, em, su_hr, hy_hr]
  · rw [sg_s, eT]
  · rw [eL]
    refine F.trans ⟨fun c hc => ?_, fun j hj => ?_⟩
    · simp (disch := omega) [su_c]
    · simp (disch := omega) [su_c, su_s, su_k]
end GO
theorem st_go (a : Int32) (h : Sto) (I : Inv h) : Agr (fX8_go a) (fX9_go a) h := by
  obtain ⟨σ, S⟩ := I.1
  have hNow := lNow S
  have ein : ∀ h', fX9_in a.toInt64 1 999 h' = some (decide (nI 1 ≤ a ∧ a ≤ nI 999)) := fun h' => in_n a 1 999 (by omega) (by omega) h'
  by_cases h1 : nI 1 ≤ a ∧ a ≤ nI 999
  · obtain ⟨k, rfl, hk1, hk⟩ := arg_in (by omega) (by omega) h1
    by_cases h2 : σ 0 1 + k ≤ 29999
    · have key : ∃ x y, (∃ H τ, x = (fun o => hy H o) ∧ y = (fun o => hy o H) ∧ Sc H 1 84 τ ∧ τ 0 1 = σ 0 1 + k ∧ Fr h H) ∧ (∀ o, lp (fun s : Int32 × Sto => fX8_go_b45 (nI k) s.1 s.2) FUEL (nI 0, hy h o) = some (x o)) ∧ (∀ o, lp (fun s : Int32 × Sto => fX9_go_b42 (nI k) s.1 s.2) FUEL (nI 0, hy o h) = some (y o)) := by
        refine lp_J (A := Nat × Sto) (fun a => a.1 ≤ k ∧ ∃ τ, Sc a.2 1 84 τ ∧ τ 0 1 = σ 0 1 + a.1 ∧ Fr h a.2) (fun a => k - a.1) (fun a o => (nI a.1, hy a.2 o)) (fun a o => (nI a.1, hy o a.2)) (fun x y => ∃ H τ, x = (fun o => hy H o) ∧ y = (fun o => hy o H) ∧ Sc H 1 84 τ ∧ τ 0 1 = σ 0 1 + k ∧ Fr h H) ?_ (0, h) ⟨Nat.zero_le _, σ, S, rfl, Fr.refl h⟩ (by show k - 0 < 100000; omega)
        rintro ⟨i, H⟩ ⟨hi, τ, S2, eT, F⟩
        have eT : τ 0 1 = σ 0 1 + i := eT
        by_cases z : i < k
        · obtain ⟨H', τ', a1, a2, a3, a4, a5⟩ := secJ S2 (show τ 0 1 < 29999 by omega) (nI k) (nI i)
          refine Or.inl ⟨(i + 1, H'), ⟨z, τ', a3, by rw [a4, eT]; rfl, F.trans a5⟩, by show k - (i + 1) < k - i; omega, fun o => ?_, fun o => ?_⟩
          · show fX8_go_b45 (nI k) (nI i) (hy H o) = some (.inl (nI (i + 1), hy H' o))
            have z2 : ¬ k ≤ i := by omega
            unfold fX8_go_b45
            simp (disch := omega) [n_lit, n_eq, n_lt, n_le, n_mul, n_add, n_cl, grd_t, grd_T, su_c, su_s, su_k, wi_in, n_m1', n_m1, z2, a1]
          · show fX9_go_b42 (nI k) (nI i) (hy o H) = some (.inl (nI (i + 1), hy o H'))
            have z2 : ¬ k ≤ i := by omega
            have a2 := a2 o
            unfold fX9_go_b42
            rw [if_neg (by rw [n_le (by omega) (by omega)]; exact z2)]
            generalize lp (fun s => fX9_go_b49 (nI k) (nI i) s.1 s.2) FUEL (0, hy o H) = L at a2 ⊢
            cases L with
            | none => exact absurd a2 (by simp)
            | some v =>
              simp at a2
              simp [a2]
              exact n_add i 1
        · have hi : i = k := by have : i ≤ k := hi; omega
          refine Or.inr ⟨fun o => hy H o, fun o => hy o H, ⟨H, τ, rfl, rfl, S2, by rw [eT, hi], F⟩, fun o => ?_, fun o => ?_⟩
          · show fX8_go_b45 (nI k) (nI i) (hy H o) = _
            unfold fX8_go_b45
            simp (disch := omega) [n_lit, n_eq, n_lt, n_le, n_mul, n_add, n_cl, grd_t, grd_T, su_c, su_s, su_k, wi_in, n_m1', n_m1, hi]
          · show fX9_go_b42 (nI k) (nI i) (hy o H) = _
            unfold fX9_go_b42
            simp (disch := omega) [n_lit, n_eq, n_lt, n_le, n_mul, n_add, n_cl, grd_t, grd_T, su_c, su_s, su_k, wi_in, n_m1', n_m1, hi]
      obtain ⟨x, y, ⟨H, τ, rfl, rfl, S2, eT, F⟩, e1, e2⟩ := key
      refine Two.agr ⟨nI (σ 0 1 + k), H, fun o => ?_, fun o => ?_, Inv_fr I S2 F⟩
      · have e1 := e1 o
        unfold fX8_go
        rw [show ((0 : Int32), hy h o) = (nI 0, hy h o) from rfl, e1]
        simp (disch := omega) [n_lit, n_eq, n_lt, n_le, n_mul, n_add, n_cl, grd_t, grd_T, su_c, su_s, su_k, wi_in, n_m1', n_m1, hy_l, cNow S, h1, h2, cNow S2, eT]
      · have e2 := e2 o
        unfold fX9_go
        rw [show ((0 : Int32), hy o h) = (nI 0, hy o h) from rfl, e2, ein]
        simp (disch := omega) [n_lit, n_eq, n_lt, n_le, n_mul, n_add, n_cl, grd_t, grd_T, su_c, su_s, su_k, wi_in, n_m1', n_m1, hy_r, mNow S, h1, h2, mNow S2, eT]
    · refine ag_f4 I ?_ ?_
      · unfold fX8_go
        rw [wi_in]
        simp (disch := omega) [n_lit, n_eq, n_lt, n_le, n_mul, n_add, n_cl, grd_t, grd_T, su_c, su_s, su_k, wi_in, n_m1', n_m1, cNow S, h1, h2]
      · intro h1' e
        subst e
        unfold fX9_go
        rw [ein]
        simp (disch := omega) [n_lit, n_eq, n_lt, n_le, n_mul, n_add, n_cl, grd_t, grd_T, su_c, su_s, su_k, wi_in, n_m1', n_m1, mNow (Sc_find S), h1, h2]
  · refine ag_f0 I ?_ ?_
    · unfold fX8_go
      rw [wi_in]
      simp [n_lit, h1]
    · intro h1' e
      subst e
      unfold fX9_go
      rw [ein]
      simp [h1]
theorem mTpc (x : Int32) (h : Sto) : fX9_isTopic x h = some (decide (nI 0 ≤ x ∧ x ≤ nI 9)) := by
  unfold fX9_isTopic
  rw [in_n x 0 9 (by omega) (by omega)]
  rfl
theorem cTpc (x : Int32) (h : Sto) : fX8_isTopic x h = some (decide (nI 0 ≤ x ∧ x ≤ nI 9)) := by
  unfold fX8_isTopic
  rw [wi_in]
  rfl
theorem st_say (a b : Int32) (h : Sto) (I : Inv h) : Agr (fX8_say a b) (fX9_say a b) h := by
  obtain ⟨σ, S⟩ := I.1
  have hN := lN14 S
  have hW := lW S
  by_cases h1 : nI 0 ≤ a ∧ a ≤ lI (σ 0 0)
  · by_cases h2 : nI 0 ≤ b ∧ b ≤ nI 9
    · obtain ⟨n, hn, rfl⟩ := (arg_nm (by omega)).mp h1
      obtain ⟨t, rfl, -, ht⟩ := arg_in (by omega) (by omega) h2
      by_cases z : 200 ≤ σ 0 2
      · refine ag_f1 I ?_ ?_
        · unfold fX8_say
          rw [cHas S, cTpc, cFull S]
          simp [h1, h2, z]
        · intro h1' e
          have S' : Sc h1' 1 84 σ := by subst e; exact Sc_find S
          have hs : fX9_isSaid (nI n) (nI t) h1' = some (false, h1') := by
            unfold fX9_isSaid
            have : σ 0 2 = 200 := by omega
            simp (disch := omega) [n_lit, n_eq, n_lt, n_le, n_mul, n_add, n_cl, grd_t, grd_T, su_c, su_s, su_k, wi_in, n_m1', n_m1, mW S', this]
          unfold fX9_say
          rw [mHas S', mTpc, hs]
          simp [h1, h2]
      · obtain ⟨H, a1, a2, a3, a4, a5, a6⟩ := sayJ S hn ht (show σ 0 2 < 200 by omega)
        refine Two.agr ⟨nI (σ 0 2), H, fun o => ?_, fun o => ?_, Inv_fr I a3 ⟨fun c hc => a5 c (by omega), fun j hj => a6 j (by omega)⟩⟩
        · have e1 : fX1_has (nI n) (hy h o) = fX1_has (nI n) h := rfl
          unfold fX8_say
          rw [e1, cHas S, cTpc, y_full, cFull S, a1]
          simp [h1, h2, z]
        · have e1 : fX9_isName (nI n) (hy o h) = fX9_isName (nI n) h := rfl
          unfold fX9_say
          rw [e1, mHas S, mTpc, a2]
          simp (disch := omega) [h1, h2, hy_r, a4]
          rw [show (1 : Int32) = nI 1 from rfl, n_sub (by omega)]
          rfl
    · refine ag_f0 I ?_ ?_
      · unfold fX8_say
        rw [cHas S, cTpc]
        simp [h1, h2]
      · intro h1' e
        subst e
        unfold fX9_say
        rw [mHas (Sc_find S), mTpc]
        simp [h1, h2]
  · refine ag_f0 I ?_ ?_
    · unfold fX8_say
      rw [cHas S]
      simp [h1]
    · intro h1' e
      subst e
      unfold fX9_say
      rw [mHas (Sc_find S)]
      simp [h1]
