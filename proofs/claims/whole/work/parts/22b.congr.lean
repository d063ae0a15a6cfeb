/-! 22b: each part of Sc over another store and another ghost -/
section CONG
variable {h h' : Sto} {B k : Nat} {σ τ : Gh}
theorem fol_congr {w : Nat} (e9 : ∀ v, v ≤ w → τ 9 v = σ 9 v) (e10 : ∀ v, v ≤ w → τ 10 v = σ 10 v) : fol τ w = fol σ w := by
  unfold fol
  apply la_congr
  intro v hv
  unfold folP
  rw [e9 v (by omega), e9 w (by omega), e10 v (by omega), e10 w (by omega)]
theorem ScW_c (W : ScW h B k σ) (lW : σ 0 2 ≤ 200) (c10 : h' (B + 10) = h (B + 10)) (c11 : h' (B + 11) = h (B + 11)) (c12 : h' (B + 12) = h (B + 12)) (c13 : h' (B + 13) = h (B + 13)) (ck : ∀ j, 118 ≤ j → j < 718 → h' k j = h k j)
    (e2 : τ 0 2 = σ 0 2) (eN : σ 0 0 ≤ τ 0 0) (e1 : σ 0 1 ≤ τ 0 1) (r9 : τ 9 = σ 9) (r10 : τ 10 = σ 10) (r11 : τ 11 = σ 11) : ScW h' B k τ := by
  refine ⟨fun w hw => ?_, fun v w h1 h2 => ?_⟩
  · rw [e2] at hw
    obtain ⟨⟨a1, a2, a3⟩, ⟨b1, b2, b3⟩, ⟨d1, d2, d3⟩, f⟩ := W.1 w hw
    have hf : fol τ w = fol σ w := fol_congr (fun v _ => by rw [r9]) (fun v _ => by rw [r10])
    rw [c10, c11, c12, c13, ck _ (by omega) (by omega), ck _ (by omega) (by omega), ck _ (by omega) (by omega), r9, r10, r11, hf]
    exact ⟨⟨a1, a2, by omega⟩, ⟨b1, b2, by omega⟩, ⟨d1, d2, d3⟩, f⟩
  · rw [r9]; rw [e2] at h2; exact W.2 v w h1 h2
theorem ScP_c (P : ScP h B k σ) (c : h' (B + 24) = h (B + 24)) (ck : ∀ j, 1204 ≤ j → h' k j = h k j) (r : τ 13 = σ 13) (eN : σ 0 0 ≤ τ 0 0) : ScP h' B k τ := by
  intro i hi
  obtain ⟨a, b, d⟩ := P i hi
  rw [c, ck _ (by omega), r]
  exact ⟨a, b, by omega⟩
theorem ScT_c (T : ScT h B k σ) (lN : σ 0 0 ≤ 14) (c : ∀ j, 3 ≤ j → j < 9 → h' (B + j) = h (B + j)) (ck : ∀ j, 6 ≤ j → j < 118 → h' k j = h k j) (eN : τ 0 0 = σ 0 0) (r : ∀ j, 1 ≤ j → j < 9 → τ j = σ j) : ScT h' B k τ := by
  intro i hi
  rw [eN] at hi
  have := T i hi
  rw [c 3 (by omega) (by omega), c 4 (by omega) (by omega), c 5 (by omega) (by omega), c 6 (by omega) (by omega), c 7 (by omega) (by omega), c 8 (by omega) (by omega), ck (6 + 8 * i) (by omega) (by omega), ck (6 + 8 * i + 1) (by omega) (by omega), ck (6 + 8 * i + 2) (by omega) (by omega), ck (6 + 8 * i + 3) (by omega) (by omega), ck (6 + 8 * i + 4) (by omega) (by omega), ck (6 + 8 * i + 5) (by omega) (by omega), ck (6 + 8 * i + 6) (by omega) (by omega), ck (6 + 8 * i + 7) (by omega) (by omega), eN, r 1 (by omega) (by omega), r 2 (by omega) (by omega), r 3 (by omega) (by omega), r 4 (by omega) (by omega), r 5 (by omega) (by omega), r 6 (by omega) (by omega), r 7 (by omega) (by omega), r 8 (by omega) (by omega)]
  exact this
end CONG
/-- only the scene's cells and the reference's row have changed -/
theorem Inv_scene {h h' : Sto} {τ : Gh} (I : Inv h) (S : Sc h' 1 84 τ) (e : ∀ c, (c = 0 ∨ (26 ≤ c ∧ c < 62)) → h' c = h c) (e2 : ∀ c, c = 83 ∨ c = 85 ∨ c = 86 ∨ c = 88 ∨ c = 93 ∨ c = 94 ∨ c = 95 → h' c = h c) (t1 : h' 16 0 = h 16 0) (t2 : ∀ t, t < 6 → h' (1 + 17 + t) = h (1 + 17 + t)) (t3 : h' 24 = h 24) (t4 : ∀ j, (j = 4 ∨ (718 ≤ j ∧ j < 1204)) → h' 84 j = h 84 j) : Inv h' := by
  obtain ⟨-, ⟨T, X⟩, K, P, Sh, F⟩ := I
  refine ⟨⟨τ, S⟩, ⟨T, TxS_congr t1 t2 t3 t4 X⟩, Kp_congr (fun c h1 h2 => e c (by omega)) (by rw [e 0 (by omega)]) (by rw [e2 83 (by omega)]) (e2 85 (by omega)) K, Tp_congr (by rw [e 0 (by omega)]) (by rw [e2 83 (by omega)]) (e _ (by omega)) (e2 88 (by omega)) P, Shs_congr (fun c h1 h2 => e c (by omega)) (e2 93 (by omega)) (e2 94 (by omega)) (e2 95 (by omega)) Sh, fun i hi => ?_⟩
  rw [e 61 (by omega), e2 86 (by omega)]
  exact F i hi
