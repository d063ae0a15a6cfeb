/-! 22: what holds between the class's cells and the reference's -/
abbrev Gh : Type := Nat → Nat → Nat
def sg (σ : Gh) (r i v : Nat) : Gh := fun r' i' => if r' = r ∧ i' = i then v else σ r' i'
theorem sg_if (σ : Gh) (r i v r' i' : Nat) : sg σ r i v r' i' = if r' = r ∧ i' = i then v else σ r' i' := rfl
theorem sg_r (σ : Gh) {r r' : Nat} (i v : Nat) (e : ¬ r' = r) : sg σ r i v r' = σ r' := by funext j; simp [sg, e]
theorem sg_s (σ : Gh) (r i v : Nat) : sg σ r i v r i = v := by simp [sg]
theorem sg_i (σ : Gh) (r : Nat) {i i' : Nat} (v : Nat) (e : ¬ i' = i) : sg σ r i v r i' = σ r i' := by simp [sg, e]
def hrN (s : Nat) : Nat := s / 100 % 10
def folP (σ : Gh) (w v : Nat) : Bool := decide (σ 10 v ≠ σ 10 w) && (decide (1 ≤ σ 9 w - σ 9 v) && decide (σ 9 w - σ 9 v ≤ 9))
def fol (σ : Gh) (w : Nat) : Nat := la (folP σ w) w
def ScA (h : Sto) (B k : Nat) (σ : Gh) : Prop := (σ 0 0 ≤ 14 ∧ h (B + 1) 0 = nI (σ 0 0) ∧ h k 0 = nI (σ 0 0)) ∧ (σ 0 1 ≤ 29999 ∧ h (B + 9) 0 = nI (σ 0 1) ∧ h k 1 = nI (σ 0 1)) ∧ (σ 0 2 ≤ 200 ∧ h (B + 9) 1 = nI (σ 0 2) ∧ h k 2 = nI (σ 0 2)) ∧ h (B + 9) 2 = h k 3 ∧ h B 4 = h k 5
def ScT (h : Sto) (B k : Nat) (σ : Gh) : Prop := ∀ i, i < σ 0 0 →
  (h (B + 3) i = nI (σ 1 i) ∧ h k (6 + 8 * i) = nI (σ 1 i) ∧ σ 1 i ≤ 7) ∧ (h (B + 4) i = nI (σ 2 i) ∧ h k (6 + 8 * i + 1) = nI (σ 2 i) ∧ 1 ≤ σ 2 i ∧ σ 2 i ≤ 999) ∧
  (h (B + 5) i = nI (σ 3 i) ∧ h k (6 + 8 * i + 2) = nI (σ 3 i) ∧ 1 ≤ σ 3 i ∧ σ 3 i ≤ 1023) ∧ (h (B + 6) i = nI (σ 4 i) ∧ h k (6 + 8 * i + 3) = nI (σ 4 i) ∧ σ 4 i ≤ 99) ∧
  (h (B + 7) i = lI (σ 5 i) ∧ h k (6 + 8 * i + 4) = lI (σ 5 i) ∧ σ 5 i ≤ σ 0 0) ∧ (h (B + 8) i = nI (σ 6 i) ∧ h k (6 + 8 * i + 5) = nI (σ 6 i) ∧ σ 6 i ≤ 9) ∧
  (h k (6 + 8 * i + 6) = nI (σ 7 i) ∧ σ 7 i ≤ 1) ∧ (h k (6 + 8 * i + 7) = nI (σ 8 i) ∧ σ 8 i ≤ 1)
def ScS (h : Sto) (B : Nat) (σ : Gh) : Prop := h (B + 1) 1 = nI (bs (σ 7) (σ 0 0)) ∧ h (B + 1) 2 = nI (bs (σ 8) (σ 0 0))
def ScW (h : Sto) (B k : Nat) (σ : Gh) : Prop := (∀ w, w < σ 0 2 → (h (B + 10) w = nI (σ 9 w) ∧ h k (118 + 3 * w) = nI (σ 9 w) ∧ σ 9 w ≤ σ 0 1) ∧ (h (B + 11) w = nI (σ 10 w) ∧ h k (118 + 3 * w + 1) = nI (σ 10 w) ∧ σ 10 w < σ 0 0) ∧
  (h (B + 12) w = nI (σ 11 w) ∧ h k (118 + 3 * w + 2) = nI (σ 11 w) ∧ σ 11 w ≤ 9) ∧ h (B + 13) w = lI (fol σ w)) ∧ (∀ v w, v ≤ w → w < σ 0 2 → σ 9 v ≤ σ 9 w)
def ScP (h : Sto) (B k : Nat) (σ : Gh) : Prop := ∀ i, i < 10 → h (B + 24) i = lI (σ 13 i) ∧ h k (1204 + i) = lI (σ 13 i) ∧ σ 13 i ≤ σ 0 0
def Sc (h : Sto) (B k : Nat) (σ : Gh) : Prop := ScA h B k σ ∧ ScT h B k σ ∧ ScS h B σ ∧ ScW h B k σ ∧ ScP h B k σ
theorem Sc_congr {h h' : Sto} {B k : Nat} {σ : Gh} (e0 : h' B 4 = h B 4) (e : ∀ j, j < 14 → j ≠ 0 → j ≠ 2 → h' (B + j) = h (B + j)) (eS : h' (B + 24) = h (B + 24)) (ek : ∀ j, (j < 4 ∨ (4 < j ∧ j < 718) ∨ 1204 ≤ j) → h' k j = h k j) (S : Sc h B k σ) : Sc h' B k σ := by
  obtain ⟨⟨⟨a1, a2, a3⟩, ⟨b1, b2, b3⟩, ⟨c1, c2, c3⟩, d1, d2⟩, T, ⟨s1, s2⟩, ⟨w1, w2⟩, P⟩ := S
  refine ⟨⟨⟨a1, ?_, ?_⟩, ⟨b1, ?_, ?_⟩, ⟨c1, ?_, ?_⟩, ?_, ?_⟩, fun i hi => ?_, ⟨?_, ?_⟩, ⟨fun w hw => ?_, w2⟩, fun i hi => ?_⟩
  · rw [e 1 (by omega) (by omega) (by omega)]; exact a2
  · rw [ek 0 (by omega)]; exact a3
  · rw [e 9 (by omega) (by omega) (by omega)]; exact b2
  · rw [ek 1 (by omega)]; exact b3
  · rw [e 9 (by omega) (by omega) (by omega)]; exact c2
  · rw [ek 2 (by omega)]; exact c3
  · rw [e 9 (by omega) (by omega) (by omega), ek 3 (by omega)]; exact d1
  · rw [e0, ek 5 (by omega)]; exact d2
  · have hi2 : i < 14 := by omega
    rw [e 3 (by omega) (by omega) (by omega), e 4 (by omega) (by omega) (by omega), e 5 (by omega) (by omega) (by omega), e 6 (by omega) (by omega) (by omega), e 7 (by omega) (by omega) (by omega), e 8 (by omega) (by omega) (by omega), ek (6 + 8 * i) (by omega), ek (6 + 8 * i + 1) (by omega), ek (6 + 8 * i + 2) (by omega), ek (6 + 8 * i + 3) (by omega), ek (6 + 8 * i + 4) (by omega), ek (6 + 8 * i + 5) (by omega), ek (6 + 8 * i + 6) (by omega), ek (6 + 8 * i + 7) (by omega)]
    exact T i hi
  · rw [e 1 (by omega) (by omega) (by omega)]; exact s1
  · rw [e 1 (by omega) (by omega) (by omega)]; exact s2
  · have hw2 : w < 200 := by omega
    rw [e 10 (by omega) (by omega) (by omega), e 11 (by omega) (by omega) (by omega), e 12 (by omega) (by omega) (by omega), e 13 (by omega) (by omega) (by omega), ek (118 + 3 * w) (by omega), ek (118 + 3 * w + 1) (by omega), ek (118 + 3 * w + 2) (by omega)]
    exact w1 w hw
  · rw [eS, ek (1204 + i) (by omega)]; exact P i hi
-- texts
def TxR (b : Nat → Int32) (n : Int32) (s : Nat → Int32) : Prop := ∃ (cs : List Nat) (N : Nat), n = nI N ∧ N ≤ 80 ∧ cs.length ≤ 80 ∧ s 0 = nI cs.length ∧ (∀ j, j < cs.length → s (1 + j) = nI (cs.getD j 0)) ∧ okc cs ∧ ∀ R : Nat → Int32, ∃ v, evs R cs [] = some [v] ∧ ∀ (h : Sto) (p : Nat), 0 < p → p < 63 → shp p = (0, 80, []) → (∀ j, j < N → h p j = b j) → (∀ k, k < 8 → h 63 k = R k) → ∃ H, fX2_read p (nI N) h = some (v, H) ∧ ∀ c, c ≠ 64 → H c = h c
theorem TxR_congr {b b' : Nat → Int32} {n : Int32} {s s' : Nat → Int32} (hb : ∀ j, j < 80 → b' j = b j) (hs : ∀ j, j < 81 → s' j = s j) (T : TxR b n s) : TxR b' n s' := by
  obtain ⟨cs, N, e1, e2, e3, e4, e5, e6, e7⟩ := T
  refine ⟨cs, N, e1, e2, e3, by rw [hs 0 (by omega)]; exact e4, fun j hj => by rw [hs _ (by omega)]; exact e5 j hj, e6, fun R => ?_⟩
  obtain ⟨v, e8, e9⟩ := e7 R
  exact ⟨v, e8, fun h p h1 h2 h3 h4 h5 => e9 h p h1 h2 h3 (fun j hj => (h4 j hj).trans (hb j (by omega))) h5⟩
def TxS (h : Sto) (B k T : Nat) : Prop := T ≤ 6 ∧ h (B + 15) 0 = nI T ∧ h k 4 = nI T ∧ ∀ t, t < T → TxR (h (B + 17 + t)) (h (B + 23) t) (fun j => h k (718 + 81 * t + j))
theorem TxS_congr {h h' : Sto} {B k T : Nat} (e1 : h' (B + 15) 0 = h (B + 15) 0) (e2 : ∀ t, t < 6 → h' (B + 17 + t) = h (B + 17 + t)) (e3 : h' (B + 23) = h (B + 23)) (ek : ∀ j, (j = 4 ∨ (718 ≤ j ∧ j < 1204)) → h' k j = h k j) (S : TxS h B k T) : TxS h' B k T := by
  obtain ⟨a, b, c, d⟩ := S
  refine ⟨a, by rw [e1]; exact b, by rw [ek 4 (by omega)]; exact c, fun t ht => ?_⟩
  rw [e2 t (by omega), e3]
  exact TxR_congr (fun _ _ => rfl) (fun j hj => ek _ (by omega)) (d t ht)
def Kp (h : Sto) : Prop := (h 0 2 = 0 ∧ h 83 2 = 0) ∨ (h 0 2 = 1 ∧ h 83 2 = 1 ∧ ∃ τ T, Sc h 26 85 τ ∧ TxS h 26 85 T)
def Tp (h : Sto) : Prop := ∃ n, n ≤ 80 ∧ h 0 4 = nI n ∧ h 83 6 = nI n ∧ ∀ j, j < n → ∃ b, b < 256 ∧ h 51 j = nI b ∧ h 88 j = nI b
def Sh1 (h : Sto) (s n : Nat) : Prop := n ≤ 40 ∧ h (53 + s) 1 = nI n ∧ h 94 s = nI n ∧ h (53 + s) 0 = h 93 s ∧ (h 93 s = 0 ∨ h 93 s = 8 ∨ h 93 s = 16 ∨ h 93 s = 32) ∧ (h 93 s = 0 → n = 0) ∧ ∀ j, j < n → h (57 + s) j = h 95 (40 * s + j)
def Shs (h : Sto) : Prop := ∀ s, s < 4 → ∃ n, Sh1 h s n
def Fnd (h : Sto) : Prop := ∀ i, i < 7 → h 61 i = h 86 i
def Inv (h : Sto) : Prop := (∃ σ, Sc h 1 84 σ) ∧ (∃ T, TxS h 1 84 T) ∧ Kp h ∧ Tp h ∧ Shs h ∧ Fnd h
theorem Kp_congr {h h' : Sto} (e : ∀ c, 26 ≤ c → c < 51 → h' c = h c) (e1 : h' 0 2 = h 0 2) (e2 : h' 83 2 = h 83 2) (e3 : h' 85 = h 85) (K : Kp h) : Kp h' := by
  rcases K with ⟨a, b⟩ | ⟨a, b, τ, T, S, X⟩
  · exact Or.inl ⟨by rw [e1]; exact a, by rw [e2]; exact b⟩
  · refine Or.inr ⟨by rw [e1]; exact a, by rw [e2]; exact b, τ, T, Sc_congr (by rw [e 26 (by omega) (by omega)]) (fun j h1 h2 h3 => e _ (by omega) (by omega)) (e _ (by omega) (by omega)) (fun j _ => by rw [e3]) S, TxS_congr (by rw [e _ (by omega) (by omega)]) (fun t ht => e _ (by omega) (by omega)) (e _ (by omega) (by omega)) (fun j _ => by rw [e3]) X⟩
theorem Tp_congr {h h' : Sto} (e1 : h' 0 4 = h 0 4) (e2 : h' 83 6 = h 83 6) (e3 : h' 51 = h 51) (e4 : h' 88 = h 88) (T : Tp h) : Tp h' := by
  obtain ⟨n, a, b, c, d⟩ := T
  exact ⟨n, a, by rw [e1]; exact b, by rw [e2]; exact c, by rw [e3, e4]; exact d⟩
theorem Shs_congr {h h' : Sto} (e : ∀ c, 53 ≤ c → c < 61 → h' c = h c) (e1 : h' 93 = h 93) (e2 : h' 94 = h 94) (e3 : h' 95 = h 95) (S : Shs h) : Shs h' := by
  intro s hs
  obtain ⟨n, a⟩ := S s hs
  refine ⟨n, ?_⟩
  unfold Sh1 at a ⊢
  rw [e (53 + s) (by omega) (by omega), e (57 + s) (by omega) (by omega), e1, e2, e3]
  exact a
/-- what may change without any change of what holds -/
theorem Inv_congr {h h' : Sto} (e : ∀ c, c < 62 → c ≠ 15 → h' c = h c) (e2 : h' 83 2 = h 83 2) (e6 : h' 83 6 = h 83 6) (e3 : ∀ c, (84 ≤ c ∧ c < 87) ∨ c = 88 ∨ (93 ≤ c ∧ c < 96) → h' c = h c) (I : Inv h) : Inv h' := by
  obtain ⟨⟨σ, S⟩, ⟨T, X⟩, K, P, Sh, F⟩ := I
  have e84 := e3 84 (by omega)
  refine ⟨⟨σ, Sc_congr (by rw [e 1 (by omega) (by omega)]) (fun j h1 h2 h3 => e _ (by omega) (by omega)) (e _ (by omega) (by omega)) (fun j _ => by rw [e84]) S⟩, ⟨T, TxS_congr (by rw [e _ (by omega) (by omega)]) (fun t ht => e _ (by omega) (by omega)) (e _ (by omega) (by omega)) (fun j _ => by rw [e84]) X⟩, Kp_congr (fun c h1 h2 => e c (by omega) (by omega)) (by rw [e 0 (by omega) (by omega)]) e2 (e3 85 (by omega)) K, Tp_congr (by rw [e 0 (by omega) (by omega)]) e6 (e _ (by omega) (by omega)) (e3 88 (by omega)) P, Shs_congr (fun c h1 h2 => e c (by omega) (by omega)) (e3 93 (by omega)) (e3 94 (by omega)) (e3 95 (by omega)) Sh, fun i hi => ?_⟩
  rw [e 61 (by omega) (by omega), e3 86 (by omega)]
  exact F i hi
/-- an answer of both -/
def Agr (f g : Sto → Option (Int32 × Sto)) (h : Sto) : Prop := ∃ r h1 h2, f h = some (r, h1) ∧ g h1 = some (r, h2) ∧ Inv h2
theorem agr {f g : Sto → Option (Int32 × Sto)} {h : Sto} (r : Int32) (h1 h2 : Sto) (a : f h = some (r, h1)) (b : g h1 = some (r, h2)) (I : Inv h2) : Agr f g h := ⟨r, h1, h2, a, b, I⟩
theorem Inv_find {h : Sto} (I : Inv h) (k : Nat) (hk : k < 7) : Inv (su (su h 61 k (h 61 k + 1)) 86 k (su h 61 k (h 61 k + 1) 86 k + 1)) := by
  obtain ⟨⟨σ, S⟩, ⟨T, X⟩, K, P, Sh, F⟩ := I
  have e : ∀ c, c ≠ 61 → c ≠ 86 → su (su h 61 k (h 61 k + 1)) 86 k (su h 61 k (h 61 k + 1) 86 k + 1) c = h c := fun c h1 h2 => by rw [su_c _ _ _ h2, su_c _ _ _ h1]
  refine ⟨⟨σ, Sc_congr (by rw [e _ (by omega) (by omega)]) (fun j h1 h2 h3 => e _ (by omega) (by omega)) (e _ (by omega) (by omega)) (fun j _ => by rw [e 84 (by omega) (by omega)]) S⟩, ⟨T, TxS_congr (by rw [e _ (by omega) (by omega)]) (fun t ht => e _ (by omega) (by omega)) (e _ (by omega) (by omega)) (fun j _ => by rw [e 84 (by omega) (by omega)]) X⟩, Kp_congr (fun c h1 h2 => e c (by omega) (by omega)) (by rw [e 0 (by omega) (by omega)]) (by rw [e 83 (by omega) (by omega)]) (e 85 (by omega) (by omega)) K, Tp_congr (by rw [e 0 (by omega) (by omega)]) (by rw [e 83 (by omega) (by omega)]) (e _ (by omega) (by omega)) (e 88 (by omega) (by omega)) P, Shs_congr (fun c h1 h2 => e c (by omega) (by omega)) (e 93 (by omega) (by omega)) (e 94 (by omega) (by omega)) (e 95 (by omega) (by omega)) Sh, fun i hi => ?_⟩
  rw [su_c _ _ _ (show ¬ 61 = 86 by omega), su_c _ _ _ (show ¬ 86 = 61 by omega)]
  by_cases ei : i = k
  · subst ei
    rw [su_s, su_s, F i hi]
  · rw [su_k _ _ _ ei, su_k _ _ _ ei, su_c _ _ _ (show ¬ 86 = 61 by omega)]
    exact F i hi
