/-! 20: numbers, loops, bits (pure) -/
theorem n_lit (n : Nat) : (OfNat.ofNat n : Int32) = nI n := rfl
theorem n_lt {a b : Nat} (ha : a < 2147483648) (hb : b < 2147483648) : (nI a < nI b) = (a < b) := propext (nI_ltI ha hb)
theorem n_le {a b : Nat} (ha : a < 2147483648) (hb : b < 2147483648) : (nI a ≤ nI b) = (a ≤ b) := propext (nI_leI ha hb)
theorem n_eq {a b : Nat} (ha : a < 2147483648) (hb : b < 2147483648) : (nI a = nI b) = (a = b) := propext (nI_eq ha hb)
theorem n_cl {a : Nat} (ha : a < 2147483648) : Int32.toNatClampNeg (nI a) = a := nI_clamp ha
theorem n_add (a b : Nat) : nI a + nI b = nI (a + b) := nI_add a b
theorem n_sub {a b : Nat} (h : b ≤ a) : nI a - nI b = nI (a - b) := pk_sub h
theorem n_mul (a b : Nat) : nI a * nI b = nI (a * b) := pk_mul a b
theorem n_div {a b : Nat} (ha : a < 2147483648) (h0 : 0 < b) (hb : b < 2147483648) : nI a / nI b = nI (a / b) := pk_div ha h0 hb
theorem n_rem {a b : Nat} (ha : a < 2147483648) (h0 : 0 < b) (hb : b < 2147483648) : jrem (nI a) (nI b) = nI (a % b) := pk_rem ha h0 hb
theorem n_in {i n : Nat} (h : i < n) (hn : n < 2147483648) : inb (nI i) n := nI_in h hn
theorem g_in {α : Type} {i n : Nat} {o : Option α} (h : i < n) (hn : n < 2147483648) : grd (inb (nI i) n) o = o := if_pos (n_in h hn)
theorem g_ne {α : Type} {a : Nat} {o : Option α} (h : 0 < a) (hn : a < 2147483648) : grd (¬ nI a = nI 0) o = o := if_pos (by rw [n_eq hn (by omega)]; omega)
theorem n_toInt {n : Nat} (h : n < 2147483648) : (nI n).toInt = (n : Int) := nI_toInt h
def lI (x : Nat) : Int32 := nI x - 1
theorem lI_0 : lI 0 = -1 := by decide
theorem n_m1 : -nI 1 = lI 0 := by decide
theorem lI_s (x : Nat) : lI (x + 1) = nI x := nI_pred x
theorem lI_lt0 {x : Nat} (h : x < 2147483648) : (lI x < nI 0) = (x = 0) := by
  cases x with
  | zero => rw [lI_0]; simp; decide
  | succ x => rw [lI_s, n_lt (by omega) (by omega)]; simp
theorem lI_ge0 {x : Nat} (h : x < 2147483648) : (nI 0 ≤ lI x) = (0 < x) := by
  cases x with
  | zero => rw [lI_0]; simp; decide
  | succ x => rw [lI_s, n_le (by omega) (by omega)]; simp
theorem lI_inj {x y : Nat} (hx : x < 2147483648) (hy : y < 2147483648) : (lI x = lI y) = (x = y) := by
  apply propext
  constructor
  · intro e
    have : nI x = nI y := by
      have h2 := congrArg (· + 1) e
      simp only [lI] at h2
      simpa using h2
    rwa [n_eq hx hy] at this
  · rintro rfl; rfl
theorem lI_nI {x y : Nat} (hx : x < 2147483648) (hy : y < 2147483647) : (lI x = nI y) = (x = y + 1) := by
  rw [← lI_s, lI_inj hx (by omega)]
theorem nI_lI {x y : Nat} (hx : x < 2147483648) (hy : y < 2147483647) : (nI y = lI x) = (x = y + 1) := by
  rw [← lI_nI hx hy]; exact propext eq_comm
theorem n_pre {x : Nat} : nI x + lI 0 = lI x := by
  unfold lI; rw [show (nI 0 : Int32) = 0 from rfl]; simp [Int32.sub_eq_add_neg]
theorem n_m1' {x : Nat} : nI x - nI 1 = lI x := rfl
/-- an argument between two numbers -/
theorem arg_in {x : Int32} {a b : Nat} (hb : b < 2147483648) (ha : a < 2147483648) (h : nI a ≤ x ∧ x ≤ nI b) : ∃ n, x = nI n ∧ a ≤ n ∧ n ≤ b := by
  have h0 : ¬ x < 0 := by
    intro q
    have h1 := Int32.le_iff_toInt_le.mp h.1
    have h2 := Int32.lt_iff_toInt_lt.mp q
    rw [n_toInt ha] at h1
    simp at h2
    omega
  obtain ⟨n, hn, rfl⟩ := nI_of h0
  have h1 := h.1
  have h2 := h.2
  rw [n_le ha hn] at h1
  rw [n_le hn hb] at h2
  exact ⟨n, rfl, h1, h2⟩
theorem arg_nm {x : Int32} {N : Nat} (hN : N < 2147483648) : (nI 0 ≤ x ∧ x ≤ lI N) ↔ ∃ n, n < N ∧ x = nI n := by
  constructor
  · intro h
    cases N with
    | zero =>
      exfalso
      have h1 := Int32.le_iff_toInt_le.mp h.1
      have h2 := Int32.le_iff_toInt_le.mp h.2
      rw [lI_0] at h2
      have e1 : (nI 0).toInt = 0 := by decide
      have e2 : (-1 : Int32).toInt = -1 := by decide
      omega
    | succ N =>
      rw [lI_s] at h
      obtain ⟨n, rfl, h1, h2⟩ := arg_in (by omega) (by omega) h
      exact ⟨n, by omega, rfl⟩
  · rintro ⟨n, hn, rfl⟩
    cases N with
    | zero => omega
    | succ N => rw [lI_s, n_le (by omega) (by omega), n_le (by omega) (by omega)]; omega
-- loops
theorem lp_up {S X : Type} {f : S → Option (S ⊕ X)} (g : Nat → S) (n : Nat) (x : X) (hs : ∀ i, i < n → f (g i) = some (.inl (g (i + 1)))) (he : f (g n) = some (.inr x)) : ∀ m, n < m → lp f m (g 0) = some x := by
  have key : ∀ k, k ≤ n → ∀ m, k < m → lp f m (g (n - k)) = some x := by
    intro k
    induction k with
    | zero =>
      intro _ m hm
      obtain ⟨m, rfl⟩ : ∃ j, m = j + 1 := ⟨m - 1, by omega⟩
      show (match f (g n) with | none => none | some (.inl s') => lp f m s' | some (.inr x) => some x) = some x
      rw [he]
    | succ k ih =>
      intro hk m hm
      obtain ⟨m, rfl⟩ : ∃ j, m = j + 1 := ⟨m - 1, by omega⟩
      show (match f (g (n - (k + 1))) with | none => none | some (.inl s') => lp f m s' | some (.inr x) => some x) = some x
      rw [hs (n - (k + 1)) (by omega)]
      rw [show n - (k + 1) + 1 = n - k by omega]
      exact ih (by omega) m (by omega)
  intro m hm
  have := key n (Nat.le_refl _) m hm
  rwa [Nat.sub_self] at this
theorem lp_F {S X : Type} {f : S → Option (S ⊕ X)} {s : S} (g : Nat → S) (n : Nat) (x : X) (h0 : g 0 = s) (hn : n < 100000) (hs : ∀ i, i < n → f (g i) = some (.inl (g (i + 1)))) (he : f (g n) = some (.inr x)) : lp f FUEL s = some x := by
  rw [← h0]
  exact lp_up g n x hs he FUEL hn
/-- a sum, a fold -/
def fo {A : Type} (st : Nat → A → A) (a : A) : Nat → A
  | 0 => a
  | n + 1 => st n (fo st a n)
theorem fo_congr {A : Type} {s1 s2 : Nat → A → A} {a : A} : ∀ {n : Nat}, (∀ i, i < n → ∀ x, s1 i x = s2 i x) → fo s1 a n = fo s2 a n
  | 0, _ => rfl
  | n + 1, h => by
    show s1 n (fo s1 a n) = s2 n (fo s2 a n)
    rw [fo_congr (n := n) (fun i hi => h i (by omega)), h n (by omega)]
/-- the first place of which p holds, or n -/
def fi (p : Nat → Bool) : Nat → Nat
  | 0 => 0
  | n + 1 => if fi p n < n then fi p n else if p n then n else n + 1
theorem fi_le (p : Nat → Bool) : ∀ n, fi p n ≤ n
  | 0 => Nat.le_refl _
  | n + 1 => by
    have := fi_le p n
    unfold fi
    split
    · omega
    · split <;> omega
theorem fi_no (p : Nat → Bool) : ∀ n i, i < fi p n → p i = false := by
  intro n
  induction n with
  | zero => intro i hi; exact absurd hi (Nat.not_lt_zero _)
  | succ n ih =>
    intro i hi
    have hle := fi_le p n
    unfold fi at hi
    split at hi
    · exact ih i hi
    · split at hi
      · exact ih i (by omega)
      · rename_i h1 h2
        by_cases e : i = n
        · subst e; simpa using h2
        · exact ih i (by omega)
theorem fi_at (p : Nat → Bool) : ∀ n, fi p n < n → p (fi p n) = true := by
  intro n
  induction n with
  | zero => intro hi; exact absurd hi (Nat.not_lt_zero _)
  | succ n ih =>
    intro hi
    have hle := fi_le p n
    unfold fi at hi ⊢
    split
    · rename_i h1; exact ih h1
    · rename_i h1
      rw [if_neg h1] at hi
      split
      · assumption
      · rename_i h2
        rw [if_neg h2] at hi
        omega
/-- one more than the last place below n of which p holds, or 0 -/
def la (p : Nat → Bool) : Nat → Nat
  | 0 => 0
  | n + 1 => if p n then n + 1 else la p n
theorem la_le (p : Nat → Bool) : ∀ n, la p n ≤ n
  | 0 => Nat.le_refl _
  | n + 1 => by
    have := la_le p n
    unfold la
    split <;> omega
theorem la_congr {p q : Nat → Bool} : ∀ {n : Nat}, (∀ i, i < n → p i = q i) → la p n = la q n
  | 0, _ => rfl
  | n + 1, h => by
    show (if p n then n + 1 else la p n) = (if q n then n + 1 else la q n)
    rw [h n (by omega), la_congr (n := n) (fun i hi => h i (by omega))]
theorem la_no (p : Nat → Bool) : ∀ n i, la p n ≤ i → i < n → p i = false := by
  intro n
  induction n with
  | zero => intro i _ hi; exact absurd hi (Nat.not_lt_zero _)
  | succ n ih =>
    intro i h1 h2
    unfold la at h1
    split at h1
    · omega
    · rename_i h3
      by_cases e : i = n
      · subst e; simpa using h3
      · exact ih i h1 (by omega)
theorem la_at (p : Nat → Bool) : ∀ n, 0 < la p n → p (la p n - 1) = true := by
  intro n
  induction n with
  | zero => intro h; exact absurd h (Nat.lt_irrefl _)
  | succ n ih =>
    intro h
    unfold la at h ⊢
    split
    · rename_i h3; simpa using h3
    · rename_i h3
      rw [if_neg h3] at h
      exact ih h
-- the store
theorem su_s (h : Sto) (c k : Nat) (v : Int32) : su h c k v c k = v := by simp [su, sr, upd]
theorem su_c (h : Sto) {c c' : Nat} (k : Nat) (v : Int32) (e : ¬ c' = c) : su h c k v c' = h c' := by funext j; simp [su, sr, e]
theorem su_k (h : Sto) (c : Nat) {k k' : Nat} (v : Int32) (e : ¬ k' = k) : su h c k v c k' = h c k' := by simp [su, sr, upd, e]
theorem sr_s (h : Sto) (c : Nat) (f : Nat → Int32) : sr h c f c = f := by simp [sr]
theorem sr_c (h : Sto) {c c' : Nat} (f : Nat → Int32) (e : ¬ c' = c) : sr h c f c' = h c' := by simp [sr, e]
theorem su_if (h : Sto) (c k : Nat) (v : Int32) (c' k' : Nat) : su h c k v c' k' = if c' = c ∧ k' = k then v else h c' k' := by
  by_cases e : c' = c
  · subst e
    by_cases e2 : k' = k
    · subst e2; simp [su_s]
    · simp [su_k _ _ _ e2, e2]
  · simp [su_c _ _ _ e, e]
