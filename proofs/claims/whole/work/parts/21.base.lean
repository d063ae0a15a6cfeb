/-! 21: what the smallest methods answer -/
theorem wi_in (x a b : Int32) (h : Sto) : fX8_isWithin x a b h = some (decide (a ≤ x ∧ x ≤ b)) := by
  unfold fX8_isWithin
  by_cases h1 : x < a
  · have : ¬ a ≤ x := Int32.not_le.mpr h1
    simp [h1, this]
  · have h1' : a ≤ x := Int32.not_lt.mp h1
    by_cases h2 : b < x
    · have : ¬ x ≤ b := Int32.not_le.mpr h2
      simp [h1, h2, this]
    · have : x ≤ b := Int32.not_lt.mp h2
      simp [h1, h2, h1', this]
theorem lc_lt (x y : Int64) : (lg_cmp x y < 0) = (x < y) := by
  unfold lg_cmp
  apply propext
  by_cases h1 : x > y
  · have : ¬ x < y := by
      rw [gt_iff_lt, Int64.lt_iff_toInt_lt] at h1
      rw [Int64.lt_iff_toInt_lt]; omega
    simp only [h1, if_true, this, iff_false]
    decide
  · by_cases h2 : x = y
    · subst h2
      have : ¬ x < x := by rw [Int64.lt_iff_toInt_lt]; omega
      simp only [h1, if_false, this, iff_false]
      decide
    · have : x < y := by
        rw [gt_iff_lt, Int64.lt_iff_toInt_lt] at h1
        have h3 : ¬ x.toInt = y.toInt := fun q => h2 (Int64.toInt_inj.mp q)
        rw [Int64.lt_iff_toInt_lt]; omega
      simp only [h1, if_false, h2, this, iff_true]
      decide
theorem lc_gt (x y : Int64) : (0 < lg_cmp x y) = (y < x) := by
  unfold lg_cmp
  apply propext
  by_cases h1 : y < x
  · have h1' : x > y := h1
    simp only [h1', if_true, h1, iff_true]
    decide
  · have h1' : ¬ x > y := h1
    by_cases h2 : x = y
    · simp only [if_neg h1', if_pos h2, h1, iff_false]
      decide
    · simp only [if_neg h1', if_neg h2, h1, iff_false]
      decide
theorem w64_lt (a b : Int32) : (a.toInt64 < b.toInt64) = (a < b) := by
  apply propext
  rw [Int64.lt_iff_toInt_lt, Int32.lt_iff_toInt_lt, Int32.toInt_toInt64, Int32.toInt_toInt64]
theorem in_in (x a b : Int32) (h : Sto) : fX9_in x.toInt64 a.toInt64 b.toInt64 h = some (decide (a ≤ x ∧ x ≤ b)) := by
  unfold fX9_in
  simp only [lc_lt, lc_gt, w64_lt]
  by_cases h1 : x < a
  · have : ¬ a ≤ x := Int32.not_le.mpr h1
    simp [h1, this]
  · have h1' : a ≤ x := Int32.not_lt.mp h1
    by_cases h2 : b < x
    · have : ¬ x ≤ b := Int32.not_le.mpr h2
      simp [h1, h2, this]
    · have : x ≤ b := Int32.not_lt.mp h2
      simp [h1, h2, h1', this]
theorem l64 {n : Nat} (h : n < 2147483648) : (OfNat.ofNat n : Int64) = (nI n).toInt64 := by
  rw [nI_l h]; rfl
theorem l64m : ∀ n, n < 10000 → (-(OfNat.ofNat n : Int64)) = (-(nI n)).toInt64 := by
  intro n hn
  apply Int64.toInt_inj.mp
  rw [Int32.toInt_toInt64]
  have e1 : (OfNat.ofNat n : Int64) = Int64.ofNat n := rfl
  have e2 : (nI n).toInt = (n : Int) := n_toInt (by omega)
  have e3 : (Int64.ofNat n).toInt = (n : Int) := lN_toInt (by omega)
  rw [e1, Int64.toInt_neg, Int32.toInt_neg, e2, e3]
  rw [Int.bmod_eq_of_le (by omega) (by omega), Int.bmod_eq_of_le (by omega) (by omega)]
/-- the reference's 'in' over two written numbers -/
theorem in_n (x : Int32) (a b : Nat) (ha : a < 2147483648) (hb : b < 2147483648) (h : Sto) : fX9_in x.toInt64 (OfNat.ofNat a) (OfNat.ofNat b) h = some (decide (nI a ≤ x ∧ x ≤ nI b)) := by
  rw [l64 ha, l64 hb, in_in]
theorem in_v (x y : Int32) (h : Sto) : fX9_in x.toInt64 0 y.toInt64 h = some (decide (nI 0 ≤ x ∧ x ≤ y)) := by
  rw [show (0 : Int64) = (nI 0).toInt64 by decide, in_in]
theorem asI (b : Bool) (h : Sto) : fX8_asInt (b2i b) h = some (b2i b) := by cases b <;> rfl
theorem asI0 (h : Sto) : fX8_asInt 0 h = some 0 := rfl
theorem asI1 (h : Sto) : fX8_asInt 1 h = some 1 := rfl
-- findings
theorem tf0 (h : Sto) : fX8_tellFinding (-1000001) h = some (-1000001, su h 61 0 (h 61 0 + 1)) := rfl
theorem tf1 (h : Sto) : fX8_tellFinding (-1000002) h = some (-1000002, su h 61 1 (h 61 1 + 1)) := rfl
theorem tf2 (h : Sto) : fX8_tellFinding (-1000003) h = some (-1000003, su h 61 2 (h 61 2 + 1)) := rfl
theorem tf3 (h : Sto) : fX8_tellFinding (-1000004) h = some (-1000004, su h 61 3 (h 61 3 + 1)) := rfl
theorem tf4 (h : Sto) : fX8_tellFinding (-1000005) h = some (-1000005, su h 61 4 (h 61 4 + 1)) := rfl
theorem tf5 (h : Sto) : fX8_tellFinding (-1000006) h = some (-1000006, su h 61 5 (h 61 5 + 1)) := rfl
theorem tf6 (h : Sto) : fX8_tellFinding (-1000007) h = some (-1000007, su h 61 6 (h 61 6 + 1)) := rfl
theorem mf0 (h : Sto) : fX9_finds (-1000001) h = some (-1000001, su h 86 0 (h 86 0 + 1)) := rfl
theorem mf1 (h : Sto) : fX9_finds (-1000002) h = some (-1000002, su h 86 1 (h 86 1 + 1)) := rfl
theorem mf2 (h : Sto) : fX9_finds (-1000003) h = some (-1000003, su h 86 2 (h 86 2 + 1)) := rfl
theorem mf3 (h : Sto) : fX9_finds (-1000004) h = some (-1000004, su h 86 3 (h 86 3 + 1)) := rfl
theorem mf4 (h : Sto) : fX9_finds (-1000005) h = some (-1000005, su h 86 4 (h 86 4 + 1)) := rfl
theorem mf5 (h : Sto) : fX9_finds (-1000006) h = some (-1000006, su h 86 5 (h 86 5 + 1)) := rfl
theorem mf6 (h : Sto) : fX9_finds (-1000007) h = some (-1000007, su h 86 6 (h 86 6 + 1)) := rfl
-- bits
def bs (f : Nat → Nat) : Nat → Nat
  | 0 => 0
  | n + 1 => bs f n + f n * 2 ^ n
def sm (f : Nat → Nat) : Nat → Nat
  | 0 => 0
  | n + 1 => sm f n + f n
theorem bs_lt {f : Nat → Nat} (n : Nat) (hf : ∀ i, i < n → f i ≤ 1) : bs f n < 2 ^ n := by
  induction n with
  | zero => show 0 < 2 ^ 0; decide
  | succ n ih =>
    have h1 := ih (fun i hi => hf i (by omega))
    have h2 := hf n (by omega)
    show bs f n + f n * 2 ^ n < 2 ^ (n + 1)
    rw [Nat.pow_succ]
    have : f n * 2 ^ n ≤ 1 * 2 ^ n := Nat.mul_le_mul_right _ h2
    omega
theorem bs_congr {f g : Nat → Nat} : ∀ {n : Nat}, (∀ i, i < n → f i = g i) → bs f n = bs g n
  | 0, _ => rfl
  | n + 1, h => by
    show bs f n + f n * 2 ^ n = bs g n + g n * 2 ^ n
    rw [bs_congr (n := n) (fun i hi => h i (by omega)), h n (by omega)]
theorem bs_bit {f : Nat → Nat} (n : Nat) (hf : ∀ i, i < n → f i ≤ 1) (i : Nat) : (bs f n).testBit i = (decide (i < n) && decide (f i = 1)) := by
  induction n with
  | zero => simp [bs]
  | succ n ih =>
    have h1 := ih (fun j hj => hf j (by omega))
    have hl := bs_lt n (fun j hj => hf j (by omega))
    have h2 := hf n (by omega)
    show (bs f n + f n * 2 ^ n).testBit i = _
    rw [Nat.mul_comm, Nat.add_comm, Nat.two_pow_add_eq_or_of_lt hl, Nat.testBit_or, h1, Nat.testBit_two_pow_mul]
    by_cases e : i < n
    · have e1 : ¬ n ≤ i := by omega
      have e2 : i < n + 1 := by omega
      simp [e, e1, e2]
    · by_cases e3 : i = n
      · subst e3
        rcases (show f i = 0 ∨ f i = 1 by omega) with z | z <;> simp [z]
      · have e4 : ¬ i < n + 1 := by omega
        have e5 : f n < 2 ^ (i - n) := by
          have : 2 ^ 1 ≤ 2 ^ (i - n) := Nat.pow_le_pow_right (by decide) (by omega)
          omega
        simp [e, e4, Nat.testBit_lt_two_pow e5]
theorem bs_ext {f : Nat → Nat} {n x : Nat} (hf : ∀ i, i < n → f i ≤ 1) (h : ∀ i, x.testBit i = (decide (i < n) && decide (f i = 1))) : x = bs f n := by
  apply Nat.eq_of_testBit_eq
  intro i
  rw [h i, bs_bit n hf i]
/-- the number of a set's members, as the library counts it -/
def pcN (x : Nat) : Nat := sm (fun i => if x.testBit i then 1 else 0) 14
theorem bc_k0 : (List.range 512).all (fun x => decide (fJ6_bitCount_0f7a4 (nI (512 * 0 + x)) (fun _ _ => 0) = some (nI (pcN (512 * 0 + x))))) = true := by decide +kernel
theorem bc_k1 : (List.range 512).all (fun x => decide (fJ6_bitCount_0f7a4 (nI (512 * 1 + x)) (fun _ _ => 0) = some (nI (pcN (512 * 1 + x))))) = true := by decide +kernel
theorem bc_k2 : (List.range 512).all (fun x => decide (fJ6_bitCount_0f7a4 (nI (512 * 2 + x)) (fun _ _ => 0) = some (nI (pcN (512 * 2 + x))))) = true := by decide +kernel
theorem bc_k3 : (List.range 512).all (fun x => decide (fJ6_bitCount_0f7a4 (nI (512 * 3 + x)) (fun _ _ => 0) = some (nI (pcN (512 * 3 + x))))) = true := by decide +kernel
theorem bc_k4 : (List.range 512).all (fun x => decide (fJ6_bitCount_0f7a4 (nI (512 * 4 + x)) (fun _ _ => 0) = some (nI (pcN (512 * 4 + x))))) = true := by decide +kernel
theorem bc_k5 : (List.range 512).all (fun x => decide (fJ6_bitCount_0f7a4 (nI (512 * 5 + x)) (fun _ _ => 0) = some (nI (pcN (512 * 5 + x))))) = true := by decide +kernel
theorem bc_k6 : (List.range 512).all (fun x => decide (fJ6_bitCount_0f7a4 (nI (512 * 6 + x)) (fun _ _ => 0) = some (nI (pcN (512 * 6 + x))))) = true := by decide +kernel
theorem bc_k7 : (List.range 512).all (fun x => decide (fJ6_bitCount_0f7a4 (nI (512 * 7 + x)) (fun _ _ => 0) = some (nI (pcN (512 * 7 + x))))) = true := by decide +kernel
theorem bc_k8 : (List.range 512).all (fun x => decide (fJ6_bitCount_0f7a4 (nI (512 * 8 + x)) (fun _ _ => 0) = some (nI (pcN (512 * 8 + x))))) = true := by decide +kernel
theorem bc_k9 : (List.range 512).all (fun x => decide (fJ6_bitCount_0f7a4 (nI (512 * 9 + x)) (fun _ _ => 0) = some (nI (pcN (512 * 9 + x))))) = true := by decide +kernel
theorem bc_k10 : (List.range 512).all (fun x => decide (fJ6_bitCount_0f7a4 (nI (512 * 10 + x)) (fun _ _ => 0) = some (nI (pcN (512 * 10 + x))))) = true := by decide +kernel
theorem bc_k11 : (List.range 512).all (fun x => decide (fJ6_bitCount_0f7a4 (nI (512 * 11 + x)) (fun _ _ => 0) = some (nI (pcN (512 * 11 + x))))) = true := by decide +kernel
theorem bc_k12 : (List.range 512).all (fun x => decide (fJ6_bitCount_0f7a4 (nI (512 * 12 + x)) (fun _ _ => 0) = some (nI (pcN (512 * 12 + x))))) = true := by decide +kernel
theorem bc_k13 : (List.range 512).all (fun x => decide (fJ6_bitCount_0f7a4 (nI (512 * 13 + x)) (fun _ _ => 0) = some (nI (pcN (512 * 13 + x))))) = true := by decide +kernel
theorem bc_k14 : (List.range 512).all (fun x => decide (fJ6_bitCount_0f7a4 (nI (512 * 14 + x)) (fun _ _ => 0) = some (nI (pcN (512 * 14 + x))))) = true := by decide +kernel
theorem bc_k15 : (List.range 512).all (fun x => decide (fJ6_bitCount_0f7a4 (nI (512 * 15 + x)) (fun _ _ => 0) = some (nI (pcN (512 * 15 + x))))) = true := by decide +kernel
theorem bc_k16 : (List.range 512).all (fun x => decide (fJ6_bitCount_0f7a4 (nI (512 * 16 + x)) (fun _ _ => 0) = some (nI (pcN (512 * 16 + x))))) = true := by decide +kernel
theorem bc_k17 : (List.range 512).all (fun x => decide (fJ6_bitCount_0f7a4 (nI (512 * 17 + x)) (fun _ _ => 0) = some (nI (pcN (512 * 17 + x))))) = true := by decide +kernel
theorem bc_k18 : (List.range 512).all (fun x => decide (fJ6_bitCount_0f7a4 (nI (512 * 18 + x)) (fun _ _ => 0) = some (nI (pcN (512 * 18 + x))))) = true := by decide +kernel
theorem bc_k19 : (List.range 512).all (fun x => decide (fJ6_bitCount_0f7a4 (nI (512 * 19 + x)) (fun _ _ => 0) = some (nI (pcN (512 * 19 + x))))) = true := by decide +kernel
theorem bc_k20 : (List.range 512).all (fun x => decide (fJ6_bitCount_0f7a4 (nI (512 * 20 + x)) (fun _ _ => 0) = some (nI (pcN (512 * 20 + x))))) = true := by decide +kernel
theorem bc_k21 : (List.range 512).all (fun x => decide (fJ6_bitCount_0f7a4 (nI (512 * 21 + x)) (fun _ _ => 0) = some (nI (pcN (512 * 21 + x))))) = true := by decide +kernel
theorem bc_k22 : (List.range 512).all (fun x => decide (fJ6_bitCount_0f7a4 (nI (512 * 22 + x)) (fun _ _ => 0) = some (nI (pcN (512 * 22 + x))))) = true := by decide +kernel
theorem bc_k23 : (List.range 512).all (fun x => decide (fJ6_bitCount_0f7a4 (nI (512 * 23 + x)) (fun _ _ => 0) = some (nI (pcN (512 * 23 + x))))) = true := by decide +kernel
theorem bc_k24 : (List.range 512).all (fun x => decide (fJ6_bitCount_0f7a4 (nI (512 * 24 + x)) (fun _ _ => 0) = some (nI (pcN (512 * 24 + x))))) = true := by decide +kernel
theorem bc_k25 : (List.range 512).all (fun x => decide (fJ6_bitCount_0f7a4 (nI (512 * 25 + x)) (fun _ _ => 0) = some (nI (pcN (512 * 25 + x))))) = true := by decide +kernel
theorem bc_k26 : (List.range 512).all (fun x => decide (fJ6_bitCount_0f7a4 (nI (512 * 26 + x)) (fun _ _ => 0) = some (nI (pcN (512 * 26 + x))))) = true := by decide +kernel
theorem bc_k27 : (List.range 512).all (fun x => decide (fJ6_bitCount_0f7a4 (nI (512 * 27 + x)) (fun _ _ => 0) = some (nI (pcN (512 * 27 + x))))) = true := by decide +kernel
theorem bc_k28 : (List.range 512).all (fun x => decide (fJ6_bitCount_0f7a4 (nI (512 * 28 + x)) (fun _ _ => 0) = some (nI (pcN (512 * 28 + x))))) = true := by decide +kernel
theorem bc_k29 : (List.range 512).all (fun x => decide (fJ6_bitCount_0f7a4 (nI (512 * 29 + x)) (fun _ _ => 0) = some (nI (pcN (512 * 29 + x))))) = true := by decide +kernel
theorem bc_k30 : (List.range 512).all (fun x => decide (fJ6_bitCount_0f7a4 (nI (512 * 30 + x)) (fun _ _ => 0) = some (nI (pcN (512 * 30 + x))))) = true := by decide +kernel
theorem bc_k31 : (List.range 512).all (fun x => decide (fJ6_bitCount_0f7a4 (nI (512 * 31 + x)) (fun _ _ => 0) = some (nI (pcN (512 * 31 + x))))) = true := by decide +kernel
theorem bc_all : ∀ k, k < 32 → (List.range 512).all (fun x => decide (fJ6_bitCount_0f7a4 (nI (512 * k + x)) (fun _ _ => 0) = some (nI (pcN (512 * k + x))))) = true
  | 0, _ => bc_k0
  | 1, _ => bc_k1
  | 2, _ => bc_k2
  | 3, _ => bc_k3
  | 4, _ => bc_k4
  | 5, _ => bc_k5
  | 6, _ => bc_k6
  | 7, _ => bc_k7
  | 8, _ => bc_k8
  | 9, _ => bc_k9
  | 10, _ => bc_k10
  | 11, _ => bc_k11
  | 12, _ => bc_k12
  | 13, _ => bc_k13
  | 14, _ => bc_k14
  | 15, _ => bc_k15
  | 16, _ => bc_k16
  | 17, _ => bc_k17
  | 18, _ => bc_k18
  | 19, _ => bc_k19
  | 20, _ => bc_k20
  | 21, _ => bc_k21
  | 22, _ => bc_k22
  | 23, _ => bc_k23
  | 24, _ => bc_k24
  | 25, _ => bc_k25
  | 26, _ => bc_k26
  | 27, _ => bc_k27
  | 28, _ => bc_k28
  | 29, _ => bc_k29
  | 30, _ => bc_k30
  | 31, _ => bc_k31
  | k + 32, h => absurd h (by omega)
theorem bc_tab : ∀ x, x < 16384 → fJ6_bitCount_0f7a4 (nI x) (fun _ _ => 0) = some (nI (pcN x)) := by
  intro x hx
  have := List.all_eq_true.mp (bc_all (x / 512) (by omega)) (x % 512) (List.mem_range.mpr (by omega))
  rw [Nat.div_add_mod] at this
  simpa using this
theorem bc {x : Nat} (hx : x < 16384) (h : Sto) : fJ6_bitCount_0f7a4 (nI x) h = some (nI (pcN x)) := bc_tab x hx
