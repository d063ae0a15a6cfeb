/-! 21b: bits of small numbers -/
theorem n_bv (n : Nat) : (nI n).toBitVec = BitVec.ofNat 32 n := rfl
theorem i32_ext {x y : Int32} (h : x.toBitVec = y.toBitVec) : x = y := Int32.toBitVec_inj.mp h
theorem n_or (a b : Nat) : nI a ||| nI b = nI (a ||| b) := by
  apply i32_ext
  rw [Int32.toBitVec_or, n_bv, n_bv, n_bv]
  apply BitVec.eq_of_getLsbD_eq
  intro i hi
  simp [hi]
theorem n_and (a b : Nat) : nI a &&& nI b = nI (a &&& b) := by
  apply i32_ext
  rw [Int32.toBitVec_and, n_bv, n_bv, n_bv]
  apply BitVec.eq_of_getLsbD_eq
  intro i hi
  simp [hi]
theorem n_xor (a b : Nat) : nI a ^^^ nI b = nI (a ^^^ b) := by
  apply i32_ext
  rw [Int32.toBitVec_xor, n_bv, n_bv, n_bv]
  apply BitVec.eq_of_getLsbD_eq
  intro i hi
  simp [hi]
theorem m1_bv : (lI 0).toBitVec = BitVec.allOnes 32 := by decide
/-- and not -/
def anN (a b : Nat) : Nat := a ^^^ (a &&& b)
theorem n_an (a b : Nat) : nI a &&& (nI b ^^^ lI 0) = nI (anN a b) := by
  apply i32_ext
  rw [Int32.toBitVec_and, Int32.toBitVec_xor, m1_bv, n_bv, n_bv, n_bv]
  apply BitVec.eq_of_getLsbD_eq
  intro i hi
  simp only [BitVec.getLsbD_and, BitVec.getLsbD_xor, BitVec.getLsbD_allOnes, BitVec.getLsbD_ofNat, hi, decide_true, Bool.true_and, anN, Nat.testBit_xor, Nat.testBit_and]
  cases a.testBit i <;> cases b.testBit i <;> rfl
theorem anN_bit (a b i : Nat) : (anN a b).testBit i = (a.testBit i && !b.testBit i) := by
  unfold anN
  rw [Nat.testBit_xor, Nat.testBit_and]
  cases a.testBit i <;> cases b.testBit i <;> rfl
theorem sh_amt : ∀ i, i < 32 → ((nI i &&& 31).toBitVec.smod 32).toNat = i := by decide +kernel
theorem ush_amt : ∀ i, i < 32 → (((nI i).toUInt32 &&& Int32.toUInt32 31).toBitVec % 32).toNat = i := by decide +kernel
theorem n_shl {i : Nat} (hi : i < 31) : jshl (nI 1) (nI i) = nI (2 ^ i) := by
  unfold jshl
  have hp : 2 ^ i < 2 ^ 31 := Nat.pow_lt_pow_right (by decide) hi
  rw [pk_shlN (n := 1) (nI i &&& 31) i (sh_amt i (by omega)) (by omega), Nat.one_mul]
theorem n_ush {a i : Nat} (ha : a < 4294967296) (hi : i < 32) : jush (nI a) (nI i) = nI (a / 2 ^ i) := by
  unfold jush
  exact pk_ushrN ha (nI i) i (ush_amt i hi)
theorem n_shr {a i : Nat} (ha : a < 2147483648) (hi : i < 32) : jshr (nI a) (nI i) = nI (a / 2 ^ i) := by
  unfold jshr
  exact pk_shrN ha (nI i &&& 31) i (sh_amt i hi)
theorem n_and1 {a : Nat} (ha : a < 4294967296) : nI a &&& nI 1 = nI (a % 2) := pk_andN ha (m := nI 1) 1 (by decide)
theorem bit_eq (a i : Nat) : (a / 2 ^ i % 2 = 1) ↔ a.testBit i = true := by
  rw [Nat.testBit_eq_decide_div_mod_eq]; simp
theorem hb {a i : Nat} (ha : a < 2147483648) (hi : i < 32) (h : Sto) : fX8_hasBit (nI a) (nI i) h = some (a.testBit i) := by
  unfold fX8_hasBit
  rw [n_ush (by omega) hi, show (1 : Int32) = nI 1 from rfl, n_and1 (Nat.lt_of_le_of_lt (Nat.div_le_self _ _) (by omega)), show (0 : Int32) = nI 0 from rfl]
  rw [Nat.testBit_eq_decide_div_mod_eq]
  rcases (show a / 2 ^ i % 2 = 0 ∨ a / 2 ^ i % 2 = 1 by omega) with z | z
  · rw [z]; rfl
  · rw [z]; rfl
theorem mhas {a i : Nat} (ha : a < 2147483648) (hi : i < 32) (h : Sto) : fX9_has (nI a) (nI i) h = some (a.testBit i) := by
  unfold fX9_has
  rw [n_shr ha hi, show (1 : Int32) = nI 1 from rfl, n_and1 (Nat.lt_of_le_of_lt (Nat.div_le_self _ _) (by omega))]
  rw [Nat.testBit_eq_decide_div_mod_eq]
  rcases (show a / 2 ^ i % 2 = 0 ∨ a / 2 ^ i % 2 = 1 by omega) with z | z
  · rw [z]; rfl
  · rw [z]; rfl
/-- the reference's count of a set's members -/
theorem mmany {a : Nat} (ha : a < 2147483648) (h : Sto) : fX9_many (nI a) h = some (nI (pcN a)) := by
  have hl : lp (fun s => fX9_many_b4 (nI a) h s.1 s.2) FUEL (0, 0) = some (nI (pcN a)) := by
    refine lp_F (g := fun i => (nI (sm (fun i => if a.testBit i then 1 else 0) i), nI i)) 14 (nI (pcN a)) rfl (by omega) ?_ ?_
    · intro i hi
      have h1 : ¬ (14 : Int32) ≤ nI i := by rw [show (14 : Int32) = nI 14 from rfl, n_le (by omega) (by omega)]; omega
      show fX9_many_b4 (nI a) h (nI (sm _ i)) (nI i) = _
      unfold fX9_many_b4
      rw [if_neg h1, n_shr ha (by omega), show (1 : Int32) = nI 1 from rfl, n_and1 (Nat.lt_of_le_of_lt (Nat.div_le_self _ _) (by omega)), n_add, n_add]
      have : a / 2 ^ i % 2 = if a.testBit i then 1 else 0 := by
        rw [Nat.testBit_eq_decide_div_mod_eq]
        rcases (show a / 2 ^ i % 2 = 0 ∨ a / 2 ^ i % 2 = 1 by omega) with z | z <;> simp [z]
      rw [this]
      rfl
    · show fX9_many_b4 (nI a) h (nI (sm _ 14)) (nI 14) = _
      unfold fX9_many_b4
      rw [if_pos (by decide)]
      rfl
  unfold fX9_many
  rw [hl]
  rfl
theorem sm_congr {f g : Nat → Nat} : ∀ {n : Nat}, (∀ i, i < n → f i = g i) → sm f n = sm g n
  | 0, _ => rfl
  | n + 1, h => by
    show sm f n + f n = sm g n + g n
    rw [sm_congr (n := n) (fun i hi => h i (by omega)), h n (by omega)]
theorem sm_ext {f : Nat → Nat} {n : Nat} : ∀ m, n ≤ m → (∀ i, n ≤ i → i < m → f i = 0) → sm f m = sm f n := by
  intro m
  induction m with
  | zero => intro h _; rw [show n = 0 by omega]
  | succ m ih =>
    intro h1 h2
    by_cases e : n = m + 1
    · rw [e]
    · show sm f m + f m = sm f n
      rw [ih (by omega) (fun i h3 h4 => h2 i h3 (by omega)), h2 m (by omega) (by omega)]
      omega
theorem pc_bs {f : Nat → Nat} {n : Nat} (hn : n ≤ 14) (hf : ∀ i, i < n → f i ≤ 1) : pcN (bs f n) = sm f n := by
  unfold pcN
  rw [sm_ext (n := n) 14 hn (fun i h1 h2 => by rw [bs_bit n hf i]; have : ¬ i < n := by omega
                                               simp [this])]
  apply sm_congr
  intro i hi
  rw [bs_bit n hf i]
  have := hf i hi
  rcases (show f i = 0 ∨ f i = 1 by omega) with z | z <;> simp [hi, z]
