/-! 73d: the law's loop (written by wip/whole/gen_law.py) -/
theorem lc_out {L j : Nat} {xs : Nat → Int32} {h : Sto} (hj : 6 * j < 2147483000) (hv : 45 < xs (Int32.toNatClampNeg (nI (6 * j))) &&& 63) (I : Inv h) (ih : ∀ h2, Inv h2 → ∃ h', Ev kLawF RL 4 60 (L, xs) 18 (lsq (j + 1)) [] h2 (some (.int 1)) h') : ∃ h', Ev kLawF RL 4 60 (L, xs) 33 (lsq j) [.int (xs (Int32.toNatClampNeg (nI (6 * j))) &&& 63)] h (some (.int 1)) h' := by
  obtain ⟨h', k⟩ := ih h I
  refine ⟨h', s_swOut 0 45 13 1636 rfl (Or.inr hv) ⟨by decide, by decide, by decide⟩ <| l_inc 14 15 rfl rfl hj k⟩
theorem and63 (x : Int32) : ∃ n, n < 64 ∧ x &&& 63 = nI n := by
  refine ⟨x.toBitVec.toNat % 64, Nat.mod_lt _ (by decide), ?_⟩
  conv => lhs; rw [x_nI x]
  exact pk_andN (m := 63) (by have := x.toBitVec.isLt; omega) 6 (by decide)
theorem in_scr {L a : Nat} (hL : L ≤ 3072) (h : a < L) : inb (nI a) L := by
  rintro (q | q)
  · rw [show (0 : Int32) = nI 0 from rfl, n_lt (by omega) (by decide)] at q
    omega
  · rw [n_cl (by omega)] at q
    omega
theorem law_case {L j : Nat} {xs : Nat → Int32} {h : Sto} (hx : (L, xs).1 ≠ 0) (hj2 : 6 * j < 2147483000) (hin : ∀ k : Nat, k ≤ 5 → inb (nI (6 * j) + nI k) L) (I : Inv h) (ih2 : ∀ h2, Inv h2 → ∃ h', Ev kLawF RL 4 60 (L, xs) 18 (lsq (j + 1)) [] h2 (some (.int 1)) h') : ∀ n : Nat, n < 64 → xs (Int32.toNatClampNeg (nI (6 * j))) &&& 63 = nI n → ∃ h', Ev kLawF RL 4 60 (L, xs) 33 (lsq j) [.int (xs (Int32.toNatClampNeg (nI (6 * j))) &&& 63)] h (some (.int 1)) h' := by
  intro n hn en
  by_cases g2 : 45 < n
  · refine lc_out hj2 ?_ I ih2
    rw [en, show (45 : Int32) = nI 45 from rfl, n_lt (by decide) (by omega)]
    exact g2
  · match n, en, g2 with
        | 0, en, _ => exact lc_0 hx hj2 hin en I ih2
        | 1, en, _ => exact lc_1 hx hj2 hin en I ih2
        | 2, en, _ => exact lc_2 hx hj2 hin en I ih2
        | 3, en, _ => exact lc_3 hx hj2 hin en I ih2
        | 4, en, _ => exact lc_4 hx hj2 hin en I ih2
        | 5, en, _ => exact lc_5 hx hj2 hin en I ih2
        | 6, en, _ => exact lc_6 hx hj2 hin en I ih2
        | 7, en, _ => exact lc_7 hx hj2 hin en I ih2
        | 8, en, _ => exact lc_8 hx hj2 hin en I ih2
        | 9, en, _ => exact lc_9 hx hj2 hin en I ih2
        | 10, en, _ => exact lc_10 hx hj2 hin en I ih2
        | 11, en, _ => exact lc_11 hx hj2 hin en I ih2
        | 12, en, _ => exact lc_12 hx hj2 hin en I ih2
        | 13, en, _ => exact lc_13 hx hj2 hin en I ih2
        | 14, en, _ => exact lc_14 hx hj2 hin en I ih2
        | 15, en, _ => exact lc_15 hx hj2 hin en I ih2
        | 16, en, _ => exact lc_16 hx hj2 hin en I ih2
        | 17, en, _ => exact lc_17 hx hj2 hin en I ih2
        | 18, en, _ => exact lc_18 hx hj2 hin en I ih2
        | 19, en, _ => exact lc_19 hx hj2 hin en I ih2
        | 20, en, _ => exact lc_20 hx hj2 hin en I ih2
        | 21, en, _ => exact lc_21 hx hj2 hin en I ih2
        | 22, en, _ => exact lc_22 hx hj2 hin en I ih2
        | 23, en, _ => exact lc_23 hx hj2 hin en I ih2
        | 24, en, _ => exact lc_24 hx hj2 hin en I ih2
        | 25, en, _ => exact lc_25 hx hj2 hin en I ih2
        | 26, en, _ => exact lc_26 hx hj2 hin en I ih2
        | 27, en, _ => exact lc_27 hx hj2 hin en I ih2
        | 28, en, _ => exact lc_28 hx hj2 hin en I ih2
        | 29, en, _ => exact lc_29 hx hj2 hin en I ih2
        | 30, en, _ => exact lc_30 hx hj2 hin en I ih2
        | 31, en, _ => exact lc_31 hx hj2 hin en I ih2
        | 32, en, _ => exact lc_32 hx hj2 hin en I ih2
        | 33, en, _ => exact lc_33 hx hj2 hin en I ih2
        | 34, en, _ => exact lc_34 hx hj2 hin en I ih2
        | 35, en, _ => exact lc_35 hx hj2 hin en I ih2
        | 36, en, _ => exact lc_36 hx hj2 hin en I ih2
        | 37, en, _ => exact lc_37 hx hj2 hin en I ih2
        | 38, en, _ => exact lc_38 hx hj2 hin en I ih2
        | 39, en, _ => exact lc_39 hx hj2 hin en I ih2
        | 40, en, _ => exact lc_40 hx hj2 hin en I ih2
        | 41, en, _ => exact lc_41 hx hj2 hin en I ih2
        | 42, en, _ => exact lc_42 hx hj2 hin en I ih2
        | 43, en, _ => exact lc_43 hx hj2 hin en I ih2
        | 44, en, _ => exact lc_44 hx hj2 hin en I ih2
        | 45, en, _ => exact lc_45 hx hj2 hin en I ih2
        | n + 46, _, g2 => exact absurd (by omega) g2
set_option maxHeartbeats 4000000 in
theorem law_loop {L : Nat} {xs : Nat → Int32} (hL : L ≤ 3072) (hx : (L, xs).1 ≠ 0) : ∀ (k j : Nat) (h : Sto), L + 6 ≤ 6 * j + k → 6 * j ≤ L → Inv h → ∃ h', Ev kLawF RL 4 60 (L, xs) 18 (lsq j) [] h (some (.int 1)) h' := by
  intro k
  induction k with
  | zero => intro j h hk hj I; omega
  | succ k ih =>
    intro j h hk hj I
    have hj2 : 6 * j < 2147483000 := by omega
    by_cases g : 6 * j + 6 ≤ L
    · have hin : ∀ k : Nat, k ≤ 5 → inb (nI (6 * j) + nI k) L := by
        intro k hk5
        rw [n_add]
        exact in_scr hL (by omega)
      obtain ⟨n, hn, en⟩ := and63 (xs (Int32.toNatClampNeg (nI (6 * j))))
      obtain ⟨h', ev⟩ := law_case hx hj2 hin I (fun h2 I2 => ih (j + 1) h2 (by omega) (by omega) I2) n hn en
      refine ⟨h', s_iload_n 2 rfl rfl <| s_aload_n 3 rfl rfl <| s_alscr 4 rfl hx <| s_bipush 6 5 rfl (by decide) <| s_isub 6 rfl <| s_icmp_gt_F 7 1642 rfl (by decide) ?_ <| s_aload_n 8 rfl rfl <| s_iload_n 9 rfl rfl <| s_iascr 10 rfl hx (in_scr hL (by omega)) <| s_bipush 63 11 rfl (by decide) <| s_iand 12 rfl ev⟩
      show ¬ (nI L - 6 < nI (6 * j))
      rw [show (6 : Int32) = nI 6 from rfl, n_sub (by omega), n_lt (by omega) (by omega)]
      omega
    · refine ⟨h, s_iload_n 2 rfl rfl <| s_aload_n 3 rfl rfl <| s_alscr 4 rfl hx <| s_bipush 6 5 rfl (by decide) <| s_isub 6 rfl <| s_icmp_gt_T 7 1642 rfl (by decide) ?_ <| s_iconst 1 16 rfl (by decide) <| s_iret 17 rfl⟩
      show nI L - 6 < nI (6 * j)
      by_cases g6 : 6 ≤ L
      · rw [show (6 : Int32) = nI 6 from rfl, n_sub g6, n_lt (by omega) (by omega)]
        omega
      · have ej : j = 0 := by omega
        subst ej
        rcases (show L = 0 ∨ L = 1 ∨ L = 2 ∨ L = 3 ∨ L = 4 ∨ L = 5 by omega) with rfl | rfl | rfl | rfl | rfl | rfl <;> decide
theorem law_all {L : Nat} {xs : Nat → Int32} (hL : L ≤ 3072) (hx : (L, xs).1 ≠ 0) (h : Sto) (I : Inv h) : ∃ h', Ev kLawF RL 4 60 (L, xs) 16 [some (.ref 202), some (.ref 0), some (.ref 83), none] [] h (some (.int 1)) h' := by
  obtain ⟨h', ev⟩ := law_loop hL hx (L + 6) 0 h (by omega) (by omega) I
  exact ⟨h', s_iconst 0 0 rfl (by decide) <| s_istore_n (lsq 0) 1 rfl (by decide) rfl ev⟩
