/-! 13 methods (written by wip/whole/gen_m.py) -/
def fX2_fail (h : Sto) : Option Sto :=
  if 0 ≤ (h 64 7) then ((some (su h 64 4 1)).bind fun h_2 => some h_2) else ((some (su h 64 7 (h 64 5))).bind fun h_3 => (some (su h_3 64 4 1)).bind fun h_4 => some h_4)
set_option maxRecDepth 100000 in
set_option maxHeartbeats 4000000 in
theorem okX2_fail (d : Nat) (h : Sto) (q : Sto) (e : fX2_fail h = some q) : Ok yX2_fail cX2_fail 1 none d [.ref 64] h none q := by
  refine Ok_of (lst := kX2_fail) (own := RX2) ⟨by decide, rfl⟩ ckX2_fail trivial (Nat.le_of_ble_eq_true rfl) ?_
  unfold fX2_fail at e
  change Ev kX2_fail RX2 1 d nox 0 [some (.ref 64)] [] h none q
  refine s_aload_n 0 rfl rfl <| s_geti 1 rfl fl_X2_25 sh_64 rfl <| ?_
  rcases iteS e with ⟨g_1, e⟩ | ⟨g_1, e⟩
  · obtain ⟨h_2, eh_2, e⟩ := bndS e
    obtain rfl := Option.some.inj e
    exact s_if_ge_T 2 15 rfl (by decide) g_1 <| s_aload_n 7 rfl rfl <| s_iconst 1 8 rfl (by decide) <| s_puti 9 rfl fl_X2_42 sh_64 rfl <| s_nmH (Option.some.inj eh_2) <| s_vret 10 rfl
  · obtain ⟨h_3, eh_3, e⟩ := bndS e
    obtain ⟨h_4, eh_4, e⟩ := bndS e
    obtain rfl := Option.some.inj e
    exact s_if_ge_F 2 15 rfl (by decide) g_1 <| s_aload_n 3 rfl rfl <| s_aload_n 4 rfl rfl <| s_geti 5 rfl fl_X2_65 sh_64 rfl <| s_puti 6 rfl fl_X2_25 sh_64 rfl <| s_nmH (Option.some.inj eh_3) <| s_aload_n 7 rfl rfl <| s_iconst 1 8 rfl (by decide) <| s_puti 9 rfl fl_X2_42 sh_64 rfl <| s_nmH (Option.some.inj eh_4) <| s_vret 10 rfl
def fX2_take (x1 : Int32) (h : Sto) : Option Sto :=
  if ¬ (h 64 4) = x1 then ((fX2_fail h).bind fun q_2 => some q_2) else ((fX2_step h).bind fun q_4 => some q_4)
set_option maxRecDepth 100000 in
set_option maxHeartbeats 4000000 in
theorem okX2_take (d : Nat) (x1 : Int32) (h : Sto) (q : Sto) (e : fX2_take x1 h = some q) : Ok yX2_take cX2_take 2 none (d + 13) [.ref 64, .int x1] h none q := by
  refine Ok_of (lst := kX2_take) (own := RX2) ⟨by decide, rfl⟩ ckX2_take trivial (Nat.le_of_ble_eq_true rfl) ?_
  unfold fX2_take at e
  change Ev kX2_take RX2 2 (d + 13) nox 0 [some (.ref 64), some (.int x1)] [] h none q
  refine s_aload_n 0 rfl rfl <| s_geti 1 rfl fl_X2_42 sh_64 rfl <| s_iload_n 2 rfl rfl <| ?_
  rcases iteS e with ⟨g_1, e⟩ | ⟨g_1, e⟩
  · obtain ⟨q_2, e_3, e⟩ := bndS e
    obtain rfl := Option.some.inj e
    exact s_icmp_ne_T 3 15 rfl (by decide) g_1 <| s_aload_n 7 rfl rfl <| s_callV (b := 64) (ci := 2) 8 [] [] rfl ml_X2_62 yw_X2_fail sh_64 rfl rfl (okX2_fail (d + 12) _ _ e_3) rfl rfl (Nat.le_of_ble_eq_true rfl) <| s_vret 9 rfl
  · obtain ⟨q_4, e_5, e⟩ := bndS e
    obtain rfl := Option.some.inj e
    exact s_icmp_ne_F 3 15 rfl (by decide) (Decidable.not_not.mp g_1) <| s_aload_n 4 rfl rfl <| s_callV (b := 64) (ci := 2) 5 [] [] rfl ml_X2_28 yw_X2_step sh_64 rfl rfl (okX2_step d _ _ e_5) rfl rfl (Nat.le_of_ble_eq_true rfl) <| s_goto 6 19 rfl (by decide) <| s_vret 9 rfl
def fX2_readOne (rO : Int32 → Sto → Option (Int32 × Sto)) (x1 : Int32) (h : Sto) : Option (Int32 × Sto) :=
  if (h 64 4) = 2 then ((fX2_step h).bind fun q_2 => some ((h 64 6), q_2)) else (if ¬ (h 64 4) = 3 then (if (h 64 4) = 45 then (if x1 < 6 then ((fX2_step h).bind fun q_7 => if ¬ (h 64 4) = 45 then ((fX2_readText rO (x1 + 1) q_7).bind fun q_10 => (fX2_take 41 q_10.2).bind fun q_12 => some (q_10.1, q_12)) else ((rO (x1 + 1) q_7).bind fun q_14 => some ((-q_14.1), q_14.2))) else ((fX2_fail h).bind fun q_16 => some (0, q_16))) else (if ¬ (h 64 4) = 40 then ((fX2_fail h).bind fun q_19 => some (0, q_19)) else (if x1 < 6 then ((fX2_step h).bind fun q_22 => if ¬ (h 64 4) = 45 then ((fX2_readText rO (x1 + 1) q_22).bind fun q_25 => (fX2_take 41 q_25.2).bind fun q_27 => some (q_25.1, q_27)) else ((rO (x1 + 1) q_22).bind fun q_29 => some ((-q_29.1), q_29.2))) else ((fX2_fail h).bind fun q_31 => some (0, q_31))))) else ((fX2_step h).bind fun q_33 => some ((h 64 6), q_33)))
set_option maxRecDepth 100000 in
set_option maxHeartbeats 4000000 in
theorem okX2_readOne (d : Nat) (rO : Int32 → Sto → Option (Int32 × Sto)) (hO : ∀ (k : Nat) (x : Int32) (h : Sto) (qv : Int32) (qh : Sto), rO x h = some (qv, qh) → Ok yX2_readOne cX2_readOne 4 (some .int) (d + k + 13) [.ref 64, .int x] h (some (.int qv)) qh) (x1 : Int32) (h : Sto) (qv : Int32) (qh : Sto) (e : fX2_readOne rO x1 h = some (qv, qh)) : Ok yX2_readOne cX2_readOne 4 (some .int) (d + 17) [.ref 64, .int x1] h (some (.int qv)) qh := by
  refine Ok_of (lst := kX2_readOne) (own := RX2) ⟨by decide, rfl⟩ ckX2_readOne trivial (Nat.le_of_ble_eq_true rfl) ?_
  unfold fX2_readOne at e
  change Ev kX2_readOne RX2 4 (d + 17) nox 0 [some (.ref 64), some (.int x1), none, none] [] h (some (.int qv)) qh
  refine s_aload_n 0 rfl rfl <| s_geti 1 rfl fl_X2_42 sh_64 rfl <| s_istore_n [some (.ref 64), some (.int x1), some (.int (h 64 4)), none] 2 rfl (by decide) rfl <| s_aload_n 3 rfl rfl <| s_geti 4 rfl fl_X2_59 sh_64 rfl <| s_istore_n [some (.ref 64), some (.int x1), some (.int (h 64 4)), some (.int (h 64 6))] 5 rfl (by decide) rfl <| s_iload_n 6 rfl rfl <| s_iconst 2 7 rfl (by decide) <| ?_
  rcases iteS e with ⟨g_1, e⟩ | ⟨g_1, e⟩
  · obtain ⟨q_2, e_3, e⟩ := bndS e
    obtain ⟨rfl, rfl⟩ := some2 e
    exact s_icmp_eq_T 8 20 rfl (by decide) g_1 <| s_aload_n 12 rfl rfl <| s_callV (b := 64) (ci := 2) 13 [] [] rfl ml_X2_28 yw_X2_step sh_64 rfl rfl (okX2_step (d + 4) _ _ e_3) rfl rfl (Nat.le_of_ble_eq_true rfl) <| s_iload_n 14 rfl rfl <| s_iret 15 rfl
  · refine s_icmp_eq_F 8 20 rfl (by decide) g_1 <| s_iload_n 9 rfl rfl <| s_iconst 3 10 rfl (by decide) <| ?_
    rcases iteS e with ⟨g_4, e⟩ | ⟨g_4, e⟩
    · refine s_icmp_ne_T 11 26 rfl (by decide) g_4 <| s_iload_n 16 rfl rfl <| s_bipush 45 17 rfl (by decide) <| ?_
      rcases iteS e with ⟨g_5, e⟩ | ⟨g_5, e⟩
      · refine s_icmp_eq_T 18 38 rfl (by decide) g_5 <| s_iload_n 22 rfl rfl <| s_bipush 6 23 rfl (by decide) <| ?_
        rcases iteS e with ⟨g_6, e⟩ | ⟨g_6, e⟩
        · obtain ⟨q_7, e_8, e⟩ := bndS e
          refine s_icmp_lt_T 24 50 rfl (by decide) g_6 <| s_aload_n 29 rfl rfl <| s_callV (b := 64) (ci := 2) 30 [] [] rfl ml_X2_28 yw_X2_step sh_64 rfl rfl (okX2_step (d + 4) _ _ e_8) rfl rfl (Nat.le_of_ble_eq_true rfl) <| s_iload_n 31 rfl rfl <| s_bipush 45 32 rfl (by decide) <| ?_
          rcases iteS e with ⟨g_9, e⟩ | ⟨g_9, e⟩
          · obtain ⟨q_10, e_11, e⟩ := bndS e
            obtain ⟨q_12, e_13, e⟩ := bndS e
            obtain ⟨rfl, rfl⟩ := some2 e
            exact s_icmp_ne_T 33 69 rfl (by decide) g_9 <| s_aload_n 41 rfl rfl <| s_iload_n 42 rfl rfl <| s_iconst 1 43 rfl (by decide) <| s_iadd 44 rfl <| s_callV (b := 64) (ci := 2) 45 [.int (x1 + 1)] [] rfl ml_X2_31 yw_X2_readText sh_64 rfl rfl (okX2_readText d rO hO _ _ q_10.1 q_10.2 e_11) rfl rfl (Nat.le_of_ble_eq_true rfl) <| s_istore_n [some (.ref 64), some (.int x1), some (.int (h 64 4)), some (.int q_10.1)] 46 rfl (by decide) rfl <| s_aload_n 47 rfl rfl <| s_bipush 41 48 rfl (by decide) <| s_callV (b := 64) (ci := 2) 49 [.int 41] [] rfl ml_X2_35 yw_X2_take sh_64 rfl rfl (okX2_take (d + 3) _ _ _ e_13) rfl rfl (Nat.le_of_ble_eq_true rfl) <| s_iload_n 50 rfl rfl <| s_iret 51 rfl
          · obtain ⟨q_14, e_15, e⟩ := bndS e
            obtain ⟨rfl, rfl⟩ := some2 e
            exact s_icmp_ne_F 33 69 rfl (by decide) (Decidable.not_not.mp g_9) <| s_aload_n 34 rfl rfl <| s_iload_n 35 rfl rfl <| s_iconst 1 36 rfl (by decide) <| s_iadd 37 rfl <| s_callV (b := 64) (ci := 2) 38 [.int (x1 + 1)] [] rfl ml_X2_52 yw_X2_readOne sh_64 rfl rfl (hO 3 _ _ q_14.1 q_14.2 e_15) rfl rfl (Nat.le_of_ble_eq_true rfl) <| s_ineg 39 rfl <| s_iret 40 rfl
        · obtain ⟨q_16, e_17, e⟩ := bndS e
          obtain ⟨rfl, rfl⟩ := some2 e
          exact s_icmp_lt_F 24 50 rfl (by decide) g_6 <| s_aload_n 25 rfl rfl <| s_callV (b := 64) (ci := 2) 26 [] [] rfl ml_X2_62 yw_X2_fail sh_64 rfl rfl (okX2_fail (d + 16) _ _ e_17) rfl rfl (Nat.le_of_ble_eq_true rfl) <| s_iconst 0 27 rfl (by decide) <| s_iret 28 rfl
      · refine s_icmp_eq_F 18 38 rfl (by decide) g_5 <| s_iload_n 19 rfl rfl <| s_bipush 40 20 rfl (by decide) <| ?_
        rcases iteS e with ⟨g_18, e⟩ | ⟨g_18, e⟩
        · obtain ⟨q_19, e_20, e⟩ := bndS e
          obtain ⟨rfl, rfl⟩ := some2 e
          exact s_icmp_ne_T 21 44 rfl (by decide) g_18 <| s_aload_n 25 rfl rfl <| s_callV (b := 64) (ci := 2) 26 [] [] rfl ml_X2_62 yw_X2_fail sh_64 rfl rfl (okX2_fail (d + 16) _ _ e_20) rfl rfl (Nat.le_of_ble_eq_true rfl) <| s_iconst 0 27 rfl (by decide) <| s_iret 28 rfl
        · refine s_icmp_ne_F 21 44 rfl (by decide) (Decidable.not_not.mp g_18) <| s_iload_n 22 rfl rfl <| s_bipush 6 23 rfl (by decide) <| ?_
          rcases iteS e with ⟨g_21, e⟩ | ⟨g_21, e⟩
          · obtain ⟨q_22, e_23, e⟩ := bndS e
            refine s_icmp_lt_T 24 50 rfl (by decide) g_21 <| s_aload_n 29 rfl rfl <| s_callV (b := 64) (ci := 2) 30 [] [] rfl ml_X2_28 yw_X2_step sh_64 rfl rfl (okX2_step (d + 4) _ _ e_23) rfl rfl (Nat.le_of_ble_eq_true rfl) <| s_iload_n 31 rfl rfl <| s_bipush 45 32 rfl (by decide) <| ?_
            rcases iteS e with ⟨g_24, e⟩ | ⟨g_24, e⟩
            · obtain ⟨q_25, e_26, e⟩ := bndS e
              obtain ⟨q_27, e_28, e⟩ := bndS e
              obtain ⟨rfl, rfl⟩ := some2 e
              exact s_icmp_ne_T 33 69 rfl (by decide) g_24 <| s_aload_n 41 rfl rfl <| s_iload_n 42 rfl rfl <| s_iconst 1 43 rfl (by decide) <| s_iadd 44 rfl <| s_callV (b := 64) (ci := 2) 45 [.int (x1 + 1)] [] rfl ml_X2_31 yw_X2_readText sh_64 rfl rfl (okX2_readText d rO hO _ _ q_25.1 q_25.2 e_26) rfl rfl (Nat.le_of_ble_eq_true rfl) <| s_istore_n [some (.ref 64), some (.int x1), some (.int (h 64 4)), some (.int q_25.1)] 46 rfl (by decide) rfl <| s_aload_n 47 rfl rfl <| s_bipush 41 48 rfl (by decide) <| s_callV (b := 64) (ci := 2) 49 [.int 41] [] rfl ml_X2_35 yw_X2_take sh_64 rfl rfl (okX2_take (d + 3) _ _ _ e_28) rfl rfl (Nat.le_of_ble_eq_true rfl) <| s_iload_n 50 rfl rfl <| s_iret 51 rfl
            · obtain ⟨q_29, e_30, e⟩ := bndS e
              obtain ⟨rfl, rfl⟩ := some2 e
              exact s_icmp_ne_F 33 69 rfl (by decide) (Decidable.not_not.mp g_24) <| s_aload_n 34 rfl rfl <| s_iload_n 35 rfl rfl <| s_iconst 1 36 rfl (by decide) <| s_iadd 37 rfl <| s_callV (b := 64) (ci := 2) 38 [.int (x1 + 1)] [] rfl ml_X2_52 yw_X2_readOne sh_64 rfl rfl (hO 3 _ _ q_29.1 q_29.2 e_30) rfl rfl (Nat.le_of_ble_eq_true rfl) <| s_ineg 39 rfl <| s_iret 40 rfl
          · obtain ⟨q_31, e_32, e⟩ := bndS e
            obtain ⟨rfl, rfl⟩ := some2 e
            exact s_icmp_lt_F 24 50 rfl (by decide) g_21 <| s_aload_n 25 rfl rfl <| s_callV (b := 64) (ci := 2) 26 [] [] rfl ml_X2_62 yw_X2_fail sh_64 rfl rfl (okX2_fail (d + 16) _ _ e_32) rfl rfl (Nat.le_of_ble_eq_true rfl) <| s_iconst 0 27 rfl (by decide) <| s_iret 28 rfl
    · obtain ⟨q_33, e_34, e⟩ := bndS e
      obtain ⟨rfl, rfl⟩ := some2 e
      exact s_icmp_ne_F 11 26 rfl (by decide) (Decidable.not_not.mp g_4) <| s_aload_n 12 rfl rfl <| s_callV (b := 64) (ci := 2) 13 [] [] rfl ml_X2_28 yw_X2_step sh_64 rfl rfl (okX2_step (d + 4) _ _ e_34) rfl rfl (Nat.le_of_ble_eq_true rfl) <| s_iload_n 14 rfl rfl <| s_iret 15 rfl
def rdX2 : Nat → Int32 → Sto → Option (Int32 × Sto)
  | 0 => fun _ _ => none
  | n + 1 => fX2_readOne (rdX2 n)
theorem okrdX2 (n : Nat) : ∀ (d k : Nat) (x : Int32) (h : Sto) (qv : Int32) (qh : Sto), rdX2 n x h = some (qv, qh) → Ok yX2_readOne cX2_readOne 4 (some .int) (d + 4 * n + k + 13) [.ref 64, .int x] h (some (.int qv)) qh := by
  induction n with
  | zero => intro d k x h qv qh e; cases e
  | succ n ih =>
    intro d k x h qv qh e
    have z : d + 4 * (n + 1) + k + 13 = d + 4 * n + k + 17 := by omega
    rw [z]
    refine okX2_readOne (d + 4 * n + k) (rdX2 n) (fun k2 => ?_) x h qv qh e
    have z2 : d + 4 * n + k + k2 + 13 = d + 4 * n + (k + k2) + 13 := by omega
    rw [z2]
    exact ih d (k + k2)
def fX2_read (p1 : Nat) (x2 : Int32) (h : Sto) : Option (Int32 × Sto) :=
  grd (0 < p1 ∧ p1 < 1000) <| (some (su h 64 0 (nI p1))).bind fun h_2 => (some (su h_2 64 1 x2)).bind fun h_3 => grd (0 < 63 ∧ 63 < 1000) <| (some (su h_3 64 2 (nI 63))).bind fun h_5 => (some (su h_5 64 3 0)).bind fun h_6 => (some (su h_6 64 7 (-1))).bind fun h_7 => (fX2_step h_7).bind fun q_8 => (fX2_readText (rdX2 8) 0 q_8).bind fun q_10 => (fX2_take 0 q_10.2).bind fun q_12 => some (q_10.1, q_12)
set_option maxRecDepth 100000 in
set_option maxHeartbeats 4000000 in
theorem okX2_read (d : Nat) (p1 : Nat) (x2 : Int32) (h : Sto) (qv : Int32) (qh : Sto) (e : fX2_read p1 x2 h = some (qv, qh)) : Ok yX2_read cX2_read 5 (some .int) (d + 49) [.ref 64, .ref p1, .int x2, .ref 63] h (some (.int qv)) qh := by
  refine Ok_of (lst := kX2_read) (own := RX2) ⟨by decide, rfl⟩ ckX2_read trivial (Nat.le_of_ble_eq_true rfl) ?_
  unfold fX2_read at e
  change Ev kX2_read RX2 5 (d + 49) nox 0 [some (.ref 64), some (.ref p1), some (.int x2), some (.ref 63), none] [] h (some (.int qv)) qh
  obtain ⟨g_1, e⟩ := grdS e
  obtain ⟨h_2, eh_2, e⟩ := bndS e
  obtain ⟨h_3, eh_3, e⟩ := bndS e
  obtain ⟨g_4, e⟩ := grdS e
  obtain ⟨h_5, eh_5, e⟩ := bndS e
  obtain ⟨h_6, eh_6, e⟩ := bndS e
  obtain ⟨h_7, eh_7, e⟩ := bndS e
  obtain ⟨q_8, e_9, e⟩ := bndS e
  obtain ⟨q_10, e_11, e⟩ := bndS e
  obtain ⟨q_12, e_13, e⟩ := bndS e
  obtain ⟨rfl, rfl⟩ := some2 e
  exact s_aload_n 0 rfl rfl <| s_aload_n 1 rfl rfl <| s_putv 2 rfl fl_X2_9 sh_64 rfl g_1 <| s_nmH (Option.some.inj eh_2) <| s_aload_n 3 rfl rfl <| s_iload_n 4 rfl rfl <| s_puti 5 rfl fl_X2_15 sh_64 rfl <| s_nmH (Option.some.inj eh_3) <| s_aload_n 6 rfl rfl <| s_aload_n 7 rfl rfl <| s_putv 8 rfl fl_X2_19 sh_64 rfl g_4 <| s_nmH (Option.some.inj eh_5) <| s_aload_n 9 rfl rfl <| s_iconst 0 10 rfl (by decide) <| s_puti 11 rfl fl_X2_22 sh_64 rfl <| s_nmH (Option.some.inj eh_6) <| s_aload_n 12 rfl rfl <| s_iconst (-1) 13 rfl (by decide) <| s_puti 14 rfl fl_X2_25 sh_64 rfl <| s_nmH (Option.some.inj eh_7) <| s_aload_n 15 rfl rfl <| s_callV (b := 64) (ci := 2) 16 [] [] rfl ml_X2_28 yw_X2_step sh_64 rfl rfl (okX2_step (d + 36) _ _ e_9) rfl rfl (Nat.le_of_ble_eq_true rfl) <| s_aload_n 17 rfl rfl <| s_iconst 0 18 rfl (by decide) <| s_callV (b := 64) (ci := 2) 19 [.int 0] [] rfl ml_X2_31 yw_X2_readText sh_64 rfl rfl (okX2_readText (d + 32) (rdX2 8) (okrdX2 8 d) _ _ q_10.1 q_10.2 e_11) rfl rfl (Nat.le_of_ble_eq_true rfl) <| s_istore [some (.ref 64), some (.ref p1), some (.int x2), some (.ref 63), some (.int q_10.1)] 20 rfl (by decide) rfl <| s_aload_n 21 rfl rfl <| s_iconst 0 22 rfl (by decide) <| s_callV (b := 64) (ci := 2) 23 [.int 0] [] rfl ml_X2_35 yw_X2_take sh_64 rfl rfl (okX2_take (d + 35) _ _ _ e_13) rfl rfl (Nat.le_of_ble_eq_true rfl) <| s_iload 24 rfl rfl <| s_iret 25 rfl
def fX6_add (x2 : Int32) (h : Sto) : Option (Int32 × Sto) :=
  grd (inb (h 16 0) 6) <| grd ((¬ (0 : Int32) < 0 ∧ ¬ (0 : Int32) < 0 ∧ ¬ (x2 : Int32) < 0) ∧ (Int32.toNatClampNeg 0) + (Int32.toNatClampNeg x2) ≤ 80 ∧ (Int32.toNatClampNeg 0) + (Int32.toNatClampNeg x2) ≤ 80) <| (some (sr h (18 + (Int32.toNatClampNeg (h 16 0))) (va_cpy (h 51) (h (18 + (Int32.toNatClampNeg (h 16 0)))) (Int32.toNatClampNeg 0) (Int32.toNatClampNeg 0) (Int32.toNatClampNeg x2)))).bind fun h_3 => grd (inb (h_3 16 0) 6) <| (some (su h_3 24 (Int32.toNatClampNeg (h_3 16 0)) x2)).bind fun h_5 => (some (su h_5 16 0 ((h_5 16 0) + 1))).bind fun h_6 => some (((h_6 16 0) - 1), h_6)
set_option maxRecDepth 100000 in
set_option maxHeartbeats 4000000 in
theorem okX6_add (d : Nat) (x2 : Int32) (h : Sto) (qv : Int32) (qh : Sto) (e : fX6_add x2 h = some (qv, qh)) : Ok yX6_add cX6_add 3 (some .int) (d + 1) [.ref 16, .ref 51, .int x2] h (some (.int qv)) qh := by
  refine Ok_of (lst := kX6_add) (own := RX6) ⟨by decide, rfl⟩ ckX6_add trivial (Nat.le_of_ble_eq_true rfl) ?_
  unfold fX6_add at e
  change Ev kX6_add RX6 3 (d + 1) nox 0 [some (.ref 16), some (.ref 51), some (.int x2)] [] h (some (.int qv)) qh
  obtain ⟨g_1, e⟩ := grdS e
  obtain ⟨g_2, e⟩ := grdS e
  obtain ⟨h_3, eh_3, e⟩ := bndS e
  obtain ⟨g_4, e⟩ := grdS e
  obtain ⟨h_5, eh_5, e⟩ := bndS e
  obtain ⟨h_6, eh_6, e⟩ := bndS e
  obtain ⟨rfl, rfl⟩ := some2 e
  exact s_aload_n 0 rfl rfl <| s_iconst 0 1 rfl (by decide) <| s_aload_n 2 rfl rfl <| s_getr 3 rfl fl_X6_11 sh_16 rfl <| s_aload_n 4 rfl rfl <| s_geti 5 rfl fl_X6_20 sh_16 rfl <| s_aald2 (18 + (Int32.toNatClampNeg (h 16 0))) 6 rfl sh_17 rfl g_1 <| s_iconst 0 7 rfl (by decide) <| s_iload_n 8 rfl rfl <| s_copy 9 rfl ml_X6_28 wCpy sh_51 (srw_18 _ (inb_lt g_1)) g_2 (Nat.le_of_ble_eq_true rfl) <| s_nmH (Option.some.inj eh_3) <| s_aload_n 10 rfl rfl <| s_getr 11 rfl fl_X6_16 sh_16 rfl <| s_aload_n 12 rfl rfl <| s_geti 13 rfl fl_X6_20 sh_16 rfl <| s_iload_n 14 rfl rfl <| s_iast (Int32.toNatClampNeg (h_3 16 0)) 15 rfl sh_24 g_4 rfl <| s_nmH (Option.some.inj eh_5) <| s_aload_n 16 rfl rfl <| s_dup 17 rfl rfl <| s_geti 18 rfl fl_X6_20 sh_16 rfl <| s_iconst 1 19 rfl (by decide) <| s_iadd 20 rfl <| s_puti 21 rfl fl_X6_20 sh_16 rfl <| s_nmH (Option.some.inj eh_6) <| s_aload_n 22 rfl rfl <| s_geti 23 rfl fl_X6_20 sh_16 rfl <| s_iconst 1 24 rfl (by decide) <| s_isub 25 rfl <| s_iret 26 rfl
def fX8_text (h : Sto) : Option (Int32 × Sto) :=
  if (h 16 0) < 6 then ((fX2_read 51 (h 0 4) h).bind fun q_2 => (some (su q_2.2 0 4 0)).bind fun h_4 => if (h_4 64 7) < 0 then ((fX6_add (q_2.2 0 4) h_4).bind fun q_6 => some (q_6.1, q_6.2)) else (some (((-1) - (h_4 64 7)), h_4))) else ((fX8_tellFinding (-1000002) h).bind fun q_8 => some (q_8.1, q_8.2))
set_option maxRecDepth 100000 in
set_option maxHeartbeats 4000000 in
theorem okX8_text (d : Nat) (h : Sto) (qv : Int32) (qh : Sto) (e : fX8_text h = some (qv, qh)) : Ok yX8_text cX8_text 2 (some .int) (d + 50) [.ref 0] h (some (.int qv)) qh := by
  refine Ok_of (lst := kX8_text) (own := RX8) ⟨by decide, rfl⟩ ckX8_text trivial (Nat.le_of_ble_eq_true rfl) ?_
  unfold fX8_text at e
  change Ev kX8_text RX8 2 (d + 50) nox 0 [some (.ref 0), none] [] h (some (.int qv)) qh
  refine s_aload_n 0 rfl rfl <| s_getr 1 rfl fl_X8_12 sh_0 rfl <| s_getr 2 rfl fl_X8_181 sh_1 rfl <| s_geti 3 rfl fl_X8_185 sh_16 rfl <| s_bipush 6 4 rfl (by decide) <| ?_
  rcases iteS e with ⟨g_1, e⟩ | ⟨g_1, e⟩
  · obtain ⟨q_2, e_3, e⟩ := bndS e
    obtain ⟨h_4, eh_4, e⟩ := bndS e
    refine s_icmp_lt_T 5 22 rfl (by decide) g_1 <| s_aload_n 10 rfl rfl <| s_getr 11 rfl fl_X8_51 sh_0 rfl <| s_aload_n 12 rfl rfl <| s_getr 13 rfl fl_X8_23 sh_0 rfl <| s_aload_n 14 rfl rfl <| s_geti 15 rfl fl_X8_27 sh_0 rfl <| s_aload_n 16 rfl rfl <| s_getr 17 rfl fl_X8_44 sh_0 rfl <| s_getr 18 rfl fl_X8_175 sh_62 rfl <| s_callV (b := 64) (ci := 2) 19 [.ref 51, .int (h 0 4), .ref 63] [] rfl ml_X8_188 yw_X2_read sh_64 rfl rfl (okX2_read d _ _ _ q_2.1 q_2.2 e_3) rfl rfl (Nat.le_of_ble_eq_true rfl) <| s_pop 20 rfl rfl <| s_aload_n 21 rfl rfl <| s_geti 22 rfl fl_X8_27 sh_0 rfl <| s_istore_n [some (.ref 0), some (.int (q_2.2 0 4))] 23 rfl (by decide) rfl <| s_aload_n 24 rfl rfl <| s_iconst 0 25 rfl (by decide) <| s_puti 26 rfl fl_X8_27 sh_0 rfl <| s_nmH (Option.some.inj eh_4) <| s_aload_n 27 rfl rfl <| s_getr 28 rfl fl_X8_51 sh_0 rfl <| s_geti 29 rfl fl_X8_192 sh_64 rfl <| ?_
    rcases iteS e with ⟨g_5, e⟩ | ⟨g_5, e⟩
    · obtain ⟨q_6, e_7, e⟩ := bndS e
      obtain ⟨rfl, rfl⟩ := some2 e
      exact s_if_lt_T 30 75 rfl (by decide) g_5 <| s_aload_n 37 rfl rfl <| s_getr 38 rfl fl_X8_12 sh_0 rfl <| s_getr 39 rfl fl_X8_181 sh_1 rfl <| s_aload_n 40 rfl rfl <| s_getr 41 rfl fl_X8_23 sh_0 rfl <| s_iload_n 42 rfl rfl <| s_callV (b := 16) (ci := 6) 43 [.ref 51, .int (q_2.2 0 4)] [] rfl ml_X8_195 yw_X6_add sh_16 rfl rfl (okX6_add (d + 48) _ _ q_6.1 q_6.2 e_7) rfl rfl (Nat.le_of_ble_eq_true rfl) <| s_iret 44 rfl
    · obtain ⟨rfl, rfl⟩ := some2 e
      exact s_if_lt_F 30 75 rfl (by decide) g_5 <| s_iconst (-1) 31 rfl (by decide) <| s_aload_n 32 rfl rfl <| s_getr 33 rfl fl_X8_51 sh_0 rfl <| s_geti 34 rfl fl_X8_192 sh_64 rfl <| s_isub 35 rfl <| s_iret 36 rfl
  · obtain ⟨q_8, e_9, e⟩ := bndS e
    obtain ⟨rfl, rfl⟩ := some2 e
    exact s_icmp_lt_F 5 22 rfl (by decide) g_1 <| s_aload_n 6 rfl rfl <| s_ldc 7 rfl wc_X8_83 <| s_callV (b := 0) (ci := 8) 8 [.int (-1000002)] [] rfl ml_X8_70 yw_X8_tellFinding sh_0 rfl rfl (okX8_tellFinding (d + 48) _ _ q_8.1 q_8.2 e_9) rfl rfl (Nat.le_of_ble_eq_true rfl) <| s_iret 9 rfl
def fX9_isDigit (x0 : Int32) (h : Sto) : Option Bool :=
  (fX9_in x0.toInt64 48 57 h).bind fun q_1 => some q_1
set_option maxRecDepth 100000 in
set_option maxHeartbeats 4000000 in
theorem okX9_isDigit (d : Nat) (x0 : Int32) (h : Sto) (q : Bool) (e : fX9_isDigit x0 h = some q) : Ok yX9_isDigit cX9_isDigit 1 (some .boolean) (d + 1) [.int x0] h (some (.int (b2i q))) h := by
  refine Ok_of (lst := kX9_isDigit) (own := RX9) ⟨by decide, rfl⟩ ckX9_isDigit (b2i_01 _) (Nat.le_of_ble_eq_true rfl) ?_
  unfold fX9_isDigit at e
  change Ev kX9_isDigit RX9 1 (d + 1) nox 0 [some (.int x0)] [] h (some (.int (b2i q))) h
  obtain ⟨q_1, e_2, e⟩ := bndS e
  obtain rfl := Option.some.inj e
  exact s_iload_n 0 rfl rfl <| s_i2l 1 rfl <| s_ldc2_w 2 rfl wc_X9_165 <| s_ldc2_w 3 rfl wc_X9_167 <| s_callS 4 [.long x0.toInt64, .long 48, .long 57] [] rfl ml_X9_48 yw_X9_in (okX9_in d _ _ _ _ _ e_2) rfl rfl (Nat.le_of_ble_eq_true rfl) <| s_iret 5 rfl
def fX9_next__b8 (h : Sto) : Option (Sto ⊕ Sto) :=
  if (h 83 6) ≤ (h 83 9) then (some (.inr h)) else (grd (inb (h 83 9) 80) <| if ¬ (h 88 (Int32.toNatClampNeg (h 83 9))) = 32 then (some (.inr h)) else ((some (su h 83 9 ((h 83 9) + 1))).bind fun h_5 => some (.inl h_5)))
def fX9_next__b128 (h : Sto) : Option (Sto ⊕ Sto) :=
  if ¬ (h 83 11) = 48 then (some (.inr h)) else (if (h 83 6) ≤ (h 83 10) then (some (.inr h)) else (grd (inb (h 83 10) 80) <| (fX9_isDigit (h 88 (Int32.toNatClampNeg (h 83 10))) h).bind fun q_35 => if q_35 = true then ((if (h 83 12) ≤ 9999 then (grd (inb (h 83 10) 80) <| some (((10 * (h 83 12)) + (h 88 (Int32.toNatClampNeg (h 83 10)))) - 48)) else (some (h 83 12))).bind fun q_38 => (some (su h 83 12 q_38)).bind fun h_42 => (some (su h_42 83 10 ((h_42 83 10) + 1))).bind fun h_43 => some (.inl h_43)) else (some (.inr h))))
def fX9_next_ (h : Sto) : Option Sto :=
  (some (su h 83 9 (h 83 10))).bind fun h_1 => (lp (fun s => fX9_next__b8 s) FUEL h_1).bind fun v_14 => (some (su v_14 83 10 (v_14 83 9))).bind fun h_16 => (some (su h_16 83 12 0)).bind fun h_17 => (some (su h_17 83 11 (-1))).bind fun h_18 => if ¬ (h_18 83 9) = (h_18 83 6) then (grd (inb (h_18 83 9) 80) <| (fX9_isDigit (h_18 88 (Int32.toNatClampNeg (h_18 83 9))) h_18).bind fun q_21 => (if q_21 = true then (some 48) else (grd (inb (h_18 83 9) 80) <| some (h_18 88 (Int32.toNatClampNeg (h_18 83 9))))).bind fun q_23 => (some (su h_18 83 11 q_23)).bind fun h_27 => (if (h_27 83 11) = 48 then (some h_27) else ((some (su h_27 83 10 ((h_27 83 10) + 1))).bind fun h_31 => some h_31)).bind fun q_28 => (lp (fun s => fX9_next__b128 s) FUEL q_28).bind fun v_52 => some v_52) else (some h_18)
set_option maxRecDepth 100000 in
set_option maxHeartbeats 4000000 in
theorem okX9_next_ (d : Nat) (h : Sto) (q : Sto) (e : fX9_next_ h = some q) : Ok yX9_next_ cX9_next_ 1 none (d + 2) [.ref 83] h none q := by
  refine Ok_of (lst := kX9_next_) (own := RX9) ⟨by decide, rfl⟩ ckX9_next_ trivial (Nat.le_of_ble_eq_true rfl) ?_
  unfold fX9_next_ at e
  change Ev kX9_next_ RX9 1 (d + 2) nox 0 [some (.ref 83)] [] h none q
  obtain ⟨h_1, eh_1, e⟩ := bndS e
  obtain ⟨y_6, e_7, e⟩ := bndS e
  have kx_10 : ∀ v_14 : Sto, v_14 = y_6 → Ev kX9_next_ RX9 1 (d + 2) nox 46 [some (.ref 83)] [] v_14 none q := by
    intro v_14 hy
    subst hy
    obtain ⟨h_16, eh_16, e⟩ := bndS e
    obtain ⟨h_17, eh_17, e⟩ := bndS e
    obtain ⟨h_18, eh_18, e⟩ := bndS e
    refine s_aload_n 23 rfl rfl <| s_aload_n 24 rfl rfl <| s_geti 25 rfl fl_X9_172 sh_83 rfl <| s_puti 26 rfl fl_X9_169 sh_83 rfl <| s_nmH (Option.some.inj eh_16) <| s_aload_n 27 rfl rfl <| s_iconst 0 28 rfl (by decide) <| s_puti 29 rfl fl_X9_175 sh_83 rfl <| s_nmH (Option.some.inj eh_17) <| s_aload_n 30 rfl rfl <| s_iconst (-1) 31 rfl (by decide) <| s_puti 32 rfl fl_X9_178 sh_83 rfl <| s_nmH (Option.some.inj eh_18) <| s_aload_n 33 rfl rfl <| s_geti 34 rfl fl_X9_172 sh_83 rfl <| s_aload_n 35 rfl rfl <| s_geti 36 rfl fl_X9_161 sh_83 rfl <| ?_
    rcases iteS e with ⟨g_19, e⟩ | ⟨g_19, e⟩
    · obtain ⟨g_20, e⟩ := grdS e
      obtain ⟨q_21, e_22, e⟩ := bndS e
      obtain ⟨q_23, e1, e⟩ := bndS e
      have k_24 : Ev kX9_next_ RX9 1 (d + 2) nox 106 [some (.ref 83)] [.int q_23, .ref 83] h_18 none q := by
        obtain ⟨h_27, eh_27, e⟩ := bndS e
        obtain ⟨q_28, e1, e⟩ := bndS e
        have k_29 : Ev kX9_next_ RX9 1 (d + 2) nox 128 [some (.ref 83)] [] q_28 none q := by
          obtain ⟨y_44, e_45, e⟩ := bndS e
          have kx_48 : ∀ v_52 : Sto, v_52 = y_44 → Ev kX9_next_ RX9 1 (d + 2) nox 217 [none] [] v_52 none q := by
            intro v_52 hy
            subst hy
            obtain rfl := Option.some.inj e
            exact s_vret 109 rfl
          refine lpS (P := fun (s_51 : Sto) => Ev kX9_next_ RX9 1 (d + 2) nox 128 [some (.ref 83)] [] s_51 none q) ?_ FUEL _ e_45
          intro s_51 o_50 e hk_46 hx_47
          unfold fX9_next__b128 at e
          refine s_aload_n 65 rfl rfl <| s_geti 66 rfl fl_X9_178 sh_83 rfl <| s_bipush 48 67 rfl (by decide) <| ?_
          rcases iteS e with ⟨g_54, e⟩ | ⟨g_54, e⟩
          · cases e
            exact s_icmp_ne_T 68 217 rfl (by decide) g_54 <| s_fgt [true] rfl <| (kx_48 s_51 (hx_47 _ rfl))
          · refine s_icmp_ne_F 68 217 rfl (by decide) (Decidable.not_not.mp g_54) <| s_aload_n 69 rfl rfl <| s_geti 70 rfl fl_X9_169 sh_83 rfl <| s_aload_n 71 rfl rfl <| s_geti 72 rfl fl_X9_161 sh_83 rfl <| ?_
            rcases iteS e with ⟨g_55, e⟩ | ⟨g_55, e⟩
            · cases e
              exact s_icmp_ge_T 73 217 rfl (by decide) g_55 <| s_fgt [true] rfl <| (kx_48 s_51 (hx_47 _ rfl))
            · obtain ⟨g_56, e⟩ := grdS e
              obtain ⟨q_57, e_58, e⟩ := bndS e
              refine s_icmp_ge_F 73 217 rfl (by decide) g_55 <| s_aload_n 74 rfl rfl <| s_getr 75 rfl fl_X9_23 sh_83 rfl <| s_aload_n 76 rfl rfl <| s_geti 77 rfl fl_X9_169 sh_83 rfl <| s_iald (Int32.toNatClampNeg (s_51 83 10)) 78 rfl sh_88 g_56 rfl <| s_callS 79 [.int (s_51 88 (Int32.toNatClampNeg (s_51 83 10)))] [] rfl ml_X9_181 yw_X9_isDigit (okX9_isDigit d _ _ _ e_58) rfl rfl (Nat.le_of_ble_eq_true rfl) <| ?_
              rcases iteS e with ⟨g_59, e⟩ | ⟨g_59, e⟩
              · obtain ⟨q_60, e1, e⟩ := bndS e
                have k_61 : Ev kX9_next_ RX9 1 (d + 2) nox 201 [some (.ref 83)] [.int q_60, .ref 83] s_51 none q := by
                  obtain ⟨h_64, eh_64, e⟩ := bndS e
                  obtain ⟨h_65, eh_65, e⟩ := bndS e
                  cases e
                  exact s_puti 101 rfl fl_X9_175 sh_83 rfl <| s_nmH (Option.some.inj eh_64) <| s_aload_n 102 rfl rfl <| s_dup 103 rfl rfl <| s_geti 104 rfl fl_X9_169 sh_83 rfl <| s_iconst 1 105 rfl (by decide) <| s_iadd 106 rfl <| s_puti 107 rfl fl_X9_169 sh_83 rfl <| s_nmH (Option.some.inj eh_65) <| s_goto 108 128 rfl (by decide) <| (hk_46 h_65 rfl)
                clear e
                have e := e1
                clear e1
                refine s_if_eq_F 80 217 rfl (by decide) (b2i_T g_59) <| s_aload_n 81 rfl rfl <| s_aload_n 82 rfl rfl <| s_geti 83 rfl fl_X9_175 sh_83 rfl <| s_sipush 9999 84 rfl (by decide) <| ?_
                rcases iteS e with ⟨g_62, e⟩ | ⟨g_62, e⟩
                · obtain ⟨g_63, e⟩ := grdS e
                  cases e
                  exact s_icmp_le_T 85 181 rfl (by decide) g_62 <| s_bipush 10 89 rfl (by decide) <| s_aload_n 90 rfl rfl <| s_geti 91 rfl fl_X9_175 sh_83 rfl <| s_imul 92 rfl <| s_aload_n 93 rfl rfl <| s_getr 94 rfl fl_X9_23 sh_83 rfl <| s_aload_n 95 rfl rfl <| s_geti 96 rfl fl_X9_169 sh_83 rfl <| s_iald (Int32.toNatClampNeg (s_51 83 10)) 97 rfl sh_88 g_63 rfl <| s_iadd 98 rfl <| s_bipush 48 99 rfl (by decide) <| s_isub 100 rfl <| k_61
                · cases e
                  exact s_icmp_le_F 85 181 rfl (by decide) g_62 <| s_aload_n 86 rfl rfl <| s_geti 87 rfl fl_X9_175 sh_83 rfl <| s_goto 88 201 rfl (by decide) <| k_61
              · cases e
                exact s_if_eq_T 80 217 rfl (by decide) (b2i_F g_59) <| s_fgt [true] rfl <| (kx_48 s_51 (hx_47 _ rfl))
        clear e
        have e := e1
        clear e1
        refine s_puti 54 rfl fl_X9_178 sh_83 rfl <| s_nmH (Option.some.inj eh_27) <| s_aload_n 55 rfl rfl <| s_geti 56 rfl fl_X9_178 sh_83 rfl <| s_bipush 48 57 rfl (by decide) <| ?_
        rcases iteS e with ⟨g_30, e⟩ | ⟨g_30, e⟩
        · cases e
          exact s_icmp_eq_T 58 128 rfl (by decide) g_30 <| k_29
        · obtain ⟨h_31, eh_31, e⟩ := bndS e
          cases e
          exact s_icmp_eq_F 58 128 rfl (by decide) g_30 <| s_aload_n 59 rfl rfl <| s_dup 60 rfl rfl <| s_geti 61 rfl fl_X9_169 sh_83 rfl <| s_iconst 1 62 rfl (by decide) <| s_iadd 63 rfl <| s_puti 64 rfl fl_X9_169 sh_83 rfl <| s_nmH (Option.some.inj eh_31) <| k_29
      clear e
      have e := e1
      clear e1
      refine s_icmp_ne_T 37 76 rfl (by decide) g_19 <| s_aload_n 39 rfl rfl <| s_aload_n 40 rfl rfl <| s_getr 41 rfl fl_X9_23 sh_83 rfl <| s_aload_n 42 rfl rfl <| s_geti 43 rfl fl_X9_172 sh_83 rfl <| s_iald (Int32.toNatClampNeg (h_18 83 9)) 44 rfl sh_88 g_20 rfl <| s_callS 45 [.int (h_18 88 (Int32.toNatClampNeg (h_18 83 9)))] [.ref 83] rfl ml_X9_181 yw_X9_isDigit (okX9_isDigit d _ _ _ e_22) rfl rfl (Nat.le_of_ble_eq_true rfl) <| ?_
      rcases iteS e with ⟨g_25, e⟩ | ⟨g_25, e⟩
      · cases e
        exact s_if_eq_F 46 97 rfl (by decide) (b2i_T g_25) <| s_bipush 48 47 rfl (by decide) <| s_goto 48 106 rfl (by decide) <| k_24
      · obtain ⟨g_26, e⟩ := grdS e
        cases e
        exact s_if_eq_T 46 97 rfl (by decide) (b2i_F g_25) <| s_aload_n 49 rfl rfl <| s_getr 50 rfl fl_X9_23 sh_83 rfl <| s_aload_n 51 rfl rfl <| s_geti 52 rfl fl_X9_172 sh_83 rfl <| s_iald (Int32.toNatClampNeg (h_18 83 9)) 53 rfl sh_88 g_26 rfl <| k_24
    · obtain rfl := Option.some.inj e
      exact s_icmp_ne_F 37 76 rfl (by decide) (Decidable.not_not.mp g_19) <| s_vret 38 rfl
  refine s_aload_n 0 rfl rfl <| s_aload_n 1 rfl rfl <| s_geti 2 rfl fl_X9_169 sh_83 rfl <| s_puti 3 rfl fl_X9_172 sh_83 rfl <| s_nmH (Option.some.inj eh_1) <| lpS (P := fun (s_13 : Sto) => Ev kX9_next_ RX9 1 (d + 2) nox 8 [some (.ref 83)] [] s_13 none q) ?_ FUEL _ e_7
  intro s_13 o_12 e hk_8 hx_9
  unfold fX9_next__b8 at e
  refine s_aload_n 4 rfl rfl <| s_geti 5 rfl fl_X9_172 sh_83 rfl <| s_aload_n 6 rfl rfl <| s_geti 7 rfl fl_X9_161 sh_83 rfl <| ?_
  rcases iteS e with ⟨g_66, e⟩ | ⟨g_66, e⟩
  · cases e
    exact s_icmp_ge_T 8 46 rfl (by decide) g_66 <| (kx_10 s_13 (hx_9 _ rfl))
  · obtain ⟨g_67, e⟩ := grdS e
    refine s_icmp_ge_F 8 46 rfl (by decide) g_66 <| s_aload_n 9 rfl rfl <| s_getr 10 rfl fl_X9_23 sh_83 rfl <| s_aload_n 11 rfl rfl <| s_geti 12 rfl fl_X9_172 sh_83 rfl <| s_iald (Int32.toNatClampNeg (s_13 83 9)) 13 rfl sh_88 g_67 rfl <| s_bipush 32 14 rfl (by decide) <| ?_
    rcases iteS e with ⟨g_68, e⟩ | ⟨g_68, e⟩
    · cases e
      exact s_icmp_ne_T 15 46 rfl (by decide) g_68 <| (kx_10 s_13 (hx_9 _ rfl))
    · obtain ⟨h_69, eh_69, e⟩ := bndS e
      cases e
      exact s_icmp_ne_F 15 46 rfl (by decide) (Decidable.not_not.mp g_68) <| s_aload_n 16 rfl rfl <| s_dup 17 rfl rfl <| s_geti 18 rfl fl_X9_172 sh_83 rfl <| s_iconst 1 19 rfl (by decide) <| s_iadd 20 rfl <| s_puti 21 rfl fl_X9_172 sh_83 rfl <| s_nmH (Option.some.inj eh_69) <| s_goto 22 8 rfl (by decide) <| (hk_8 h_69 rfl)
def fX9_isSign (x1 : Int32) (h : Sto) : Option Bool :=
  if ¬ (h 83 14) = 0 then (some false) else (if ¬ (h 83 11) = x1 then (some false) else (if x1 = 48 then (some false) else (some true)))
set_option maxRecDepth 100000 in
set_option maxHeartbeats 4000000 in
theorem okX9_isSign (d : Nat) (x1 : Int32) (h : Sto) (q : Bool) (e : fX9_isSign x1 h = some q) : Ok yX9_isSign cX9_isSign 2 (some .boolean) d [.ref 83, .int x1] h (some (.int (b2i q))) h := by
  refine Ok_of (lst := kX9_isSign) (own := RX9) ⟨by decide, rfl⟩ ckX9_isSign (b2i_01 _) (Nat.le_of_ble_eq_true rfl) ?_
  unfold fX9_isSign at e
  change Ev kX9_isSign RX9 2 d nox 0 [some (.ref 83), some (.int x1)] [] h (some (.int (b2i q))) h
  refine s_aload_n 0 rfl rfl <| s_geti 1 rfl fl_X9_184 sh_83 rfl <| ?_
  rcases iteS e with ⟨g_1, e⟩ | ⟨g_1, e⟩
  · obtain rfl := Option.some.inj e
    exact s_if_ne_T 2 25 rfl (by decide) g_1 <| s_iconst 0 12 rfl (by decide) <| s_iret 13 rfl
  · refine s_if_ne_F 2 25 rfl (by decide) (Decidable.not_not.mp g_1) <| s_aload_n 3 rfl rfl <| s_geti 4 rfl fl_X9_178 sh_83 rfl <| s_iload_n 5 rfl rfl <| ?_
    rcases iteS e with ⟨g_2, e⟩ | ⟨g_2, e⟩
    · obtain rfl := Option.some.inj e
      exact s_icmp_ne_T 6 25 rfl (by decide) g_2 <| s_iconst 0 12 rfl (by decide) <| s_iret 13 rfl
    · refine s_icmp_ne_F 6 25 rfl (by decide) (Decidable.not_not.mp g_2) <| s_iload_n 7 rfl rfl <| s_bipush 48 8 rfl (by decide) <| ?_
      rcases iteS e with ⟨g_3, e⟩ | ⟨g_3, e⟩
      · obtain rfl := Option.some.inj e
        exact s_icmp_eq_T 9 25 rfl (by decide) g_3 <| s_iconst 0 12 rfl (by decide) <| s_iret 13 rfl
      · obtain rfl := Option.some.inj e
        exact s_icmp_eq_F 9 25 rfl (by decide) g_3 <| s_iconst 1 10 rfl (by decide) <| s_goto 11 26 rfl (by decide) <| s_iret 13 rfl
def fX9_puts (x1 : Int32) (h : Sto) : Option Sto :=
  if (h 83 14) = 0 then (grd (inb (h 83 8) 80) <| (some (su h 89 (Int32.toNatClampNeg (h 83 8)) x1)).bind fun h_3 => (some (su h_3 83 8 ((h_3 83 8) + 1))).bind fun h_4 => some h_4) else (some h)
set_option maxRecDepth 100000 in
set_option maxHeartbeats 4000000 in
theorem okX9_puts (d : Nat) (x1 : Int32) (h : Sto) (q : Sto) (e : fX9_puts x1 h = some q) : Ok yX9_puts cX9_puts 2 none d [.ref 83, .int x1] h none q := by
  refine Ok_of (lst := kX9_puts) (own := RX9) ⟨by decide, rfl⟩ ckX9_puts trivial (Nat.le_of_ble_eq_true rfl) ?_
  unfold fX9_puts at e
  change Ev kX9_puts RX9 2 d nox 0 [some (.ref 83), some (.int x1)] [] h none q
  refine s_aload_n 0 rfl rfl <| s_geti 1 rfl fl_X9_184 sh_83 rfl <| ?_
  rcases iteS e with ⟨g_1, e⟩ | ⟨g_1, e⟩
  · obtain ⟨g_2, e⟩ := grdS e
    obtain ⟨h_3, eh_3, e⟩ := bndS e
    obtain ⟨h_4, eh_4, e⟩ := bndS e
    obtain rfl := Option.some.inj e
    exact s_if_eq_T 2 8 rfl (by decide) g_1 <| s_aload_n 4 rfl rfl <| s_getr 5 rfl fl_X9_26 sh_83 rfl <| s_aload_n 6 rfl rfl <| s_geti 7 rfl fl_X9_188 sh_83 rfl <| s_iload_n 8 rfl rfl <| s_iast (Int32.toNatClampNeg (h 83 8)) 9 rfl sh_89 g_2 rfl <| s_nmH (Option.some.inj eh_3) <| s_aload_n 10 rfl rfl <| s_dup 11 rfl rfl <| s_geti 12 rfl fl_X9_188 sh_83 rfl <| s_iconst 1 13 rfl (by decide) <| s_iadd 14 rfl <| s_puti 15 rfl fl_X9_188 sh_83 rfl <| s_nmH (Option.some.inj eh_4) <| s_vret 16 rfl
  · obtain rfl := Option.some.inj e
    exact s_if_eq_F 2 8 rfl (by decide) g_1 <| s_vret 3 rfl
def fX9_term_b4 (rO : Sto → Option Sto) (h : Sto) : Option (Sto ⊕ Sto) :=
  (fX9_isSign 42 h).bind fun q_3 => if q_3 = true then ((fX9_next_ h).bind fun q_6 => (rO q_6).bind fun q_8 => (fX9_puts (20000 + (h 83 11)) q_8).bind fun q_10 => some (.inl q_10)) else ((fX9_isSign 47 h).bind fun q_12 => if q_12 = true then ((fX9_next_ h).bind fun q_15 => (rO q_15).bind fun q_17 => (fX9_puts (20000 + (h 83 11)) q_17).bind fun q_19 => some (.inl q_19)) else (some (.inr h)))
def fX9_term (rO : Sto → Option Sto) (h : Sto) : Option Sto :=
  (rO h).bind fun q_1 => (lp (fun s => fX9_term_b4 rO s) FUEL q_1).bind fun v_29 => some v_29
set_option maxRecDepth 100000 in
set_option maxHeartbeats 4000000 in
theorem okX9_term (d : Nat) (rO : Sto → Option Sto) (hO : ∀ (k : Nat) (h q : Sto), rO h = some q → Ok yX9_one cX9_one 2 none (d + k + 2) [.ref 83] h none q) (h : Sto) (q : Sto) (e : fX9_term rO h = some q) : Ok yX9_term cX9_term 2 none (d + 3) [.ref 83] h none q := by
  refine Ok_of (lst := kX9_term) (own := RX9) ⟨by decide, rfl⟩ ckX9_term trivial (Nat.le_of_ble_eq_true rfl) ?_
  unfold fX9_term at e
  change Ev kX9_term RX9 2 (d + 3) nox 0 [some (.ref 83), none] [] h none q
  obtain ⟨q_1, e_2, e⟩ := bndS e
  obtain ⟨y_21, e_22, e⟩ := bndS e
  have kx_25 : ∀ v_29 : Sto, v_29 = y_21 → Ev kX9_term RX9 2 (d + 3) nox 47 [none, none] [] v_29 none q := by
    intro v_29 hy
    subst hy
    obtain rfl := Option.some.inj e
    exact s_vret 23 rfl
  refine s_aload_n 0 rfl rfl <| s_callV (b := 83) (ci := 9) 1 [] [] rfl ml_X9_207 yw_X9_one sh_83 rfl rfl (hO 0 _ _ e_2) rfl rfl (Nat.le_of_ble_eq_true rfl) <| lpS (P := fun (s_28 : Sto) => Ev kX9_term RX9 2 (d + 3) nox 4 [some (.ref 83), none] [] s_28 none q) ?_ FUEL _ e_22
  intro s_28 o_27 e hk_23 hx_24
  unfold fX9_term_b4 at e
  obtain ⟨q_31, e_32, e⟩ := bndS e
  refine s_aload_n 2 rfl rfl <| s_bipush 42 3 rfl (by decide) <| s_callV (b := 83) (ci := 9) 4 [.int 42] [] rfl ml_X9_194 yw_X9_isSign sh_83 rfl rfl (okX9_isSign (d + 2) _ _ _ e_32) rfl rfl (Nat.le_of_ble_eq_true rfl) <| ?_
  rcases iteS e with ⟨g_33, e⟩ | ⟨g_33, e⟩
  · obtain ⟨q_34, e_35, e⟩ := bndS e
    obtain ⟨q_36, e_37, e⟩ := bndS e
    obtain ⟨q_38, e_39, e⟩ := bndS e
    cases e
    exact s_if_ne_T 5 22 rfl (by decide) (b2i_T g_33) <| s_aload_n 10 rfl rfl <| s_geti 11 rfl fl_X9_178 sh_83 rfl <| s_istore_n [some (.ref 83), some (.int (s_28 83 11))] 12 rfl (by decide) rfl <| s_aload_n 13 rfl rfl <| s_callV (b := 83) (ci := 9) 14 [] [] rfl ml_X9_197 yw_X9_next_ sh_83 rfl rfl (okX9_next_ d _ _ e_35) rfl rfl (Nat.le_of_ble_eq_true rfl) <| s_aload_n 15 rfl rfl <| s_callV (b := 83) (ci := 9) 16 [] [] rfl ml_X9_207 yw_X9_one sh_83 rfl rfl (hO 0 _ _ e_37) rfl rfl (Nat.le_of_ble_eq_true rfl) <| s_aload_n 17 rfl rfl <| s_sipush 20000 18 rfl (by decide) <| s_iload_n 19 rfl rfl <| s_iadd 20 rfl <| s_callV (b := 83) (ci := 9) 21 [.int (20000 + (s_28 83 11))] [] rfl ml_X9_200 yw_X9_puts sh_83 rfl rfl (okX9_puts (d + 2) _ _ _ e_39) rfl rfl (Nat.le_of_ble_eq_true rfl) <| s_goto 22 4 rfl (by decide) <| s_fgt [false, true] rfl <| (hk_23 q_38 rfl)
  · obtain ⟨q_40, e_41, e⟩ := bndS e
    refine s_if_ne_F 5 22 rfl (by decide) (b2i_F g_33) <| s_aload_n 6 rfl rfl <| s_bipush 47 7 rfl (by decide) <| s_callV (b := 83) (ci := 9) 8 [.int 47] [] rfl ml_X9_194 yw_X9_isSign sh_83 rfl rfl (okX9_isSign (d + 2) _ _ _ e_41) rfl rfl (Nat.le_of_ble_eq_true rfl) <| ?_
    rcases iteS e with ⟨g_42, e⟩ | ⟨g_42, e⟩
    · obtain ⟨q_43, e_44, e⟩ := bndS e
      obtain ⟨q_45, e_46, e⟩ := bndS e
      obtain ⟨q_47, e_48, e⟩ := bndS e
      cases e
      exact s_if_eq_F 9 47 rfl (by decide) (b2i_T g_42) <| s_aload_n 10 rfl rfl <| s_geti 11 rfl fl_X9_178 sh_83 rfl <| s_istore_n [some (.ref 83), some (.int (s_28 83 11))] 12 rfl (by decide) rfl <| s_aload_n 13 rfl rfl <| s_callV (b := 83) (ci := 9) 14 [] [] rfl ml_X9_197 yw_X9_next_ sh_83 rfl rfl (okX9_next_ d _ _ e_44) rfl rfl (Nat.le_of_ble_eq_true rfl) <| s_aload_n 15 rfl rfl <| s_callV (b := 83) (ci := 9) 16 [] [] rfl ml_X9_207 yw_X9_one sh_83 rfl rfl (hO 0 _ _ e_46) rfl rfl (Nat.le_of_ble_eq_true rfl) <| s_aload_n 17 rfl rfl <| s_sipush 20000 18 rfl (by decide) <| s_iload_n 19 rfl rfl <| s_iadd 20 rfl <| s_callV (b := 83) (ci := 9) 21 [.int (20000 + (s_28 83 11))] [] rfl ml_X9_200 yw_X9_puts sh_83 rfl rfl (okX9_puts (d + 2) _ _ _ e_48) rfl rfl (Nat.le_of_ble_eq_true rfl) <| s_goto 22 4 rfl (by decide) <| s_fgt [false, true] rfl <| (hk_23 q_47 rfl)
    · cases e
      exact s_if_eq_T 9 47 rfl (by decide) (b2i_F g_42) <| s_fgt [true] rfl <| (kx_25 s_28 (hx_24 _ rfl))
def fX9_sum_b4 (rO : Sto → Option Sto) (h : Sto) : Option (Sto ⊕ Sto) :=
  (fX9_isSign 43 h).bind fun q_3 => if q_3 = true then ((fX9_next_ h).bind fun q_6 => (fX9_term rO q_6).bind fun q_8 => (fX9_puts (20000 + (h 83 11)) q_8).bind fun q_10 => some (.inl q_10)) else ((fX9_isSign 45 h).bind fun q_12 => if q_12 = true then ((fX9_next_ h).bind fun q_15 => (fX9_term rO q_15).bind fun q_17 => (fX9_puts (20000 + (h 83 11)) q_17).bind fun q_19 => some (.inl q_19)) else (some (.inr h)))
def fX9_sum (rO : Sto → Option Sto) (h : Sto) : Option Sto :=
  (fX9_term rO h).bind fun q_1 => (lp (fun s => fX9_sum_b4 rO s) FUEL q_1).bind fun v_29 => some v_29
set_option maxRecDepth 100000 in
set_option maxHeartbeats 4000000 in
theorem okX9_sum (d : Nat) (rO : Sto → Option Sto) (hO : ∀ (k : Nat) (h q : Sto), rO h = some q → Ok yX9_one cX9_one 2 none (d + k + 2) [.ref 83] h none q) (h : Sto) (q : Sto) (e : fX9_sum rO h = some q) : Ok yX9_sum cX9_sum 2 none (d + 4) [.ref 83] h none q := by
  refine Ok_of (lst := kX9_sum) (own := RX9) ⟨by decide, rfl⟩ ckX9_sum trivial (Nat.le_of_ble_eq_true rfl) ?_
  unfold fX9_sum at e
  change Ev kX9_sum RX9 2 (d + 4) nox 0 [some (.ref 83), none] [] h none q
  obtain ⟨q_1, e_2, e⟩ := bndS e
  obtain ⟨y_21, e_22, e⟩ := bndS e
  have kx_25 : ∀ v_29 : Sto, v_29 = y_21 → Ev kX9_sum RX9 2 (d + 4) nox 47 [none, none] [] v_29 none q := by
    intro v_29 hy
    subst hy
    obtain rfl := Option.some.inj e
    exact s_vret 23 rfl
  refine s_aload_n 0 rfl rfl <| s_callV (b := 83) (ci := 9) 1 [] [] rfl ml_X9_204 yw_X9_term sh_83 rfl rfl (okX9_term d rO hO _ _ e_2) rfl rfl (Nat.le_of_ble_eq_true rfl) <| lpS (P := fun (s_28 : Sto) => Ev kX9_sum RX9 2 (d + 4) nox 4 [some (.ref 83), none] [] s_28 none q) ?_ FUEL _ e_22
  intro s_28 o_27 e hk_23 hx_24
  unfold fX9_sum_b4 at e
  obtain ⟨q_31, e_32, e⟩ := bndS e
  refine s_aload_n 2 rfl rfl <| s_bipush 43 3 rfl (by decide) <| s_callV (b := 83) (ci := 9) 4 [.int 43] [] rfl ml_X9_194 yw_X9_isSign sh_83 rfl rfl (okX9_isSign (d + 3) _ _ _ e_32) rfl rfl (Nat.le_of_ble_eq_true rfl) <| ?_
  rcases iteS e with ⟨g_33, e⟩ | ⟨g_33, e⟩
  · obtain ⟨q_34, e_35, e⟩ := bndS e
    obtain ⟨q_36, e_37, e⟩ := bndS e
    obtain ⟨q_38, e_39, e⟩ := bndS e
    cases e
    exact s_if_ne_T 5 22 rfl (by decide) (b2i_T g_33) <| s_aload_n 10 rfl rfl <| s_geti 11 rfl fl_X9_178 sh_83 rfl <| s_istore_n [some (.ref 83), some (.int (s_28 83 11))] 12 rfl (by decide) rfl <| s_aload_n 13 rfl rfl <| s_callV (b := 83) (ci := 9) 14 [] [] rfl ml_X9_197 yw_X9_next_ sh_83 rfl rfl (okX9_next_ (d + 1) _ _ e_35) rfl rfl (Nat.le_of_ble_eq_true rfl) <| s_aload_n 15 rfl rfl <| s_callV (b := 83) (ci := 9) 16 [] [] rfl ml_X9_204 yw_X9_term sh_83 rfl rfl (okX9_term d rO hO _ _ e_37) rfl rfl (Nat.le_of_ble_eq_true rfl) <| s_aload_n 17 rfl rfl <| s_sipush 20000 18 rfl (by decide) <| s_iload_n 19 rfl rfl <| s_iadd 20 rfl <| s_callV (b := 83) (ci := 9) 21 [.int (20000 + (s_28 83 11))] [] rfl ml_X9_200 yw_X9_puts sh_83 rfl rfl (okX9_puts (d + 3) _ _ _ e_39) rfl rfl (Nat.le_of_ble_eq_true rfl) <| s_goto 22 4 rfl (by decide) <| s_fgt [false, true] rfl <| (hk_23 q_38 rfl)
  · obtain ⟨q_40, e_41, e⟩ := bndS e
    refine s_if_ne_F 5 22 rfl (by decide) (b2i_F g_33) <| s_aload_n 6 rfl rfl <| s_bipush 45 7 rfl (by decide) <| s_callV (b := 83) (ci := 9) 8 [.int 45] [] rfl ml_X9_194 yw_X9_isSign sh_83 rfl rfl (okX9_isSign (d + 3) _ _ _ e_41) rfl rfl (Nat.le_of_ble_eq_true rfl) <| ?_
    rcases iteS e with ⟨g_42, e⟩ | ⟨g_42, e⟩
    · obtain ⟨q_43, e_44, e⟩ := bndS e
      obtain ⟨q_45, e_46, e⟩ := bndS e
      obtain ⟨q_47, e_48, e⟩ := bndS e
      cases e
      exact s_if_eq_F 9 47 rfl (by decide) (b2i_T g_42) <| s_aload_n 10 rfl rfl <| s_geti 11 rfl fl_X9_178 sh_83 rfl <| s_istore_n [some (.ref 83), some (.int (s_28 83 11))] 12 rfl (by decide) rfl <| s_aload_n 13 rfl rfl <| s_callV (b := 83) (ci := 9) 14 [] [] rfl ml_X9_197 yw_X9_next_ sh_83 rfl rfl (okX9_next_ (d + 1) _ _ e_44) rfl rfl (Nat.le_of_ble_eq_true rfl) <| s_aload_n 15 rfl rfl <| s_callV (b := 83) (ci := 9) 16 [] [] rfl ml_X9_204 yw_X9_term sh_83 rfl rfl (okX9_term d rO hO _ _ e_46) rfl rfl (Nat.le_of_ble_eq_true rfl) <| s_aload_n 17 rfl rfl <| s_sipush 20000 18 rfl (by decide) <| s_iload_n 19 rfl rfl <| s_iadd 20 rfl <| s_callV (b := 83) (ci := 9) 21 [.int (20000 + (s_28 83 11))] [] rfl ml_X9_200 yw_X9_puts sh_83 rfl rfl (okX9_puts (d + 3) _ _ _ e_48) rfl rfl (Nat.le_of_ble_eq_true rfl) <| s_goto 22 4 rfl (by decide) <| s_fgt [false, true] rfl <| (hk_23 q_47 rfl)
    · cases e
      exact s_if_eq_T 9 47 rfl (by decide) (b2i_F g_42) <| s_fgt [true] rfl <| (kx_25 s_28 (hx_24 _ rfl))
def fX9_whole (rO : Sto → Option Sto) (h : Sto) : Option Sto :=
  (fX9_sum rO h).bind fun q_1 => (fX9_isSign 60 q_1).bind fun q_3 => if q_3 = true then ((fX9_next_ q_1).bind fun q_6 => (fX9_sum rO q_6).bind fun q_8 => (fX9_puts (20000 + (q_1 83 11)) q_8).bind fun q_10 => some q_10) else ((fX9_isSign 61 q_1).bind fun q_12 => if q_12 = true then ((fX9_next_ q_1).bind fun q_15 => (fX9_sum rO q_15).bind fun q_17 => (fX9_puts (20000 + (q_1 83 11)) q_17).bind fun q_19 => some q_19) else (some q_1))
set_option maxRecDepth 100000 in
set_option maxHeartbeats 4000000 in
theorem okX9_whole (d : Nat) (rO : Sto → Option Sto) (hO : ∀ (k : Nat) (h q : Sto), rO h = some q → Ok yX9_one cX9_one 2 none (d + k + 2) [.ref 83] h none q) (h : Sto) (q : Sto) (e : fX9_whole rO h = some q) : Ok yX9_whole cX9_whole 2 none (d + 5) [.ref 83] h none q := by
  refine Ok_of (lst := kX9_whole) (own := RX9) ⟨by decide, rfl⟩ ckX9_whole trivial (Nat.le_of_ble_eq_true rfl) ?_
  unfold fX9_whole at e
  change Ev kX9_whole RX9 2 (d + 5) nox 0 [some (.ref 83), none] [] h none q
  obtain ⟨q_1, e_2, e⟩ := bndS e
  obtain ⟨q_3, e_4, e⟩ := bndS e
  refine s_aload_n 0 rfl rfl <| s_callV (b := 83) (ci := 9) 1 [] [] rfl ml_X9_191 yw_X9_sum sh_83 rfl rfl (okX9_sum d rO hO _ _ e_2) rfl rfl (Nat.le_of_ble_eq_true rfl) <| s_aload_n 2 rfl rfl <| s_bipush 60 3 rfl (by decide) <| s_callV (b := 83) (ci := 9) 4 [.int 60] [] rfl ml_X9_194 yw_X9_isSign sh_83 rfl rfl (okX9_isSign (d + 4) _ _ _ e_4) rfl rfl (Nat.le_of_ble_eq_true rfl) <| ?_
  rcases iteS e with ⟨g_5, e⟩ | ⟨g_5, e⟩
  · obtain ⟨q_6, e_7, e⟩ := bndS e
    obtain ⟨q_8, e_9, e⟩ := bndS e
    obtain ⟨q_10, e_11, e⟩ := bndS e
    obtain rfl := Option.some.inj e
    exact s_if_ne_T 5 22 rfl (by decide) (b2i_T g_5) <| s_aload_n 10 rfl rfl <| s_geti 11 rfl fl_X9_178 sh_83 rfl <| s_istore_n [some (.ref 83), some (.int (q_1 83 11))] 12 rfl (by decide) rfl <| s_aload_n 13 rfl rfl <| s_callV (b := 83) (ci := 9) 14 [] [] rfl ml_X9_197 yw_X9_next_ sh_83 rfl rfl (okX9_next_ (d + 2) _ _ e_7) rfl rfl (Nat.le_of_ble_eq_true rfl) <| s_aload_n 15 rfl rfl <| s_callV (b := 83) (ci := 9) 16 [] [] rfl ml_X9_191 yw_X9_sum sh_83 rfl rfl (okX9_sum d rO hO _ _ e_9) rfl rfl (Nat.le_of_ble_eq_true rfl) <| s_aload_n 17 rfl rfl <| s_sipush 20000 18 rfl (by decide) <| s_iload_n 19 rfl rfl <| s_iadd 20 rfl <| s_callV (b := 83) (ci := 9) 21 [.int (20000 + (q_1 83 11))] [] rfl ml_X9_200 yw_X9_puts sh_83 rfl rfl (okX9_puts (d + 4) _ _ _ e_11) rfl rfl (Nat.le_of_ble_eq_true rfl) <| s_vret 22 rfl
  · obtain ⟨q_12, e_13, e⟩ := bndS e
    refine s_if_ne_F 5 22 rfl (by decide) (b2i_F g_5) <| s_aload_n 6 rfl rfl <| s_bipush 61 7 rfl (by decide) <| s_callV (b := 83) (ci := 9) 8 [.int 61] [] rfl ml_X9_194 yw_X9_isSign sh_83 rfl rfl (okX9_isSign (d + 4) _ _ _ e_13) rfl rfl (Nat.le_of_ble_eq_true rfl) <| ?_
    rcases iteS e with ⟨g_14, e⟩ | ⟨g_14, e⟩
    · obtain ⟨q_15, e_16, e⟩ := bndS e
      obtain ⟨q_17, e_18, e⟩ := bndS e
      obtain ⟨q_19, e_20, e⟩ := bndS e
      obtain rfl := Option.some.inj e
      exact s_if_eq_F 9 44 rfl (by decide) (b2i_T g_14) <| s_aload_n 10 rfl rfl <| s_geti 11 rfl fl_X9_178 sh_83 rfl <| s_istore_n [some (.ref 83), some (.int (q_1 83 11))] 12 rfl (by decide) rfl <| s_aload_n 13 rfl rfl <| s_callV (b := 83) (ci := 9) 14 [] [] rfl ml_X9_197 yw_X9_next_ sh_83 rfl rfl (okX9_next_ (d + 2) _ _ e_16) rfl rfl (Nat.le_of_ble_eq_true rfl) <| s_aload_n 15 rfl rfl <| s_callV (b := 83) (ci := 9) 16 [] [] rfl ml_X9_191 yw_X9_sum sh_83 rfl rfl (okX9_sum d rO hO _ _ e_18) rfl rfl (Nat.le_of_ble_eq_true rfl) <| s_aload_n 17 rfl rfl <| s_sipush 20000 18 rfl (by decide) <| s_iload_n 19 rfl rfl <| s_iadd 20 rfl <| s_callV (b := 83) (ci := 9) 21 [.int (20000 + (q_1 83 11))] [] rfl ml_X9_200 yw_X9_puts sh_83 rfl rfl (okX9_puts (d + 4) _ _ _ e_20) rfl rfl (Nat.le_of_ble_eq_true rfl) <| s_vret 22 rfl
    · obtain rfl := Option.some.inj e
      exact s_if_eq_T 9 44 rfl (by decide) (b2i_F g_14) <| s_vret 22 rfl
def fX9_letterOf (x0 : Int32) (h : Sto) : Option Int32 :=
  if x0 < 102 ∨ 119 < x0 then (some (-1)) else if x0 = 102 then (some 4) else if x0 = 103 then (some 1) else if x0 = 104 then (some 3) else if x0 = 105 then (some (-1)) else if x0 = 106 then (some (-1)) else if x0 = 107 then (some (-1)) else if x0 = 108 then (some 2) else if x0 = 109 then (some (-1)) else if x0 = 110 then (some 7) else if x0 = 111 then (some (-1)) else if x0 = 112 then (some (-1)) else if x0 = 113 then (some 5) else if x0 = 114 then (some (-1)) else if x0 = 115 then (some (-1)) else if x0 = 116 then (some 6) else if x0 = 117 then (some (-1)) else if x0 = 118 then (some (-1)) else if x0 = 119 then (some 0) else none
set_option maxRecDepth 100000 in
set_option maxHeartbeats 4000000 in
theorem okX9_letterOf (d : Nat) (x0 : Int32) (h : Sto) (q : Int32) (e : fX9_letterOf x0 h = some q) : Ok yX9_letterOf cX9_letterOf 1 (some .int) d [.int x0] h (some (.int q)) h := by
  refine Ok_of (lst := kX9_letterOf) (own := RX9) ⟨by decide, rfl⟩ ckX9_letterOf trivial (Nat.le_of_ble_eq_true rfl) ?_
  unfold fX9_letterOf at e
  change Ev kX9_letterOf RX9 1 d nox 0 [some (.int x0)] [] h (some (.int q)) h
  refine s_iload_n 0 rfl rfl <| ?_
  rcases iteS e with ⟨g_1, e⟩ | ⟨g_1, e⟩
  · obtain rfl := Option.some.inj e
    exact s_swOut 102 119 1 106 rfl g_1 (by decide) <| s_iconst (-1) 18 rfl (by decide) <| s_iret 19 rfl
  rcases iteS e with ⟨g_2, e⟩ | ⟨g_2, e⟩
  · obtain rfl := Option.some.inj e
    exact s_swIn (off := 95) 102 1 96 rfl g_2 (by decide) <| s_iconst 4 10 rfl (by decide) <| s_iret 11 rfl
  rcases iteS e with ⟨g_3, e⟩ | ⟨g_3, e⟩
  · obtain rfl := Option.some.inj e
    exact s_swIn (off := 89) 103 1 90 rfl g_3 (by decide) <| s_iconst 1 4 rfl (by decide) <| s_iret 5 rfl
  rcases iteS e with ⟨g_4, e⟩ | ⟨g_4, e⟩
  · obtain rfl := Option.some.inj e
    exact s_swIn (off := 93) 104 1 94 rfl g_4 (by decide) <| s_iconst 3 8 rfl (by decide) <| s_iret 9 rfl
  rcases iteS e with ⟨g_5, e⟩ | ⟨g_5, e⟩
  · obtain rfl := Option.some.inj e
    exact s_swIn (off := 105) 105 1 106 rfl g_5 (by decide) <| s_iconst (-1) 18 rfl (by decide) <| s_iret 19 rfl
  rcases iteS e with ⟨g_6, e⟩ | ⟨g_6, e⟩
  · obtain rfl := Option.some.inj e
    exact s_swIn (off := 105) 106 1 106 rfl g_6 (by decide) <| s_iconst (-1) 18 rfl (by decide) <| s_iret 19 rfl
  rcases iteS e with ⟨g_7, e⟩ | ⟨g_7, e⟩
  · obtain rfl := Option.some.inj e
    exact s_swIn (off := 105) 107 1 106 rfl g_7 (by decide) <| s_iconst (-1) 18 rfl (by decide) <| s_iret 19 rfl
  rcases iteS e with ⟨g_8, e⟩ | ⟨g_8, e⟩
  · obtain rfl := Option.some.inj e
    exact s_swIn (off := 91) 108 1 92 rfl g_8 (by decide) <| s_iconst 2 6 rfl (by decide) <| s_iret 7 rfl
  rcases iteS e with ⟨g_9, e⟩ | ⟨g_9, e⟩
  · obtain rfl := Option.some.inj e
    exact s_swIn (off := 105) 109 1 106 rfl g_9 (by decide) <| s_iconst (-1) 18 rfl (by decide) <| s_iret 19 rfl
  rcases iteS e with ⟨g_10, e⟩ | ⟨g_10, e⟩
  · obtain rfl := Option.some.inj e
    exact s_swIn (off := 102) 110 1 103 rfl g_10 (by decide) <| s_bipush 7 16 rfl (by decide) <| s_iret 17 rfl
  rcases iteS e with ⟨g_11, e⟩ | ⟨g_11, e⟩
  · obtain rfl := Option.some.inj e
    exact s_swIn (off := 105) 111 1 106 rfl g_11 (by decide) <| s_iconst (-1) 18 rfl (by decide) <| s_iret 19 rfl
  rcases iteS e with ⟨g_12, e⟩ | ⟨g_12, e⟩
  · obtain rfl := Option.some.inj e
    exact s_swIn (off := 105) 112 1 106 rfl g_12 (by decide) <| s_iconst (-1) 18 rfl (by decide) <| s_iret 19 rfl
  rcases iteS e with ⟨g_13, e⟩ | ⟨g_13, e⟩
  · obtain rfl := Option.some.inj e
    exact s_swIn (off := 97) 113 1 98 rfl g_13 (by decide) <| s_iconst 5 12 rfl (by decide) <| s_iret 13 rfl
  rcases iteS e with ⟨g_14, e⟩ | ⟨g_14, e⟩
  · obtain rfl := Option.some.inj e
    exact s_swIn (off := 105) 114 1 106 rfl g_14 (by decide) <| s_iconst (-1) 18 rfl (by decide) <| s_iret 19 rfl
  rcases iteS e with ⟨g_15, e⟩ | ⟨g_15, e⟩
  · obtain rfl := Option.some.inj e
    exact s_swIn (off := 105) 115 1 106 rfl g_15 (by decide) <| s_iconst (-1) 18 rfl (by decide) <| s_iret 19 rfl
  rcases iteS e with ⟨g_16, e⟩ | ⟨g_16, e⟩
  · obtain rfl := Option.some.inj e
    exact s_swIn (off := 99) 116 1 100 rfl g_16 (by decide) <| s_bipush 6 14 rfl (by decide) <| s_iret 15 rfl
  rcases iteS e with ⟨g_17, e⟩ | ⟨g_17, e⟩
  · obtain rfl := Option.some.inj e
    exact s_swIn (off := 105) 117 1 106 rfl g_17 (by decide) <| s_iconst (-1) 18 rfl (by decide) <| s_iret 19 rfl
  rcases iteS e with ⟨g_18, e⟩ | ⟨g_18, e⟩
  · obtain rfl := Option.some.inj e
    exact s_swIn (off := 105) 118 1 106 rfl g_18 (by decide) <| s_iconst (-1) 18 rfl (by decide) <| s_iret 19 rfl
  rcases iteS e with ⟨g_19, e⟩ | ⟨g_19, e⟩
  · obtain rfl := Option.some.inj e
    exact s_swIn (off := 87) 119 1 88 rfl g_19 (by decide) <| s_iconst 0 2 rfl (by decide) <| s_iret 3 rfl
  cases e
def fX9_one (rO : Sto → Option Sto) (h : Sto) : Option Sto :=
  if (h 83 14) = 0 then (if ¬ (h 83 11) = 48 then ((fX9_letterOf (h 83 11) h).bind fun q_3 => if q_3 < 0 then (if (h 83 11) = 45 then (if 6 ≤ (h 83 13) then ((some (su h 83 14 1)).bind fun h_8 => some h_8) else ((if ¬ (h 83 11) = 45 then (some false) else (some true)).bind fun q_9 => (some (su h 83 13 ((h 83 13) + 1))).bind fun h_12 => (fX9_next_ h_12).bind fun q_13 => (if q_9 = true then ((rO q_13).bind fun q_18 => (fX9_puts 20256 q_18).bind fun q_20 => some q_20) else ((fX9_whole rO q_13).bind fun q_22 => (if ¬ (q_22 83 14) = 0 then (some true) else (if (q_22 83 11) = 41 then (some false) else (some true))).bind fun q_24 => (some (su q_22 83 14 (b2i q_24))).bind fun h_28 => if ¬ (h_28 83 14) = 0 then (some h_28) else ((fX9_next_ h_28).bind fun q_30 => some q_30))).bind fun q_15 => (some (su q_15 83 13 ((q_15 83 13) - 1))).bind fun h_32 => some h_32)) else (if ¬ (h 83 11) = 40 then ((some (su h 83 14 1)).bind fun h_34 => some h_34) else (if 6 ≤ (h 83 13) then ((some (su h 83 14 1)).bind fun h_36 => some h_36) else ((if ¬ (h 83 11) = 45 then (some false) else (some true)).bind fun q_37 => (some (su h 83 13 ((h 83 13) + 1))).bind fun h_40 => (fX9_next_ h_40).bind fun q_41 => (if q_37 = true then ((rO q_41).bind fun q_46 => (fX9_puts 20256 q_46).bind fun q_48 => some q_48) else ((fX9_whole rO q_41).bind fun q_50 => (if ¬ (q_50 83 14) = 0 then (some true) else (if (q_50 83 11) = 41 then (some false) else (some true))).bind fun q_52 => (some (su q_50 83 14 (b2i q_52))).bind fun h_56 => if ¬ (h_56 83 14) = 0 then (some h_56) else ((fX9_next_ h_56).bind fun q_58 => some q_58))).bind fun q_43 => (some (su q_43 83 13 ((q_43 83 13) - 1))).bind fun h_60 => some h_60)))) else ((fX9_letterOf (h 83 11) h).bind fun q_61 => (fX9_puts (10000 + q_61) h).bind fun q_63 => (fX9_next_ q_63).bind fun q_65 => some q_65)) else ((if (h 83 12) ≤ 9999 then (some false) else (some true)).bind fun q_67 => (some (su h 83 14 (b2i q_67))).bind fun h_70 => (fX9_puts (h_70 83 12) h_70).bind fun q_71 => if ¬ (q_71 83 14) = 0 then (some q_71) else ((fX9_next_ q_71).bind fun q_74 => some q_74))) else (some h)
set_option maxRecDepth 100000 in
set_option maxHeartbeats 4000000 in
theorem okX9_one (d : Nat) (rO : Sto → Option Sto) (hO : ∀ (k : Nat) (h q : Sto), rO h = some q → Ok yX9_one cX9_one 2 none (d + k + 2) [.ref 83] h none q) (h : Sto) (q : Sto) (e : fX9_one rO h = some q) : Ok yX9_one cX9_one 2 none (d + 6) [.ref 83] h none q := by
  refine Ok_of (lst := kX9_one) (own := RX9) ⟨by decide, rfl⟩ ckX9_one trivial (Nat.le_of_ble_eq_true rfl) ?_
  unfold fX9_one at e
  change Ev kX9_one RX9 2 (d + 6) nox 0 [some (.ref 83), none] [] h none q
  refine s_aload_n 0 rfl rfl <| s_geti 1 rfl fl_X9_184 sh_83 rfl <| ?_
  rcases iteS e with ⟨g_1, e⟩ | ⟨g_1, e⟩
  · refine s_if_eq_T 2 8 rfl (by decide) g_1 <| s_aload_n 4 rfl rfl <| s_geti 5 rfl fl_X9_178 sh_83 rfl <| s_bipush 48 6 rfl (by decide) <| ?_
    rcases iteS e with ⟨g_2, e⟩ | ⟨g_2, e⟩
    · obtain ⟨q_3, e_4, e⟩ := bndS e
      refine s_icmp_ne_T 7 58 rfl (by decide) g_2 <| s_aload_n 27 rfl rfl <| s_geti 28 rfl fl_X9_178 sh_83 rfl <| s_callS 29 [.int (h 83 11)] [] rfl ml_X9_210 yw_X9_letterOf (okX9_letterOf (d + 5) _ _ _ e_4) rfl rfl (Nat.le_of_ble_eq_true rfl) <| ?_
      rcases iteS e with ⟨g_5, e⟩ | ⟨g_5, e⟩
      · refine s_if_lt_T 30 90 rfl (by decide) g_5 <| s_aload_n 41 rfl rfl <| s_geti 42 rfl fl_X9_178 sh_83 rfl <| s_bipush 45 43 rfl (by decide) <| ?_
        rcases iteS e with ⟨g_6, e⟩ | ⟨g_6, e⟩
        · refine s_icmp_eq_T 44 108 rfl (by decide) g_6 <| s_aload_n 49 rfl rfl <| s_geti 50 rfl fl_X9_213 sh_83 rfl <| s_bipush 6 51 rfl (by decide) <| ?_
          rcases iteS e with ⟨g_7, e⟩ | ⟨g_7, e⟩
          · obtain ⟨h_8, eh_8, e⟩ := bndS e
            obtain rfl := Option.some.inj e
            exact s_icmp_ge_T 52 217 rfl (by decide) g_7 <| s_aload_n 103 rfl rfl <| s_iconst 1 104 rfl (by decide) <| s_putz 105 rfl fl_X9_184 sh_83 rfl (by decide) <| s_nmH (Option.some.inj eh_8) <| s_vret 106 rfl
          · obtain ⟨q_9, e1, e⟩ := bndS e
            have k_10 : Ev kX9_one RX9 2 (d + 6) nox 131 [some (.ref 83), none] [.int (b2i q_9)] h none q := by
              obtain ⟨h_12, eh_12, e⟩ := bndS e
              obtain ⟨q_13, e_14, e⟩ := bndS e
              obtain ⟨q_15, e1, e⟩ := bndS e
              have k_16 : Ev kX9_one RX9 2 (d + 6) nox 204 [some (.ref 83), none] [] q_15 none q := by
                obtain ⟨h_32, eh_32, e⟩ := bndS e
                obtain rfl := Option.some.inj e
                exact s_aload_n 96 rfl rfl <| s_dup 97 rfl rfl <| s_geti 98 rfl fl_X9_213 sh_83 rfl <| s_iconst 1 99 rfl (by decide) <| s_isub 100 rfl <| s_puti 101 rfl fl_X9_213 sh_83 rfl <| s_nmH (Option.some.inj eh_32) <| s_goto 102 222 rfl (by decide) <| s_vret 106 rfl
              clear e
              have e := e1
              clear e1
              refine s_istore_n [some (.ref 83), some (.int (b2i q_9))] 60 rfl (by decide) rfl <| s_aload_n 61 rfl rfl <| s_dup 62 rfl rfl <| s_geti 63 rfl fl_X9_213 sh_83 rfl <| s_iconst 1 64 rfl (by decide) <| s_iadd 65 rfl <| s_puti 66 rfl fl_X9_213 sh_83 rfl <| s_nmH (Option.some.inj eh_12) <| s_aload_n 67 rfl rfl <| s_callV (b := 83) (ci := 9) 68 [] [] rfl ml_X9_197 yw_X9_next_ sh_83 rfl rfl (okX9_next_ (d + 3) _ _ e_14) rfl rfl (Nat.le_of_ble_eq_true rfl) <| s_iload_n 69 rfl rfl <| ?_
              rcases iteS e with ⟨g_17, e⟩ | ⟨g_17, e⟩
              · obtain ⟨q_18, e_19, e⟩ := bndS e
                obtain ⟨q_20, e_21, e⟩ := bndS e
                cases e
                exact s_if_eq_F 70 164 rfl (by decide) (b2i_T g_17) <| s_aload_n 71 rfl rfl <| s_callV (b := 83) (ci := 9) 72 [] [] rfl ml_X9_207 yw_X9_one sh_83 rfl rfl (hO 3 _ _ e_19) rfl rfl (Nat.le_of_ble_eq_true rfl) <| s_aload_n 73 rfl rfl <| s_sipush 20256 74 rfl (by decide) <| s_callV (b := 83) (ci := 9) 75 [.int 20256] [] rfl ml_X9_200 yw_X9_puts sh_83 rfl rfl (okX9_puts (d + 5) _ _ _ e_21) rfl rfl (Nat.le_of_ble_eq_true rfl) <| s_goto 76 204 rfl (by decide) <| s_fgt [false, true] rfl <| k_16
              · obtain ⟨q_22, e_23, e⟩ := bndS e
                obtain ⟨q_24, e1, e⟩ := bndS e
                have k_25 : Ev kX9_one RX9 2 (d + 6) nox 190 [some (.ref 83), none] [.int (b2i q_24), .ref 83] q_22 none q := by
                  obtain ⟨h_28, eh_28, e⟩ := bndS e
                  refine s_putz 90 rfl fl_X9_184 sh_83 rfl (nzOk _) <| s_nmH (Option.some.inj eh_28) <| s_aload_n 91 rfl rfl <| s_geti 92 rfl fl_X9_184 sh_83 rfl <| ?_
                  rcases iteS e with ⟨g_29, e⟩ | ⟨g_29, e⟩
                  · cases e
                    exact s_if_ne_T 93 204 rfl (by decide) g_29 <| k_16
                  · obtain ⟨q_30, e_31, e⟩ := bndS e
                    cases e
                    exact s_if_ne_F 93 204 rfl (by decide) (Decidable.not_not.mp g_29) <| s_aload_n 94 rfl rfl <| s_callV (b := 83) (ci := 9) 95 [] [] rfl ml_X9_197 yw_X9_next_ sh_83 rfl rfl (okX9_next_ (d + 3) _ _ e_31) rfl rfl (Nat.le_of_ble_eq_true rfl) <| k_16
                clear e
                have e := e1
                clear e1
                refine s_if_eq_T 70 164 rfl (by decide) (b2i_F g_17) <| s_aload_n 77 rfl rfl <| s_callV (b := 83) (ci := 9) 78 [] [] rfl ml_X9_216 yw_X9_whole sh_83 rfl rfl (okX9_whole d rO hO _ _ e_23) rfl rfl (Nat.le_of_ble_eq_true rfl) <| s_aload_n 79 rfl rfl <| s_aload_n 80 rfl rfl <| s_geti 81 rfl fl_X9_184 sh_83 rfl <| ?_
                rcases iteS e with ⟨g_26, e⟩ | ⟨g_26, e⟩
                · cases e
                  exact s_if_ne_T 82 185 rfl (by decide) g_26 <| s_iconst 1 87 rfl (by decide) <| s_goto 88 190 rfl (by decide) <| s_fgt [false, true] rfl <| k_25
                · refine s_if_ne_F 82 185 rfl (by decide) (Decidable.not_not.mp g_26) <| s_aload_n 83 rfl rfl <| s_geti 84 rfl fl_X9_178 sh_83 rfl <| s_bipush 41 85 rfl (by decide) <| ?_
                  rcases iteS e with ⟨g_27, e⟩ | ⟨g_27, e⟩
                  · cases e
                    exact s_icmp_eq_T 86 189 rfl (by decide) g_27 <| s_iconst 0 89 rfl (by decide) <| s_fgt [false, true] rfl <| k_25
                  · cases e
                    exact s_icmp_eq_F 86 189 rfl (by decide) g_27 <| s_iconst 1 87 rfl (by decide) <| s_goto 88 190 rfl (by decide) <| s_fgt [false, true] rfl <| k_25
            clear e
            have e := e1
            clear e1
            refine s_icmp_ge_F 52 217 rfl (by decide) g_7 <| s_aload_n 53 rfl rfl <| s_geti 54 rfl fl_X9_178 sh_83 rfl <| s_bipush 45 55 rfl (by decide) <| ?_
            rcases iteS e with ⟨g_11, e⟩ | ⟨g_11, e⟩
            · cases e
              exact s_icmp_ne_T 56 130 rfl (by decide) g_11 <| s_iconst 0 59 rfl (by decide) <| k_10
            · cases e
              exact s_icmp_ne_F 56 130 rfl (by decide) (Decidable.not_not.mp g_11) <| s_iconst 1 57 rfl (by decide) <| s_goto 58 131 rfl (by decide) <| k_10
        · refine s_icmp_eq_F 44 108 rfl (by decide) g_6 <| s_aload_n 45 rfl rfl <| s_geti 46 rfl fl_X9_178 sh_83 rfl <| s_bipush 40 47 rfl (by decide) <| ?_
          rcases iteS e with ⟨g_33, e⟩ | ⟨g_33, e⟩
          · obtain ⟨h_34, eh_34, e⟩ := bndS e
            obtain rfl := Option.some.inj e
            exact s_icmp_ne_T 48 217 rfl (by decide) g_33 <| s_aload_n 103 rfl rfl <| s_iconst 1 104 rfl (by decide) <| s_putz 105 rfl fl_X9_184 sh_83 rfl (by decide) <| s_nmH (Option.some.inj eh_34) <| s_vret 106 rfl
          · refine s_icmp_ne_F 48 217 rfl (by decide) (Decidable.not_not.mp g_33) <| s_aload_n 49 rfl rfl <| s_geti 50 rfl fl_X9_213 sh_83 rfl <| s_bipush 6 51 rfl (by decide) <| ?_
            rcases iteS e with ⟨g_35, e⟩ | ⟨g_35, e⟩
            · obtain ⟨h_36, eh_36, e⟩ := bndS e
              obtain rfl := Option.some.inj e
              exact s_icmp_ge_T 52 217 rfl (by decide) g_35 <| s_aload_n 103 rfl rfl <| s_iconst 1 104 rfl (by decide) <| s_putz 105 rfl fl_X9_184 sh_83 rfl (by decide) <| s_nmH (Option.some.inj eh_36) <| s_vret 106 rfl
            · obtain ⟨q_37, e1, e⟩ := bndS e
              have k_38 : Ev kX9_one RX9 2 (d + 6) nox 131 [some (.ref 83), none] [.int (b2i q_37)] h none q := by
                obtain ⟨h_40, eh_40, e⟩ := bndS e
                obtain ⟨q_41, e_42, e⟩ := bndS e
                obtain ⟨q_43, e1, e⟩ := bndS e
                have k_44 : Ev kX9_one RX9 2 (d + 6) nox 204 [some (.ref 83), none] [] q_43 none q := by
                  obtain ⟨h_60, eh_60, e⟩ := bndS e
                  obtain rfl := Option.some.inj e
                  exact s_aload_n 96 rfl rfl <| s_dup 97 rfl rfl <| s_geti 98 rfl fl_X9_213 sh_83 rfl <| s_iconst 1 99 rfl (by decide) <| s_isub 100 rfl <| s_puti 101 rfl fl_X9_213 sh_83 rfl <| s_nmH (Option.some.inj eh_60) <| s_goto 102 222 rfl (by decide) <| s_vret 106 rfl
                clear e
                have e := e1
                clear e1
                refine s_istore_n [some (.ref 83), some (.int (b2i q_37))] 60 rfl (by decide) rfl <| s_aload_n 61 rfl rfl <| s_dup 62 rfl rfl <| s_geti 63 rfl fl_X9_213 sh_83 rfl <| s_iconst 1 64 rfl (by decide) <| s_iadd 65 rfl <| s_puti 66 rfl fl_X9_213 sh_83 rfl <| s_nmH (Option.some.inj eh_40) <| s_aload_n 67 rfl rfl <| s_callV (b := 83) (ci := 9) 68 [] [] rfl ml_X9_197 yw_X9_next_ sh_83 rfl rfl (okX9_next_ (d + 3) _ _ e_42) rfl rfl (Nat.le_of_ble_eq_true rfl) <| s_iload_n 69 rfl rfl <| ?_
                rcases iteS e with ⟨g_45, e⟩ | ⟨g_45, e⟩
                · obtain ⟨q_46, e_47, e⟩ := bndS e
                  obtain ⟨q_48, e_49, e⟩ := bndS e
                  cases e
                  exact s_if_eq_F 70 164 rfl (by decide) (b2i_T g_45) <| s_aload_n 71 rfl rfl <| s_callV (b := 83) (ci := 9) 72 [] [] rfl ml_X9_207 yw_X9_one sh_83 rfl rfl (hO 3 _ _ e_47) rfl rfl (Nat.le_of_ble_eq_true rfl) <| s_aload_n 73 rfl rfl <| s_sipush 20256 74 rfl (by decide) <| s_callV (b := 83) (ci := 9) 75 [.int 20256] [] rfl ml_X9_200 yw_X9_puts sh_83 rfl rfl (okX9_puts (d + 5) _ _ _ e_49) rfl rfl (Nat.le_of_ble_eq_true rfl) <| s_goto 76 204 rfl (by decide) <| s_fgt [false, true] rfl <| k_44
                · obtain ⟨q_50, e_51, e⟩ := bndS e
                  obtain ⟨q_52, e1, e⟩ := bndS e
                  have k_53 : Ev kX9_one RX9 2 (d + 6) nox 190 [some (.ref 83), none] [.int (b2i q_52), .ref 83] q_50 none q := by
                    obtain ⟨h_56, eh_56, e⟩ := bndS e
                    refine s_putz 90 rfl fl_X9_184 sh_83 rfl (nzOk _) <| s_nmH (Option.some.inj eh_56) <| s_aload_n 91 rfl rfl <| s_geti 92 rfl fl_X9_184 sh_83 rfl <| ?_
                    rcases iteS e with ⟨g_57, e⟩ | ⟨g_57, e⟩
                    · cases e
                      exact s_if_ne_T 93 204 rfl (by decide) g_57 <| k_44
                    · obtain ⟨q_58, e_59, e⟩ := bndS e
                      cases e
                      exact s_if_ne_F 93 204 rfl (by decide) (Decidable.not_not.mp g_57) <| s_aload_n 94 rfl rfl <| s_callV (b := 83) (ci := 9) 95 [] [] rfl ml_X9_197 yw_X9_next_ sh_83 rfl rfl (okX9_next_ (d + 3) _ _ e_59) rfl rfl (Nat.le_of_ble_eq_true rfl) <| k_44
                  clear e
                  have e := e1
                  clear e1
                  refine s_if_eq_T 70 164 rfl (by decide) (b2i_F g_45) <| s_aload_n 77 rfl rfl <| s_callV (b := 83) (ci := 9) 78 [] [] rfl ml_X9_216 yw_X9_whole sh_83 rfl rfl (okX9_whole d rO hO _ _ e_51) rfl rfl (Nat.le_of_ble_eq_true rfl) <| s_aload_n 79 rfl rfl <| s_aload_n 80 rfl rfl <| s_geti 81 rfl fl_X9_184 sh_83 rfl <| ?_
                  rcases iteS e with ⟨g_54, e⟩ | ⟨g_54, e⟩
                  · cases e
                    exact s_if_ne_T 82 185 rfl (by decide) g_54 <| s_iconst 1 87 rfl (by decide) <| s_goto 88 190 rfl (by decide) <| s_fgt [false, true] rfl <| k_53
                  · refine s_if_ne_F 82 185 rfl (by decide) (Decidable.not_not.mp g_54) <| s_aload_n 83 rfl rfl <| s_geti 84 rfl fl_X9_178 sh_83 rfl <| s_bipush 41 85 rfl (by decide) <| ?_
                    rcases iteS e with ⟨g_55, e⟩ | ⟨g_55, e⟩
                    · cases e
                      exact s_icmp_eq_T 86 189 rfl (by decide) g_55 <| s_iconst 0 89 rfl (by decide) <| s_fgt [false, true] rfl <| k_53
                    · cases e
                      exact s_icmp_eq_F 86 189 rfl (by decide) g_55 <| s_iconst 1 87 rfl (by decide) <| s_goto 88 190 rfl (by decide) <| s_fgt [false, true] rfl <| k_53
              clear e
              have e := e1
              clear e1
              refine s_icmp_ge_F 52 217 rfl (by decide) g_35 <| s_aload_n 53 rfl rfl <| s_geti 54 rfl fl_X9_178 sh_83 rfl <| s_bipush 45 55 rfl (by decide) <| ?_
              rcases iteS e with ⟨g_39, e⟩ | ⟨g_39, e⟩
              · cases e
                exact s_icmp_ne_T 56 130 rfl (by decide) g_39 <| s_iconst 0 59 rfl (by decide) <| k_38
              · cases e
                exact s_icmp_ne_F 56 130 rfl (by decide) (Decidable.not_not.mp g_39) <| s_iconst 1 57 rfl (by decide) <| s_goto 58 131 rfl (by decide) <| k_38
      · obtain ⟨q_61, e_62, e⟩ := bndS e
        obtain ⟨q_63, e_64, e⟩ := bndS e
        obtain ⟨q_65, e_66, e⟩ := bndS e
        obtain rfl := Option.some.inj e
        exact s_if_lt_F 30 90 rfl (by decide) g_5 <| s_aload_n 31 rfl rfl <| s_sipush 10000 32 rfl (by decide) <| s_aload_n 33 rfl rfl <| s_geti 34 rfl fl_X9_178 sh_83 rfl <| s_callS 35 [.int (h 83 11)] [.int 10000, .ref 83] rfl ml_X9_210 yw_X9_letterOf (okX9_letterOf (d + 5) _ _ _ e_62) rfl rfl (Nat.le_of_ble_eq_true rfl) <| s_iadd 36 rfl <| s_callV (b := 83) (ci := 9) 37 [.int (10000 + q_61)] [] rfl ml_X9_200 yw_X9_puts sh_83 rfl rfl (okX9_puts (d + 5) _ _ _ e_64) rfl rfl (Nat.le_of_ble_eq_true rfl) <| s_aload_n 38 rfl rfl <| s_callV (b := 83) (ci := 9) 39 [] [] rfl ml_X9_197 yw_X9_next_ sh_83 rfl rfl (okX9_next_ (d + 3) _ _ e_66) rfl rfl (Nat.le_of_ble_eq_true rfl) <| s_goto 40 222 rfl (by decide) <| s_vret 106 rfl
    · obtain ⟨q_67, e1, e⟩ := bndS e
      have k_68 : Ev kX9_one RX9 2 (d + 6) nox 33 [some (.ref 83), none] [.int (b2i q_67), .ref 83] h none q := by
        obtain ⟨h_70, eh_70, e⟩ := bndS e
        obtain ⟨q_71, e_72, e⟩ := bndS e
        refine s_putz 16 rfl fl_X9_184 sh_83 rfl (nzOk _) <| s_nmH (Option.some.inj eh_70) <| s_aload_n 17 rfl rfl <| s_aload_n 18 rfl rfl <| s_geti 19 rfl fl_X9_175 sh_83 rfl <| s_callV (b := 83) (ci := 9) 20 [.int (h_70 83 12)] [] rfl ml_X9_200 yw_X9_puts sh_83 rfl rfl (okX9_puts (d + 5) _ _ _ e_72) rfl rfl (Nat.le_of_ble_eq_true rfl) <| s_aload_n 21 rfl rfl <| s_geti 22 rfl fl_X9_184 sh_83 rfl <| ?_
        rcases iteS e with ⟨g_73, e⟩ | ⟨g_73, e⟩
        · obtain rfl := Option.some.inj e
          exact s_if_ne_T 23 222 rfl (by decide) g_73 <| s_vret 106 rfl
        · obtain ⟨q_74, e_75, e⟩ := bndS e
          obtain rfl := Option.some.inj e
          exact s_if_ne_F 23 222 rfl (by decide) (Decidable.not_not.mp g_73) <| s_aload_n 24 rfl rfl <| s_callV (b := 83) (ci := 9) 25 [] [] rfl ml_X9_197 yw_X9_next_ sh_83 rfl rfl (okX9_next_ (d + 3) _ _ e_75) rfl rfl (Nat.le_of_ble_eq_true rfl) <| s_goto 26 222 rfl (by decide) <| s_vret 106 rfl
      clear e
      have e := e1
      clear e1
      refine s_icmp_ne_F 7 58 rfl (by decide) (Decidable.not_not.mp g_2) <| s_aload_n 8 rfl rfl <| s_aload_n 9 rfl rfl <| s_geti 10 rfl fl_X9_175 sh_83 rfl <| s_sipush 9999 11 rfl (by decide) <| ?_
      rcases iteS e with ⟨g_69, e⟩ | ⟨g_69, e⟩
      · cases e
        exact s_icmp_le_T 12 32 rfl (by decide) g_69 <| s_iconst 0 15 rfl (by decide) <| k_68
      · cases e
        exact s_icmp_le_F 12 32 rfl (by decide) g_69 <| s_iconst 1 13 rfl (by decide) <| s_goto 14 33 rfl (by decide) <| k_68
  · obtain rfl := Option.some.inj e
    exact s_if_eq_F 2 8 rfl (by decide) g_1 <| s_vret 3 rfl
def rdX9 : Nat → Sto → Option Sto
  | 0 => fun _ => none
  | n + 1 => fX9_one (rdX9 n)
theorem okrdX9 (n : Nat) : ∀ (d k : Nat) (h q : Sto), rdX9 n h = some q → Ok yX9_one cX9_one 2 none (d + 4 * n + k + 2) [.ref 83] h none q := by
  induction n with
  | zero => intro d k h q e; cases e
  | succ n ih =>
    intro d k h q e
    have z : d + 4 * (n + 1) + k + 2 = d + 4 * n + k + 6 := by omega
    rw [z]
    refine okX9_one (d + 4 * n + k) (rdX9 n) (fun k2 => ?_) h q e
    have z2 : d + 4 * n + k + k2 + 2 = d + 4 * n + (k + k2) + 2 := by omega
    rw [z2]
    exact ih d (k + k2)
def fX9_text_b117 (x2 : Int32) (c3 : Int32) (h : Sto) : Option ((Int32 × Sto) ⊕ Sto) :=
  if (h 83 8) ≤ c3 then (some (.inr h)) else (grd (inb c3 80) <| grd (inb ((x2 + 1) + c3) 1214) <| (some (su h 84 (Int32.toNatClampNeg ((x2 + 1) + c3)) (h 89 (Int32.toNatClampNeg c3)))).bind fun h_22 => some (.inl ((c3 + 1), h_22)))
def fX9_text (h : Sto) : Option (Int32 × Sto) :=
  if ¬ (h 84 4) = 6 then ((some (su h 83 10 0)).bind fun h_2 => (some (su h_2 83 8 0)).bind fun h_3 => (some (su h_3 83 13 0)).bind fun h_4 => (some (su h_4 83 14 0)).bind fun h_5 => (fX9_next_ h_5).bind fun q_6 => (fX9_whole (rdX9 8) q_6).bind fun q_8 => (if ¬ (q_8 83 14) = 0 then (some true) else (if (q_8 83 11) = (-1) then (some false) else (some true))).bind fun q_10 => (some (su q_8 83 14 (b2i q_10))).bind fun h_14 => (some (su h_14 83 6 0)).bind fun h_15 => if (h_15 83 14) = 0 then (grd (inb (718 + (81 * (h_15 84 4))) 1214) <| (some (su h_15 84 (Int32.toNatClampNeg (718 + (81 * (h_15 84 4)))) (h_15 83 8))).bind fun h_18 => (lp (fun s => fX9_text_b117 (718 + (81 * (h_15 84 4))) s.1 s.2) FUEL (0, h_18)).bind fun v_31 => (some (su v_31 84 4 ((v_31 84 4) + 1))).bind fun h_33 => some (((h_33 84 4) - 1), h_33)) else (some (((-1) - (h_14 83 9)), h_15))) else ((fX9_finds (-1000002) h).bind fun q_38 => some (q_38.1, q_38.2))
set_option maxRecDepth 100000 in
set_option maxHeartbeats 4000000 in
theorem okX9_text (d : Nat) (h : Sto) (qv : Int32) (qh : Sto) (e : fX9_text h = some (qv, qh)) : Ok yX9_text cX9_text 4 (some .int) (d + 38) [.ref 83] h (some (.int qv)) qh := by
  refine Ok_of (lst := kX9_text) (own := RX9) ⟨by decide, rfl⟩ ckX9_text trivial (Nat.le_of_ble_eq_true rfl) ?_
  unfold fX9_text at e
  change Ev kX9_text RX9 4 (d + 38) nox 0 [some (.ref 83), none, none, none] [] h (some (.int qv)) qh
  refine s_aload_n 0 rfl rfl <| s_getr 1 rfl fl_X9_9 sh_83 rfl <| s_iconst 4 2 rfl (by decide) <| s_iald 4 3 rfl sh_84 (by decide) (by decide) <| s_bipush 6 4 rfl (by decide) <| ?_
  rcases iteS e with ⟨g_1, e⟩ | ⟨g_1, e⟩
  · obtain ⟨h_2, eh_2, e⟩ := bndS e
    obtain ⟨h_3, eh_3, e⟩ := bndS e
    obtain ⟨h_4, eh_4, e⟩ := bndS e
    obtain ⟨h_5, eh_5, e⟩ := bndS e
    obtain ⟨q_6, e_7, e⟩ := bndS e
    obtain ⟨q_8, e_9, e⟩ := bndS e
    obtain ⟨q_10, e1, e⟩ := bndS e
    have k_11 : Ev kX9_text RX9 4 (d + 38) nox 67 [some (.ref 83), none, none, none] [.int (b2i q_10), .ref 83] q_8 (some (.int qv)) qh := by
      obtain ⟨h_14, eh_14, e⟩ := bndS e
      obtain ⟨h_15, eh_15, e⟩ := bndS e
      refine s_putz 37 rfl fl_X9_184 sh_83 rfl (nzOk _) <| s_nmH (Option.some.inj eh_14) <| s_aload_n 38 rfl rfl <| s_geti 39 rfl fl_X9_172 sh_83 rfl <| s_istore_n [some (.ref 83), some (.int (h_14 83 9)), none, none] 40 rfl (by decide) rfl <| s_aload_n 41 rfl rfl <| s_iconst 0 42 rfl (by decide) <| s_puti 43 rfl fl_X9_161 sh_83 rfl <| s_nmH (Option.some.inj eh_15) <| s_aload_n 44 rfl rfl <| s_geti 45 rfl fl_X9_184 sh_83 rfl <| ?_
      rcases iteS e with ⟨g_16, e⟩ | ⟨g_16, e⟩
      · obtain ⟨g_17, e⟩ := grdS e
        obtain ⟨h_18, eh_18, e⟩ := bndS e
        obtain ⟨y_23, e_24, e⟩ := bndS e
        have kx_27 : ∀ v_31 : Sto, v_31 = y_23 → Ev kX9_text RX9 4 (d + 38) nox 147 [some (.ref 83), none, none, none] [] v_31 (some (.int qv)) qh := by
          intro v_31 hy
          subst hy
          obtain ⟨h_33, eh_33, e⟩ := bndS e
          obtain ⟨rfl, rfl⟩ := some2 e
          exact s_aload_n 86 rfl rfl <| s_getr 87 rfl fl_X9_9 sh_83 rfl <| s_iconst 4 88 rfl (by decide) <| s_dup2 89 rfl rfl rfl <| s_iald 4 90 rfl sh_84 (by decide) (by decide) <| s_iconst 1 91 rfl (by decide) <| s_iadd 92 rfl <| s_iast 4 93 rfl sh_84 (by decide) (by decide) <| s_nmH (Option.some.inj eh_33) <| s_aload_n 94 rfl rfl <| s_getr 95 rfl fl_X9_9 sh_83 rfl <| s_iconst 4 96 rfl (by decide) <| s_iald 4 97 rfl sh_84 (by decide) (by decide) <| s_iconst 1 98 rfl (by decide) <| s_isub 99 rfl <| s_iret 100 rfl
        refine s_if_eq_T 46 91 rfl (by decide) g_16 <| s_sipush 718 51 rfl (by decide) <| s_bipush 81 52 rfl (by decide) <| s_aload_n 53 rfl rfl <| s_getr 54 rfl fl_X9_9 sh_83 rfl <| s_iconst 4 55 rfl (by decide) <| s_iald 4 56 rfl sh_84 (by decide) (by decide) <| s_imul 57 rfl <| s_iadd 58 rfl <| s_istore_n [some (.ref 83), some (.int (h_14 83 9)), some (.int (718 + (81 * (h_15 84 4)))), none] 59 rfl (by decide) rfl <| s_aload_n 60 rfl rfl <| s_getr 61 rfl fl_X9_9 sh_83 rfl <| s_iload_n 62 rfl rfl <| s_aload_n 63 rfl rfl <| s_geti 64 rfl fl_X9_188 sh_83 rfl <| s_iast (Int32.toNatClampNeg (718 + (81 * (h_15 84 4)))) 65 rfl sh_84 g_17 rfl <| s_nmH (Option.some.inj eh_18) <| s_iconst 0 66 rfl (by decide) <| s_istore_n [some (.ref 83), some (.int (h_14 83 9)), some (.int (718 + (81 * (h_15 84 4)))), some (.int 0)] 67 rfl (by decide) rfl <| s_fgt [false, true] rfl <| lpS (P := fun (s_30 : (Int32 × Sto)) => Ev kX9_text RX9 4 (d + 38) nox 117 [some (.ref 83), none, some (.int (718 + (81 * (h_15 84 4)))), some (.int s_30.1)] [] s_30.2 (some (.int qv)) qh) ?_ FUEL _ e_24
        intro s_30 o_29 e hk_25 hx_26
        unfold fX9_text_b117 at e
        refine s_iload_n 68 rfl rfl <| s_aload_n 69 rfl rfl <| s_geti 70 rfl fl_X9_188 sh_83 rfl <| ?_
        rcases iteS e with ⟨g_34, e⟩ | ⟨g_34, e⟩
        · cases e
          exact s_icmp_ge_T 71 147 rfl (by decide) g_34 <| s_fgt [false, false, true, true] rfl <| (kx_27 s_30.2 (hx_26 _ rfl))
        · obtain ⟨g_35, e⟩ := grdS e
          obtain ⟨g_36, e⟩ := grdS e
          obtain ⟨h_37, eh_37, e⟩ := bndS e
          cases e
          exact s_icmp_ge_F 71 147 rfl (by decide) g_34 <| s_aload_n 72 rfl rfl <| s_getr 73 rfl fl_X9_9 sh_83 rfl <| s_iload_n 74 rfl rfl <| s_iconst 1 75 rfl (by decide) <| s_iadd 76 rfl <| s_iload_n 77 rfl rfl <| s_iadd 78 rfl <| s_aload_n 79 rfl rfl <| s_getr 80 rfl fl_X9_26 sh_83 rfl <| s_iload_n 81 rfl rfl <| s_iald (Int32.toNatClampNeg s_30.1) 82 rfl sh_89 g_35 rfl <| s_iast (Int32.toNatClampNeg (((718 + (81 * (h_15 84 4))) + 1) + s_30.1)) 83 rfl sh_84 g_36 rfl <| s_nmH (Option.some.inj eh_37) <| s_iinc 1 [some (.ref 83), none, some (.int (718 + (81 * (h_15 84 4)))), some (.int (s_30.1 + 1))] 84 rfl (by decide) rfl (by decide) rfl <| s_goto 85 117 rfl (by decide) <| (hk_25 ((s_30.1 + 1), h_37) rfl)
      · obtain ⟨rfl, rfl⟩ := some2 e
        exact s_if_eq_F 46 91 rfl (by decide) g_16 <| s_iconst (-1) 47 rfl (by decide) <| s_iload_n 48 rfl rfl <| s_isub 49 rfl <| s_iret 50 rfl
    clear e
    have e := e1
    clear e1
    refine s_icmp_ne_T 5 18 rfl (by decide) g_1 <| s_aload_n 10 rfl rfl <| s_iconst 0 11 rfl (by decide) <| s_puti 12 rfl fl_X9_169 sh_83 rfl <| s_nmH (Option.some.inj eh_2) <| s_aload_n 13 rfl rfl <| s_iconst 0 14 rfl (by decide) <| s_puti 15 rfl fl_X9_188 sh_83 rfl <| s_nmH (Option.some.inj eh_3) <| s_aload_n 16 rfl rfl <| s_iconst 0 17 rfl (by decide) <| s_puti 18 rfl fl_X9_213 sh_83 rfl <| s_nmH (Option.some.inj eh_4) <| s_aload_n 19 rfl rfl <| s_iconst 0 20 rfl (by decide) <| s_putz 21 rfl fl_X9_184 sh_83 rfl (by decide) <| s_nmH (Option.some.inj eh_5) <| s_aload_n 22 rfl rfl <| s_callV (b := 83) (ci := 9) 23 [] [] rfl ml_X9_197 yw_X9_next_ sh_83 rfl rfl (okX9_next_ (d + 35) _ _ e_7) rfl rfl (Nat.le_of_ble_eq_true rfl) <| s_aload_n 24 rfl rfl <| s_callV (b := 83) (ci := 9) 25 [] [] rfl ml_X9_216 yw_X9_whole sh_83 rfl rfl (okX9_whole (d + 32) (rdX9 8) (okrdX9 8 d) _ _ e_9) rfl rfl (Nat.le_of_ble_eq_true rfl) <| s_aload_n 26 rfl rfl <| s_aload_n 27 rfl rfl <| s_geti 28 rfl fl_X9_184 sh_83 rfl <| ?_
    rcases iteS e with ⟨g_12, e⟩ | ⟨g_12, e⟩
    · cases e
      exact s_if_ne_T 29 62 rfl (by decide) g_12 <| s_iconst 1 34 rfl (by decide) <| s_goto 35 67 rfl (by decide) <| k_11
    · refine s_if_ne_F 29 62 rfl (by decide) (Decidable.not_not.mp g_12) <| s_aload_n 30 rfl rfl <| s_geti 31 rfl fl_X9_178 sh_83 rfl <| s_iconst (-1) 32 rfl (by decide) <| ?_
      rcases iteS e with ⟨g_13, e⟩ | ⟨g_13, e⟩
      · cases e
        exact s_icmp_eq_T 33 66 rfl (by decide) g_13 <| s_iconst 0 36 rfl (by decide) <| k_11
      · cases e
        exact s_icmp_eq_F 33 66 rfl (by decide) g_13 <| s_iconst 1 34 rfl (by decide) <| s_goto 35 67 rfl (by decide) <| k_11
  · obtain ⟨q_38, e_39, e⟩ := bndS e
    obtain ⟨rfl, rfl⟩ := some2 e
    exact s_icmp_ne_F 5 18 rfl (by decide) (Decidable.not_not.mp g_1) <| s_aload_n 6 rfl rfl <| s_ldc 7 rfl wc_X9_68 <| s_callV (b := 83) (ci := 9) 8 [.int (-1000002)] [] rfl ml_X9_64 yw_X9_finds sh_83 rfl rfl (okX9_finds (d + 37) _ _ q_38.1 q_38.2 e_39) rfl rfl (Nat.le_of_ble_eq_true rfl) <| s_iret 9 rfl
def fX6_has (x1 : Int32) (h : Sto) : Option Bool :=
  (fX8_isWithin x1 0 ((h 16 0) - 1) h).bind fun q_1 => some q_1
set_option maxRecDepth 100000 in
set_option maxHeartbeats 4000000 in
theorem okX6_has (d : Nat) (x1 : Int32) (h : Sto) (q : Bool) (e : fX6_has x1 h = some q) : Ok yX6_has cX6_has 2 (some .boolean) (d + 1) [.ref 16, .int x1] h (some (.int (b2i q))) h := by
  refine Ok_of (lst := kX6_has) (own := RX6) ⟨by decide, rfl⟩ ckX6_has (b2i_01 _) (Nat.le_of_ble_eq_true rfl) ?_
  unfold fX6_has at e
  change Ev kX6_has RX6 2 (d + 1) nox 0 [some (.ref 16), some (.int x1)] [] h (some (.int (b2i q))) h
  obtain ⟨q_1, e_2, e⟩ := bndS e
  obtain rfl := Option.some.inj e
  exact s_iload_n 0 rfl rfl <| s_iconst 0 1 rfl (by decide) <| s_aload_n 2 rfl rfl <| s_geti 3 rfl fl_X6_20 sh_16 rfl <| s_iconst 1 4 rfl (by decide) <| s_isub 5 rfl <| s_callSN 6 [.int x1, .int 0, .int ((h 16 0) - 1)] [] rfl ml_X6_24 yw_X8_isWithin (okX8_isWithin d _ _ _ _ _ e_2) rfl rfl (Nat.le_of_ble_eq_true rfl) <| s_iret 7 rfl
def fX8_scoreOf (x1 : Int32) (x2 : Int32) (h : Sto) : Option (Int32 × Sto) :=
  (fX5_gather x2 h).bind fun q_1 => grd (inb x1 6) <| grd (inb x1 6) <| (fX2_read (18 + (Int32.toNatClampNeg x1)) (q_1 24 (Int32.toNatClampNeg x1)) q_1).bind fun q_5 => some (q_5.1, q_5.2)
set_option maxRecDepth 100000 in
set_option maxHeartbeats 4000000 in
theorem okX8_scoreOf (d : Nat) (x1 : Int32) (x2 : Int32) (h : Sto) (qv : Int32) (qh : Sto) (e : fX8_scoreOf x1 x2 h = some (qv, qh)) : Ok yX8_scoreOf cX8_scoreOf 3 (some .int) (d + 50) [.ref 0, .int x1, .int x2] h (some (.int qv)) qh := by
  refine Ok_of (lst := kX8_scoreOf) (own := RX8) ⟨by decide, rfl⟩ ckX8_scoreOf trivial (Nat.le_of_ble_eq_true rfl) ?_
  unfold fX8_scoreOf at e
  change Ev kX8_scoreOf RX8 3 (d + 50) nox 0 [some (.ref 0), some (.int x1), some (.int x2)] [] h (some (.int qv)) qh
  obtain ⟨q_1, e_2, e⟩ := bndS e
  obtain ⟨g_3, e⟩ := grdS e
  obtain ⟨g_4, e⟩ := grdS e
  obtain ⟨q_5, e_6, e⟩ := bndS e
  obtain ⟨rfl, rfl⟩ := some2 e
  exact s_aload_n 0 rfl rfl <| s_getr 1 rfl fl_X8_44 sh_0 rfl <| s_aload_n 2 rfl rfl <| s_getr 3 rfl fl_X8_12 sh_0 rfl <| s_getr 4 rfl fl_X8_134 sh_1 rfl <| s_iload_n 5 rfl rfl <| s_callV (b := 62) (ci := 5) 6 [.ref 10, .int x2] [] rfl ml_X8_171 yw_X5_gather sh_62 rfl rfl (okX5_gather (d + 47) _ _ _ e_2) rfl rfl (Nat.le_of_ble_eq_true rfl) <| s_aload_n 7 rfl rfl <| s_getr 8 rfl fl_X8_51 sh_0 rfl <| s_aload_n 9 rfl rfl <| s_getr 10 rfl fl_X8_12 sh_0 rfl <| s_getr 11 rfl fl_X8_181 sh_1 rfl <| s_getr 12 rfl fl_X8_320 sh_16 rfl <| s_iload_n 13 rfl rfl <| s_aald2 (18 + (Int32.toNatClampNeg x1)) 14 rfl sh_17 rfl g_3 <| s_aload_n 15 rfl rfl <| s_getr 16 rfl fl_X8_12 sh_0 rfl <| s_getr 17 rfl fl_X8_181 sh_1 rfl <| s_getr 18 rfl fl_X8_323 sh_16 rfl <| s_iload_n 19 rfl rfl <| s_iald (Int32.toNatClampNeg x1) 20 rfl sh_24 g_4 rfl <| s_aload_n 21 rfl rfl <| s_getr 22 rfl fl_X8_44 sh_0 rfl <| s_getr 23 rfl fl_X8_175 sh_62 rfl <| s_callV (b := 64) (ci := 2) 24 [.ref (18 + (Int32.toNatClampNeg x1)), .int (q_1 24 (Int32.toNatClampNeg x1)), .ref 63] [] rfl ml_X8_188 yw_X2_read sh_64 rfl rfl (okX2_read d _ _ _ q_5.1 q_5.2 e_6) rfl rfl (Nat.le_of_ble_eq_true rfl) <| s_iret 25 rfl
def fX8_score (x1 : Int32) (x2 : Int32) (h : Sto) : Option (Int32 × Sto) :=
  (fX6_has x1 h).bind fun q_1 => if q_1 = true then ((fX1_has x2 h).bind fun q_4 => if q_4 = true then ((fX8_scoreOf x1 x2 h).bind fun q_7 => some (q_7.1, q_7.2)) else ((fX8_tellFinding (-1000001) h).bind fun q_9 => some (q_9.1, q_9.2))) else ((fX8_tellFinding (-1000001) h).bind fun q_11 => some (q_11.1, q_11.2))
set_option maxRecDepth 100000 in
set_option maxHeartbeats 4000000 in
theorem okX8_score (d : Nat) (x1 : Int32) (x2 : Int32) (h : Sto) (qv : Int32) (qh : Sto) (e : fX8_score x1 x2 h = some (qv, qh)) : Ok yX8_score cX8_score 3 (some .int) (d + 51) [.ref 0, .int x1, .int x2] h (some (.int qv)) qh := by
  refine Ok_of (lst := kX8_score) (own := RX8) ⟨by decide, rfl⟩ ckX8_score trivial (Nat.le_of_ble_eq_true rfl) ?_
  unfold fX8_score at e
  change Ev kX8_score RX8 3 (d + 51) nox 0 [some (.ref 0), some (.int x1), some (.int x2)] [] h (some (.int qv)) qh
  obtain ⟨q_1, e_2, e⟩ := bndS e
  refine s_aload_n 0 rfl rfl <| s_getr 1 rfl fl_X8_12 sh_0 rfl <| s_getr 2 rfl fl_X8_181 sh_1 rfl <| s_iload_n 3 rfl rfl <| s_callV (b := 16) (ci := 6) 4 [.int x1] [] rfl ml_X8_198 yw_X6_has sh_16 rfl rfl (okX6_has (d + 49) _ _ _ e_2) rfl rfl (Nat.le_of_ble_eq_true rfl) <| ?_
  rcases iteS e with ⟨g_3, e⟩ | ⟨g_3, e⟩
  · obtain ⟨q_4, e_5, e⟩ := bndS e
    refine s_if_eq_F 5 28 rfl (by decide) (b2i_T g_3) <| s_aload_n 6 rfl rfl <| s_getr 7 rfl fl_X8_12 sh_0 rfl <| s_getr 8 rfl fl_X8_74 sh_1 rfl <| s_iload_n 9 rfl rfl <| s_callV (b := 2) (ci := 1) 10 [.int x2] [] rfl ml_X8_88 yw_X1_has sh_2 rfl rfl (okX1_has (d + 49) _ _ _ e_5) rfl rfl (Nat.le_of_ble_eq_true rfl) <| ?_
    rcases iteS e with ⟨g_6, e⟩ | ⟨g_6, e⟩
    · obtain ⟨q_7, e_8, e⟩ := bndS e
      obtain ⟨rfl, rfl⟩ := some2 e
      exact s_if_ne_T 11 35 rfl (by decide) (b2i_T g_6) <| s_aload_n 16 rfl rfl <| s_iload_n 17 rfl rfl <| s_iload_n 18 rfl rfl <| s_callV (b := 0) (ci := 8) 19 [.int x1, .int x2] [] rfl ml_X8_199 yw_X8_scoreOf sh_0 rfl rfl (okX8_scoreOf d _ _ _ q_7.1 q_7.2 e_8) rfl rfl (Nat.le_of_ble_eq_true rfl) <| s_iret 20 rfl
    · obtain ⟨q_9, e_10, e⟩ := bndS e
      obtain ⟨rfl, rfl⟩ := some2 e
      exact s_if_ne_F 11 35 rfl (by decide) (b2i_F g_6) <| s_aload_n 12 rfl rfl <| s_ldc 13 rfl wc_X8_69 <| s_callV (b := 0) (ci := 8) 14 [.int (-1000001)] [] rfl ml_X8_70 yw_X8_tellFinding sh_0 rfl rfl (okX8_tellFinding (d + 49) _ _ q_9.1 q_9.2 e_10) rfl rfl (Nat.le_of_ble_eq_true rfl) <| s_iret 15 rfl
  · obtain ⟨q_11, e_12, e⟩ := bndS e
    obtain ⟨rfl, rfl⟩ := some2 e
    exact s_if_eq_T 5 28 rfl (by decide) (b2i_F g_3) <| s_aload_n 12 rfl rfl <| s_ldc 13 rfl wc_X8_69 <| s_callV (b := 0) (ci := 8) 14 [.int (-1000001)] [] rfl ml_X8_70 yw_X8_tellFinding sh_0 rfl rfl (okX8_tellFinding (d + 49) _ _ q_11.1 q_11.2 e_12) rfl rfl (Nat.le_of_ble_eq_true rfl) <| s_iret 15 rfl
def fX9_isText (x1 : Int32) (h : Sto) : Option Bool :=
  (fX9_in x1.toInt64 0 (((h 84 4) - 1).toInt64) h).bind fun q_1 => some q_1
set_option maxRecDepth 100000 in
set_option maxHeartbeats 4000000 in
theorem okX9_isText (d : Nat) (x1 : Int32) (h : Sto) (q : Bool) (e : fX9_isText x1 h = some q) : Ok yX9_isText cX9_isText 2 (some .boolean) (d + 1) [.ref 83, .int x1] h (some (.int (b2i q))) h := by
  refine Ok_of (lst := kX9_isText) (own := RX9) ⟨by decide, rfl⟩ ckX9_isText (b2i_01 _) (Nat.le_of_ble_eq_true rfl) ?_
  unfold fX9_isText at e
  change Ev kX9_isText RX9 2 (d + 1) nox 0 [some (.ref 83), some (.int x1)] [] h (some (.int (b2i q))) h
  obtain ⟨q_1, e_2, e⟩ := bndS e
  obtain rfl := Option.some.inj e
  exact s_iload_n 0 rfl rfl <| s_i2l 1 rfl <| s_lconst 0 2 rfl (by decide) <| s_aload_n 3 rfl rfl <| s_getr 4 rfl fl_X9_9 sh_83 rfl <| s_iconst 4 5 rfl (by decide) <| s_iald 4 6 rfl sh_84 (by decide) (by decide) <| s_iconst 1 7 rfl (by decide) <| s_isub 8 rfl <| s_i2l 9 rfl <| s_callS 10 [.long x1.toInt64, .long 0, .long (((h 84 4) - 1).toInt64)] [] rfl ml_X9_48 yw_X9_in (okX9_in d _ _ _ _ _ e_2) rfl rfl (Nat.le_of_ble_eq_true rfl) <| s_iret 11 rfl
def fX9_joined (x0 : Int32) (x1 : Int32) (x2 : Int32) (h : Sto) : Option Int32 :=
  if x0 = 42 then (some (x1 * x2)) else if x0 = 43 then (some (x1 + x2)) else if x0 = 45 then (some (x1 - x2)) else if x0 = 60 then (if x2 ≤ x1 then (some 0) else (some 1)) else if x0 = 61 then (if ¬ x1 = x2 then (some 0) else (some 1)) else (if ¬ x2 = 0 then (grd (¬ x2 = 0) <| some (x1 / x2)) else (some 0))
set_option maxRecDepth 100000 in
set_option maxHeartbeats 4000000 in
theorem okX9_joined (d : Nat) (x0 : Int32) (x1 : Int32) (x2 : Int32) (h : Sto) (q : Int32) (e : fX9_joined x0 x1 x2 h = some q) : Ok yX9_joined cX9_joined 3 (some .int) d [.int x0, .int x1, .int x2] h (some (.int q)) h := by
  refine Ok_of (lst := kX9_joined) (own := RX9) ⟨by decide, rfl⟩ ckX9_joined trivial (Nat.le_of_ble_eq_true rfl) ?_
  unfold fX9_joined at e
  change Ev kX9_joined RX9 3 d nox 0 [some (.int x0), some (.int x1), some (.int x2)] [] h (some (.int q)) h
  refine s_iload_n 0 rfl rfl <| ?_
  rcases iteS e with ⟨g_1, e⟩ | ⟨g_1, e⟩
  · obtain rfl := Option.some.inj e
    exact s_lsw 1 82 rfl (by decide) (off := 81) (by rw [g_1]; decide) (by decide) <| s_iload_n 24 rfl rfl <| s_iload_n 25 rfl rfl <| s_imul 26 rfl <| s_iret 27 rfl
  rcases iteS e with ⟨g_2, e⟩ | ⟨g_2, e⟩
  · obtain rfl := Option.some.inj e
    exact s_lsw 1 74 rfl (by decide) (off := 73) (by rw [g_2]; decide) (by decide) <| s_iload_n 16 rfl rfl <| s_iload_n 17 rfl rfl <| s_iadd 18 rfl <| s_iret 19 rfl
  rcases iteS e with ⟨g_3, e⟩ | ⟨g_3, e⟩
  · obtain rfl := Option.some.inj e
    exact s_lsw 1 78 rfl (by decide) (off := 77) (by rw [g_3]; decide) (by decide) <| s_iload_n 20 rfl rfl <| s_iload_n 21 rfl rfl <| s_isub 22 rfl <| s_iret 23 rfl
  rcases iteS e with ⟨g_4, e⟩ | ⟨g_4, e⟩
  · refine s_lsw 1 52 rfl (by decide) (off := 51) (by rw [g_4]; decide) (by decide) <| s_iload_n 2 rfl rfl <| s_iload_n 3 rfl rfl <| ?_
    rcases iteS e with ⟨g_5, e⟩ | ⟨g_5, e⟩
    · obtain rfl := Option.some.inj e
      exact s_icmp_ge_T 4 61 rfl (by decide) g_5 <| s_iconst 0 7 rfl (by decide) <| s_iret 8 rfl
    · obtain rfl := Option.some.inj e
      exact s_icmp_ge_F 4 61 rfl (by decide) g_5 <| s_iconst 1 5 rfl (by decide) <| s_goto 6 62 rfl (by decide) <| s_iret 8 rfl
  rcases iteS e with ⟨g_6, e⟩ | ⟨g_6, e⟩
  · refine s_lsw 1 63 rfl (by decide) (off := 62) (by rw [g_6]; decide) (by decide) <| s_iload_n 9 rfl rfl <| s_iload_n 10 rfl rfl <| ?_
    rcases iteS e with ⟨g_7, e⟩ | ⟨g_7, e⟩
    · obtain rfl := Option.some.inj e
      exact s_icmp_ne_T 11 72 rfl (by decide) g_7 <| s_iconst 0 14 rfl (by decide) <| s_iret 15 rfl
    · obtain rfl := Option.some.inj e
      exact s_icmp_ne_F 11 72 rfl (by decide) (Decidable.not_not.mp g_7) <| s_iconst 1 12 rfl (by decide) <| s_goto 13 73 rfl (by decide) <| s_iret 15 rfl
  refine s_lsw 1 86 rfl (by decide) (off := 85) (by rw [lv_osw g_1 (by decide), lv_osw g_2 (by decide), lv_osw g_3 (by decide), lv_osw g_4 (by decide), lv_osw g_6 (by decide)]; rfl) (by decide) <| s_iload_n 28 rfl rfl <| ?_
  rcases iteS e with ⟨g_8, e⟩ | ⟨g_8, e⟩
  · obtain ⟨g_9, e⟩ := grdS e
    obtain rfl := Option.some.inj e
    exact s_if_ne_T 29 94 rfl (by decide) g_8 <| s_iload_n 32 rfl rfl <| s_iload_n 33 rfl rfl <| s_idiv 34 rfl g_9 <| s_iret 35 rfl
  · obtain rfl := Option.some.inj e
    exact s_if_ne_F 29 94 rfl (by decide) (Decidable.not_not.mp g_8) <| s_iconst 0 30 rfl (by decide) <| s_goto 31 97 rfl (by decide) <| s_iret 35 rfl
def fX9_scoreOf_b15 (x2 : Int32) (x3 : Int32) (c4 : Int32) (c5 : Int32) (h : Sto) : Option ((Int32 × Int32 × Sto) ⊕ Sto) :=
  grd (inb x3 1214) <| if (h 84 (Int32.toNatClampNeg x3)) < c5 then (some (.inr h)) else (grd (inb (x3 + c5) 1214) <| if 20000 ≤ (h 84 (Int32.toNatClampNeg (x3 + c5))) then (if ¬ (h 84 (Int32.toNatClampNeg (x3 + c5))) = 20256 then (grd (inb ((c4 + (-1)) - 1) 80) <| grd (inb (c4 + (-1)) 80) <| (fX9_joined ((h 84 (Int32.toNatClampNeg (x3 + c5))) - 20000) (h 90 (Int32.toNatClampNeg ((c4 + (-1)) - 1))) (h 90 (Int32.toNatClampNeg (c4 + (-1)))) h).bind fun q_8 => grd (inb ((c4 + (-1)) - 1) 80) <| (some (su h 90 (Int32.toNatClampNeg ((c4 + (-1)) - 1)) q_8)).bind fun h_11 => some (.inl ((c4 + (-1)), (c5 + 1), h_11))) else (grd (inb (c4 - 1) 80) <| grd (inb (c4 - 1) 80) <| (some (su h 90 (Int32.toNatClampNeg (c4 - 1)) (-(h 90 (Int32.toNatClampNeg (c4 - 1)))))).bind fun h_14 => some (.inl (c4, (c5 + 1), h_14)))) else (if 10000 ≤ (h 84 (Int32.toNatClampNeg (x3 + c5))) then ((fX9_signOf x2 ((h 84 (Int32.toNatClampNeg (x3 + c5))) - 10000) h).bind fun q_16 => grd (inb c4 80) <| (some (su h 90 (Int32.toNatClampNeg c4) q_16)).bind fun h_19 => some (.inl ((c4 + 1), (c5 + 1), h_19))) else (grd (inb c4 80) <| (some (su h 90 (Int32.toNatClampNeg c4) (h 84 (Int32.toNatClampNeg (x3 + c5))))).bind fun h_21 => some (.inl ((c4 + 1), (c5 + 1), h_21)))))
def fX9_scoreOf (x1 : Int32) (x2 : Int32) (h : Sto) : Option (Int32 × Sto) :=
  (lp (fun s => fX9_scoreOf_b15 x2 (718 + (81 * x1)) s.1 s.2.1 s.2.2) FUEL (0, 1, h)).bind fun v_30 => some ((v_30 90 0), v_30)
set_option maxRecDepth 100000 in
set_option maxHeartbeats 4000000 in
theorem okX9_scoreOf (d : Nat) (x1 : Int32) (x2 : Int32) (h : Sto) (qv : Int32) (qh : Sto) (e : fX9_scoreOf x1 x2 h = some (qv, qh)) : Ok yX9_scoreOf cX9_scoreOf 7 (some .int) (d + 4) [.ref 83, .int x1, .int x2] h (some (.int qv)) qh := by
  refine Ok_of (lst := kX9_scoreOf) (own := RX9) ⟨by decide, rfl⟩ ckX9_scoreOf trivial (Nat.le_of_ble_eq_true rfl) ?_
  unfold fX9_scoreOf at e
  change Ev kX9_scoreOf RX9 7 (d + 4) nox 0 [some (.ref 83), some (.int x1), some (.int x2), none, none, none, none] [] h (some (.int qv)) qh
  obtain ⟨y_22, e_23, e⟩ := bndS e
  have kx_26 : ∀ v_30 : Sto, v_30 = y_22 → Ev kX9_scoreOf RX9 7 (d + 4) nox 155 [some (.ref 83), none, none, none, none, none, none] [] v_30 (some (.int qv)) qh := by
    intro v_30 hy
    subst hy
    obtain ⟨rfl, rfl⟩ := some2 e
    exact s_aload_n 83 rfl rfl <| s_getr 84 rfl fl_X9_29 sh_83 rfl <| s_iconst 0 85 rfl (by decide) <| s_iald 0 86 rfl sh_90 (by decide) (by decide) <| s_iret 87 rfl
  refine s_sipush 718 0 rfl (by decide) <| s_bipush 81 1 rfl (by decide) <| s_iload_n 2 rfl rfl <| s_imul 3 rfl <| s_iadd 4 rfl <| s_istore_n [some (.ref 83), some (.int x1), some (.int x2), some (.int (718 + (81 * x1))), none, none, none] 5 rfl (by decide) rfl <| s_iconst 0 6 rfl (by decide) <| s_istore [some (.ref 83), some (.int x1), some (.int x2), some (.int (718 + (81 * x1))), some (.int 0), none, none] 7 rfl (by decide) rfl <| s_iconst 1 8 rfl (by decide) <| s_istore [some (.ref 83), some (.int x1), some (.int x2), some (.int (718 + (81 * x1))), some (.int 0), some (.int 1), none] 9 rfl (by decide) rfl <| s_fgt [false, true] rfl <| lpS (P := fun (s_29 : (Int32 × Int32 × Sto)) => Ev kX9_scoreOf RX9 7 (d + 4) nox 15 [some (.ref 83), none, some (.int x2), some (.int (718 + (81 * x1))), some (.int s_29.1), some (.int s_29.2.1), none] [] s_29.2.2 (some (.int qv)) qh) ?_ FUEL _ e_23
  intro s_29 o_28 e hk_24 hx_25
  unfold fX9_scoreOf_b15 at e
  obtain ⟨g_32, e⟩ := grdS e
  refine s_iload 10 rfl rfl <| s_aload_n 11 rfl rfl <| s_getr 12 rfl fl_X9_9 sh_83 rfl <| s_iload_n 13 rfl rfl <| s_iald (Int32.toNatClampNeg (718 + (81 * x1))) 14 rfl sh_84 g_32 rfl <| ?_
  rcases iteS e with ⟨g_33, e⟩ | ⟨g_33, e⟩
  · cases e
    exact s_icmp_gt_T 15 155 rfl (by decide) g_33 <| s_fgt [false, false, true, true, true, true] rfl <| (kx_26 s_29.2.2 (hx_25 _ rfl))
  · obtain ⟨g_34, e⟩ := grdS e
    refine s_icmp_gt_F 15 155 rfl (by decide) g_33 <| s_aload_n 16 rfl rfl <| s_getr 17 rfl fl_X9_9 sh_83 rfl <| s_iload_n 18 rfl rfl <| s_iload 19 rfl rfl <| s_iadd 20 rfl <| s_iald (Int32.toNatClampNeg ((718 + (81 * x1)) + s_29.2.1)) 21 rfl sh_84 g_34 rfl <| s_istore [some (.ref 83), none, some (.int x2), some (.int (718 + (81 * x1))), some (.int s_29.1), some (.int s_29.2.1), some (.int (s_29.2.2 84 (Int32.toNatClampNeg ((718 + (81 * x1)) + s_29.2.1))))] 22 rfl (by decide) rfl <| s_iload 23 rfl rfl <| s_sipush 20000 24 rfl (by decide) <| ?_
    rcases iteS e with ⟨g_35, e⟩ | ⟨g_35, e⟩
    · refine s_icmp_ge_T 25 82 rfl (by decide) g_35 <| s_iload 43 rfl rfl <| s_sipush 20256 44 rfl (by decide) <| ?_
      rcases iteS e with ⟨g_36, e⟩ | ⟨g_36, e⟩
      · obtain ⟨g_37, e⟩ := grdS e
        obtain ⟨g_38, e⟩ := grdS e
        obtain ⟨q_39, e_40, e⟩ := bndS e
        obtain ⟨g_41, e⟩ := grdS e
        obtain ⟨h_42, eh_42, e⟩ := bndS e
        cases e
        exact s_icmp_ne_T 45 112 rfl (by decide) g_36 <| s_iinc (-1) [some (.ref 83), none, some (.int x2), some (.int (718 + (81 * x1))), some (.int (s_29.1 + (-1))), some (.int s_29.2.1), some (.int (s_29.2.2 84 (Int32.toNatClampNeg ((718 + (81 * x1)) + s_29.2.1))))] 60 rfl (by decide) rfl (by decide) rfl <| s_aload_n 61 rfl rfl <| s_getr 62 rfl fl_X9_29 sh_83 rfl <| s_iload 63 rfl rfl <| s_iconst 1 64 rfl (by decide) <| s_isub 65 rfl <| s_iload 66 rfl rfl <| s_sipush 20000 67 rfl (by decide) <| s_isub 68 rfl <| s_aload_n 69 rfl rfl <| s_getr 70 rfl fl_X9_29 sh_83 rfl <| s_iload 71 rfl rfl <| s_iconst 1 72 rfl (by decide) <| s_isub 73 rfl <| s_iald (Int32.toNatClampNeg ((s_29.1 + (-1)) - 1)) 74 rfl sh_90 g_37 rfl <| s_aload_n 75 rfl rfl <| s_getr 76 rfl fl_X9_29 sh_83 rfl <| s_iload 77 rfl rfl <| s_iald (Int32.toNatClampNeg (s_29.1 + (-1))) 78 rfl sh_90 g_38 rfl <| s_callS 79 [.int ((s_29.2.2 84 (Int32.toNatClampNeg ((718 + (81 * x1)) + s_29.2.1))) - 20000), .int (s_29.2.2 90 (Int32.toNatClampNeg ((s_29.1 + (-1)) - 1))), .int (s_29.2.2 90 (Int32.toNatClampNeg (s_29.1 + (-1))))] [.int ((s_29.1 + (-1)) - 1), .ref 90] rfl ml_X9_219 yw_X9_joined (okX9_joined (d + 3) _ _ _ _ _ e_40) rfl rfl (Nat.le_of_ble_eq_true rfl) <| s_iast (Int32.toNatClampNeg ((s_29.1 + (-1)) - 1)) 80 rfl sh_90 g_41 rfl <| s_nmH (Option.some.inj eh_42) <| s_iinc 1 [some (.ref 83), none, some (.int x2), some (.int (718 + (81 * x1))), some (.int (s_29.1 + (-1))), some (.int (s_29.2.1 + 1)), some (.int (s_29.2.2 84 (Int32.toNatClampNeg ((718 + (81 * x1)) + s_29.2.1))))] 81 rfl (by decide) rfl (by decide) rfl <| s_goto 82 15 rfl (by decide) <| s_fgt [false, false, false, false, false, false, true] rfl <| (hk_24 ((s_29.1 + (-1)), (s_29.2.1 + 1), h_42) rfl)
      · obtain ⟨g_43, e⟩ := grdS e
        obtain ⟨g_44, e⟩ := grdS e
        obtain ⟨h_45, eh_45, e⟩ := bndS e
        cases e
        exact s_icmp_ne_F 45 112 rfl (by decide) (Decidable.not_not.mp g_36) <| s_aload_n 46 rfl rfl <| s_getr 47 rfl fl_X9_29 sh_83 rfl <| s_iload 48 rfl rfl <| s_iconst 1 49 rfl (by decide) <| s_isub 50 rfl <| s_aload_n 51 rfl rfl <| s_getr 52 rfl fl_X9_29 sh_83 rfl <| s_iload 53 rfl rfl <| s_iconst 1 54 rfl (by decide) <| s_isub 55 rfl <| s_iald (Int32.toNatClampNeg (s_29.1 - 1)) 56 rfl sh_90 g_43 rfl <| s_ineg 57 rfl <| s_iast (Int32.toNatClampNeg (s_29.1 - 1)) 58 rfl sh_90 g_44 rfl <| s_nmH (Option.some.inj eh_45) <| s_goto 59 149 rfl (by decide) <| s_iinc 1 [some (.ref 83), none, some (.int x2), some (.int (718 + (81 * x1))), some (.int s_29.1), some (.int (s_29.2.1 + 1)), some (.int (s_29.2.2 84 (Int32.toNatClampNeg ((718 + (81 * x1)) + s_29.2.1))))] 81 rfl (by decide) rfl (by decide) rfl <| s_goto 82 15 rfl (by decide) <| s_fgt [false, false, false, false, false, false, true] rfl <| (hk_24 (s_29.1, (s_29.2.1 + 1), h_45) rfl)
    · refine s_icmp_ge_F 25 82 rfl (by decide) g_35 <| s_aload_n 26 rfl rfl <| s_getr 27 rfl fl_X9_29 sh_83 rfl <| s_iload 28 rfl rfl <| s_iload 29 rfl rfl <| s_sipush 10000 30 rfl (by decide) <| ?_
      rcases iteS e with ⟨g_46, e⟩ | ⟨g_46, e⟩
      · obtain ⟨q_47, e_48, e⟩ := bndS e
        obtain ⟨g_49, e⟩ := grdS e
        obtain ⟨h_50, eh_50, e⟩ := bndS e
        cases e
        exact s_icmp_ge_T 31 64 rfl (by decide) g_46 <| s_aload_n 34 rfl rfl <| s_iload_n 35 rfl rfl <| s_iload 36 rfl rfl <| s_sipush 10000 37 rfl (by decide) <| s_isub 38 rfl <| s_callV (b := 83) (ci := 9) 39 [.int x2, .int ((s_29.2.2 84 (Int32.toNatClampNeg ((718 + (81 * x1)) + s_29.2.1))) - 10000)] [.int s_29.1, .ref 90] rfl ml_X9_156 yw_X9_signOf sh_83 rfl rfl (okX9_signOf d _ _ _ _ e_48) rfl rfl (Nat.le_of_ble_eq_true rfl) <| s_iast (Int32.toNatClampNeg s_29.1) 40 rfl sh_90 g_49 rfl <| s_nmH (Option.some.inj eh_50) <| s_iinc 1 [some (.ref 83), none, some (.int x2), some (.int (718 + (81 * x1))), some (.int (s_29.1 + 1)), some (.int s_29.2.1), some (.int (s_29.2.2 84 (Int32.toNatClampNeg ((718 + (81 * x1)) + s_29.2.1))))] 41 rfl (by decide) rfl (by decide) rfl <| s_goto 42 149 rfl (by decide) <| s_iinc 1 [some (.ref 83), none, some (.int x2), some (.int (718 + (81 * x1))), some (.int (s_29.1 + 1)), some (.int (s_29.2.1 + 1)), some (.int (s_29.2.2 84 (Int32.toNatClampNeg ((718 + (81 * x1)) + s_29.2.1))))] 81 rfl (by decide) rfl (by decide) rfl <| s_goto 82 15 rfl (by decide) <| s_fgt [false, false, false, false, false, false, true] rfl <| (hk_24 ((s_29.1 + 1), (s_29.2.1 + 1), h_50) rfl)
      · obtain ⟨g_51, e⟩ := grdS e
        obtain ⟨h_52, eh_52, e⟩ := bndS e
        cases e
        exact s_icmp_ge_F 31 64 rfl (by decide) g_46 <| s_iload 32 rfl rfl <| s_goto 33 75 rfl (by decide) <| s_iast (Int32.toNatClampNeg s_29.1) 40 rfl sh_90 g_51 rfl <| s_nmH (Option.some.inj eh_52) <| s_iinc 1 [some (.ref 83), none, some (.int x2), some (.int (718 + (81 * x1))), some (.int (s_29.1 + 1)), some (.int s_29.2.1), some (.int (s_29.2.2 84 (Int32.toNatClampNeg ((718 + (81 * x1)) + s_29.2.1))))] 41 rfl (by decide) rfl (by decide) rfl <| s_goto 42 149 rfl (by decide) <| s_iinc 1 [some (.ref 83), none, some (.int x2), some (.int (718 + (81 * x1))), some (.int (s_29.1 + 1)), some (.int (s_29.2.1 + 1)), some (.int (s_29.2.2 84 (Int32.toNatClampNeg ((718 + (81 * x1)) + s_29.2.1))))] 81 rfl (by decide) rfl (by decide) rfl <| s_goto 82 15 rfl (by decide) <| s_fgt [false, false, false, false, false, false, true] rfl <| (hk_24 ((s_29.1 + 1), (s_29.2.1 + 1), h_52) rfl)
def fX9_score (x1 : Int32) (x2 : Int32) (h : Sto) : Option (Int32 × Sto) :=
  (fX9_isText x1 h).bind fun q_1 => if q_1 = true then ((fX9_isName x2 h).bind fun q_4 => if q_4 = true then ((fX9_scoreOf x1 x2 h).bind fun q_7 => some (q_7.1, q_7.2)) else ((fX9_finds (-1000001) h).bind fun q_9 => some (q_9.1, q_9.2))) else ((fX9_finds (-1000001) h).bind fun q_11 => some (q_11.1, q_11.2))
set_option maxRecDepth 100000 in
set_option maxHeartbeats 4000000 in
theorem okX9_score (d : Nat) (x1 : Int32) (x2 : Int32) (h : Sto) (qv : Int32) (qh : Sto) (e : fX9_score x1 x2 h = some (qv, qh)) : Ok yX9_score cX9_score 3 (some .int) (d + 5) [.ref 83, .int x1, .int x2] h (some (.int qv)) qh := by
  refine Ok_of (lst := kX9_score) (own := RX9) ⟨by decide, rfl⟩ ckX9_score trivial (Nat.le_of_ble_eq_true rfl) ?_
  unfold fX9_score at e
  change Ev kX9_score RX9 3 (d + 5) nox 0 [some (.ref 83), some (.int x1), some (.int x2)] [] h (some (.int qv)) qh
  obtain ⟨q_1, e_2, e⟩ := bndS e
  refine s_aload_n 0 rfl rfl <| s_iload_n 1 rfl rfl <| s_callV (b := 83) (ci := 9) 2 [.int x1] [] rfl ml_X9_223 yw_X9_isText sh_83 rfl rfl (okX9_isText (d + 3) _ _ _ e_2) rfl rfl (Nat.le_of_ble_eq_true rfl) <| ?_
  rcases iteS e with ⟨g_3, e⟩ | ⟨g_3, e⟩
  · obtain ⟨q_4, e_5, e⟩ := bndS e
    refine s_if_eq_F 3 25 rfl (by decide) (b2i_T g_3) <| s_aload_n 4 rfl rfl <| s_iload_n 5 rfl rfl <| s_callV (b := 83) (ci := 9) 6 [.int x2] [] rfl ml_X9_73 yw_X9_isName sh_83 rfl rfl (okX9_isName (d + 3) _ _ _ e_5) rfl rfl (Nat.le_of_ble_eq_true rfl) <| ?_
    rcases iteS e with ⟨g_6, e⟩ | ⟨g_6, e⟩
    · obtain ⟨q_7, e_8, e⟩ := bndS e
      obtain ⟨rfl, rfl⟩ := some2 e
      exact s_if_eq_F 7 25 rfl (by decide) (b2i_T g_6) <| s_aload_n 8 rfl rfl <| s_iload_n 9 rfl rfl <| s_iload_n 10 rfl rfl <| s_callV (b := 83) (ci := 9) 11 [.int x1, .int x2] [] rfl ml_X9_226 yw_X9_scoreOf sh_83 rfl rfl (okX9_scoreOf d _ _ _ q_7.1 q_7.2 e_8) rfl rfl (Nat.le_of_ble_eq_true rfl) <| s_goto 12 31 rfl (by decide) <| s_iret 16 rfl
    · obtain ⟨q_9, e_10, e⟩ := bndS e
      obtain ⟨rfl, rfl⟩ := some2 e
      exact s_if_eq_T 7 25 rfl (by decide) (b2i_F g_6) <| s_aload_n 13 rfl rfl <| s_ldc 14 rfl wc_X9_47 <| s_callV (b := 83) (ci := 9) 15 [.int (-1000001)] [] rfl ml_X9_64 yw_X9_finds sh_83 rfl rfl (okX9_finds (d + 4) _ _ q_9.1 q_9.2 e_10) rfl rfl (Nat.le_of_ble_eq_true rfl) <| s_iret 16 rfl
  · obtain ⟨q_11, e_12, e⟩ := bndS e
    obtain ⟨rfl, rfl⟩ := some2 e
    exact s_if_eq_T 3 25 rfl (by decide) (b2i_F g_3) <| s_aload_n 13 rfl rfl <| s_ldc 14 rfl wc_X9_47 <| s_callV (b := 83) (ci := 9) 15 [.int (-1000001)] [] rfl ml_X9_64 yw_X9_finds sh_83 rfl rfl (okX9_finds (d + 4) _ _ q_11.1 q_11.2 e_12) rfl rfl (Nat.le_of_ble_eq_true rfl) <| s_iret 16 rfl
def fX8_gatherScores_b2 (x1 : Int32) (c2 : Int32) (h : Sto) : Option ((Int32 × Sto) ⊕ Sto) :=
  if (h 2 0) ≤ c2 then (some (.inr h)) else ((fX8_scoreOf x1 c2 h).bind fun q_2 => grd (inb c2 14) <| (some (su q_2.2 82 (Int32.toNatClampNeg c2) q_2.1)).bind fun h_5 => some (.inl ((c2 + 1), h_5)))
def fX8_gatherScores (x1 : Int32) (h : Sto) : Option Sto :=
  (lp (fun s => fX8_gatherScores_b2 x1 s.1 s.2) FUEL (0, h)).bind fun v_14 => some v_14
set_option maxRecDepth 100000 in
set_option maxHeartbeats 4000000 in
theorem okX8_gatherScores (d : Nat) (x1 : Int32) (h : Sto) (q : Sto) (e : fX8_gatherScores x1 h = some q) : Ok yX8_gatherScores cX8_gatherScores 3 none (d + 51) [.ref 0, .int x1] h none q := by
  refine Ok_of (lst := kX8_gatherScores) (own := RX8) ⟨by decide, rfl⟩ ckX8_gatherScores trivial (Nat.le_of_ble_eq_true rfl) ?_
  unfold fX8_gatherScores at e
  change Ev kX8_gatherScores RX8 3 (d + 51) nox 0 [some (.ref 0), some (.int x1), none] [] h none q
  obtain ⟨y_6, e_7, e⟩ := bndS e
  have kx_10 : ∀ v_14 : Sto, v_14 = y_6 → Ev kX8_gatherScores RX8 3 (d + 51) nox 34 [none, none, none] [] v_14 none q := by
    intro v_14 hy
    subst hy
    obtain rfl := Option.some.inj e
    exact s_vret 18 rfl
  refine s_iconst 0 0 rfl (by decide) <| s_istore_n [some (.ref 0), some (.int x1), some (.int 0)] 1 rfl (by decide) rfl <| lpS (P := fun (s_13 : (Int32 × Sto)) => Ev kX8_gatherScores RX8 3 (d + 51) nox 2 [some (.ref 0), some (.int x1), some (.int s_13.1)] [] s_13.2 none q) ?_ FUEL _ e_7
  intro s_13 o_12 e hk_8 hx_9
  unfold fX8_gatherScores_b2 at e
  refine s_iload_n 2 rfl rfl <| s_aload_n 3 rfl rfl <| s_getr 4 rfl fl_X8_12 sh_0 rfl <| s_getr 5 rfl fl_X8_74 sh_1 rfl <| s_geti 6 rfl fl_X8_78 sh_2 rfl <| ?_
  rcases iteS e with ⟨g_16, e⟩ | ⟨g_16, e⟩
  · cases e
    exact s_icmp_ge_T 7 34 rfl (by decide) g_16 <| s_fgt [true, true, true] rfl <| (kx_10 s_13.2 (hx_9 _ rfl))
  · obtain ⟨q_17, e_18, e⟩ := bndS e
    obtain ⟨g_19, e⟩ := grdS e
    obtain ⟨h_20, eh_20, e⟩ := bndS e
    cases e
    exact s_icmp_ge_F 7 34 rfl (by decide) g_16 <| s_aload_n 8 rfl rfl <| s_getr 9 rfl fl_X8_62 sh_0 rfl <| s_iload_n 10 rfl rfl <| s_aload_n 11 rfl rfl <| s_iload_n 12 rfl rfl <| s_iload_n 13 rfl rfl <| s_callV (b := 0) (ci := 8) 14 [.int x1, .int s_13.1] [.int s_13.1, .ref 82] rfl ml_X8_199 yw_X8_scoreOf sh_0 rfl rfl (okX8_scoreOf d _ _ _ q_17.1 q_17.2 e_18) rfl rfl (Nat.le_of_ble_eq_true rfl) <| s_iast (Int32.toNatClampNeg s_13.1) 15 rfl sh_82 g_19 rfl <| s_nmH (Option.some.inj eh_20) <| s_iinc 1 [some (.ref 0), some (.int x1), some (.int (s_13.1 + 1))] 16 rfl (by decide) rfl (by decide) rfl <| s_goto 17 2 rfl (by decide) <| (hk_8 ((s_13.1 + 1), h_20) rfl)
def fX1_machineSet (h : Sto) : Option Int32 :=
  (fX1_peopleSet h).bind fun q_1 => some (((jshl 1 (h 2 0)) - 1) &&& (q_1 ^^^ (-1)))
set_option maxRecDepth 100000 in
set_option maxHeartbeats 4000000 in
theorem okX1_machineSet (d : Nat) (h : Sto) (q : Int32) (e : fX1_machineSet h = some q) : Ok yX1_machineSet cX1_machineSet 1 (some .int) (d + 2) [.ref 2] h (some (.int q)) h := by
  refine Ok_of (lst := kX1_machineSet) (own := RX1) ⟨by decide, rfl⟩ ckX1_machineSet trivial (Nat.le_of_ble_eq_true rfl) ?_
  unfold fX1_machineSet at e
  change Ev kX1_machineSet RX1 1 (d + 2) nox 0 [some (.ref 2)] [] h (some (.int q)) h
  obtain ⟨q_1, e_2, e⟩ := bndS e
  obtain rfl := Option.some.inj e
  exact s_iconst 1 0 rfl (by decide) <| s_aload_n 1 rfl rfl <| s_geti 2 rfl fl_X1_16 sh_2 rfl <| s_ishl 3 rfl <| s_iconst 1 4 rfl (by decide) <| s_isub 5 rfl <| s_aload_n 6 rfl rfl <| s_callV (b := 2) (ci := 1) 7 [] [.int ((jshl 1 (h 2 0)) - 1)] rfl ml_X1_39 yw_X1_peopleSet sh_2 rfl rfl (okX1_peopleSet d _ _ e_2) rfl rfl (Nat.le_of_ble_eq_true rfl) <| s_iconst (-1) 8 rfl (by decide) <| s_ixor 9 rfl <| s_iand 10 rfl <| s_iret 11 rfl
def fX8_foundSet_b4 (x1 : Int32) (h : Sto) (c2 : Int32) (c3 : Int32) : Option ((Int32 × Int32) ⊕ Int32) :=
  if (h 2 0) ≤ c3 then (some (.inr c2)) else (grd (inb c3 14) <| if (h 82 (Int32.toNatClampNeg c3)) < x1 then (some (.inl (c2, (c3 + 1)))) else (some (.inl ((c2 ||| (jshl 1 c3)), (c3 + 1)))))
def fX8_foundSet (x1 : Int32) (h : Sto) : Option Int32 :=
  (lp (fun s => fX8_foundSet_b4 x1 h s.1 s.2) FUEL (0, 0)).bind fun v_12 => some v_12
set_option maxRecDepth 100000 in
set_option maxHeartbeats 4000000 in
theorem okX8_foundSet (d : Nat) (x1 : Int32) (h : Sto) (q : Int32) (e : fX8_foundSet x1 h = some q) : Ok yX8_foundSet cX8_foundSet 4 (some .int) d [.ref 0, .int x1] h (some (.int q)) h := by
  refine Ok_of (lst := kX8_foundSet) (own := RX8) ⟨by decide, rfl⟩ ckX8_foundSet trivial (Nat.le_of_ble_eq_true rfl) ?_
  unfold fX8_foundSet at e
  change Ev kX8_foundSet RX8 4 d nox 0 [some (.ref 0), some (.int x1), none, none] [] h (some (.int q)) h
  obtain ⟨y_4, e_5, e⟩ := bndS e
  have kx_8 : ∀ v_12 : Int32, v_12 = y_4 → Ev kX8_foundSet RX8 4 d nox 40 [none, none, some (.int v_12), none] [] h (some (.int q)) h := by
    intro v_12 hy
    subst hy
    obtain rfl := Option.some.inj e
    exact s_iload_n 24 rfl rfl <| s_iret 25 rfl
  refine s_iconst 0 0 rfl (by decide) <| s_istore_n [some (.ref 0), some (.int x1), some (.int 0), none] 1 rfl (by decide) rfl <| s_iconst 0 2 rfl (by decide) <| s_istore_n [some (.ref 0), some (.int x1), some (.int 0), some (.int 0)] 3 rfl (by decide) rfl <| lpS (P := fun (s_11 : (Int32 × Int32)) => Ev kX8_foundSet RX8 4 d nox 4 [some (.ref 0), some (.int x1), some (.int s_11.1), some (.int s_11.2)] [] h (some (.int q)) h) ?_ FUEL _ e_5
  intro s_11 o_10 e hk_6 hx_7
  unfold fX8_foundSet_b4 at e
  refine s_iload_n 4 rfl rfl <| s_aload_n 5 rfl rfl <| s_getr 6 rfl fl_X8_12 sh_0 rfl <| s_getr 7 rfl fl_X8_74 sh_1 rfl <| s_geti 8 rfl fl_X8_78 sh_2 rfl <| ?_
  rcases iteS e with ⟨g_14, e⟩ | ⟨g_14, e⟩
  · cases e
    exact s_icmp_ge_T 9 40 rfl (by decide) g_14 <| s_fgt [true, true, false, true] rfl <| (kx_8 s_11.1 (hx_7 _ rfl))
  · obtain ⟨g_15, e⟩ := grdS e
    refine s_icmp_ge_F 9 40 rfl (by decide) g_14 <| s_aload_n 10 rfl rfl <| s_getr 11 rfl fl_X8_62 sh_0 rfl <| s_iload_n 12 rfl rfl <| s_iald (Int32.toNatClampNeg s_11.2) 13 rfl sh_82 g_15 rfl <| s_iload_n 14 rfl rfl <| ?_
    rcases iteS e with ⟨g_16, e⟩ | ⟨g_16, e⟩
    · cases e
      exact s_icmp_lt_T 15 34 rfl (by decide) g_16 <| s_iinc 1 [some (.ref 0), some (.int x1), some (.int s_11.1), some (.int (s_11.2 + 1))] 22 rfl (by decide) rfl (by decide) rfl <| s_goto 23 4 rfl (by decide) <| (hk_6 (s_11.1, (s_11.2 + 1)) rfl)
    · cases e
      exact s_icmp_lt_F 15 34 rfl (by decide) g_16 <| s_iload_n 16 rfl rfl <| s_iconst 1 17 rfl (by decide) <| s_iload_n 18 rfl rfl <| s_ishl 19 rfl <| s_ior 20 rfl <| s_istore_n [some (.ref 0), some (.int x1), some (.int (s_11.1 ||| (jshl 1 s_11.2))), some (.int s_11.2)] 21 rfl (by decide) rfl <| s_iinc 1 [some (.ref 0), some (.int x1), some (.int (s_11.1 ||| (jshl 1 s_11.2))), some (.int (s_11.2 + 1))] 22 rfl (by decide) rfl (by decide) rfl <| s_goto 23 4 rfl (by decide) <| (hk_6 ((s_11.1 ||| (jshl 1 s_11.2)), (s_11.2 + 1)) rfl)
def fX8_missedSet (x1 : Int32) (h : Sto) : Option Int32 :=
  (fX1_machineSet h).bind fun q_1 => (fX8_foundSet x1 h).bind fun q_3 => some (q_1 &&& (q_3 ^^^ (-1)))
set_option maxRecDepth 100000 in
set_option maxHeartbeats 4000000 in
theorem okX8_missedSet (d : Nat) (x1 : Int32) (h : Sto) (q : Int32) (e : fX8_missedSet x1 h = some q) : Ok yX8_missedSet cX8_missedSet 2 (some .int) (d + 3) [.ref 0, .int x1] h (some (.int q)) h := by
  refine Ok_of (lst := kX8_missedSet) (own := RX8) ⟨by decide, rfl⟩ ckX8_missedSet trivial (Nat.le_of_ble_eq_true rfl) ?_
  unfold fX8_missedSet at e
  change Ev kX8_missedSet RX8 2 (d + 3) nox 0 [some (.ref 0), some (.int x1)] [] h (some (.int q)) h
  obtain ⟨q_1, e_2, e⟩ := bndS e
  obtain ⟨q_3, e_4, e⟩ := bndS e
  obtain rfl := Option.some.inj e
  exact s_aload_n 0 rfl rfl <| s_getr 1 rfl fl_X8_12 sh_0 rfl <| s_getr 2 rfl fl_X8_74 sh_1 rfl <| s_callV (b := 2) (ci := 1) 3 [] [] rfl ml_X8_326 yw_X1_machineSet sh_2 rfl rfl (okX1_machineSet d _ _ e_2) rfl rfl (Nat.le_of_ble_eq_true rfl) <| s_aload_n 4 rfl rfl <| s_iload_n 5 rfl rfl <| s_callV (b := 0) (ci := 8) 6 [.int x1] [.int q_1] rfl ml_X8_206 yw_X8_foundSet sh_0 rfl rfl (okX8_foundSet (d + 2) _ _ _ e_4) rfl rfl (Nat.le_of_ble_eq_true rfl) <| s_iconst (-1) 7 rfl (by decide) <| s_ixor 8 rfl <| s_iand 9 rfl <| s_iret 10 rfl
def fX8_wrongedSet (x1 : Int32) (h : Sto) : Option Int32 :=
  (fX8_foundSet x1 h).bind fun q_1 => (fX1_peopleSet h).bind fun q_3 => some (q_1 &&& q_3)
set_option maxRecDepth 100000 in
set_option maxHeartbeats 4000000 in
theorem okX8_wrongedSet (d : Nat) (x1 : Int32) (h : Sto) (q : Int32) (e : fX8_wrongedSet x1 h = some q) : Ok yX8_wrongedSet cX8_wrongedSet 2 (some .int) (d + 2) [.ref 0, .int x1] h (some (.int q)) h := by
  refine Ok_of (lst := kX8_wrongedSet) (own := RX8) ⟨by decide, rfl⟩ ckX8_wrongedSet trivial (Nat.le_of_ble_eq_true rfl) ?_
  unfold fX8_wrongedSet at e
  change Ev kX8_wrongedSet RX8 2 (d + 2) nox 0 [some (.ref 0), some (.int x1)] [] h (some (.int q)) h
  obtain ⟨q_1, e_2, e⟩ := bndS e
  obtain ⟨q_3, e_4, e⟩ := bndS e
  obtain rfl := Option.some.inj e
  exact s_aload_n 0 rfl rfl <| s_iload_n 1 rfl rfl <| s_callV (b := 0) (ci := 8) 2 [.int x1] [] rfl ml_X8_206 yw_X8_foundSet sh_0 rfl rfl (okX8_foundSet (d + 1) _ _ _ e_2) rfl rfl (Nat.le_of_ble_eq_true rfl) <| s_aload_n 3 rfl rfl <| s_getr 4 rfl fl_X8_12 sh_0 rfl <| s_getr 5 rfl fl_X8_74 sh_1 rfl <| s_callV (b := 2) (ci := 1) 6 [] [.int q_1] rfl ml_X8_113 yw_X1_peopleSet sh_2 rfl rfl (okX1_peopleSet d _ _ e_4) rfl rfl (Nat.le_of_ble_eq_true rfl) <| s_iand 7 rfl <| s_iret 8 rfl
def fX8_found (x1 : Int32) (x2 : Int32) (x3 : Int32) (h : Sto) : Option (Int32 × Sto) :=
  (fX6_has x1 h).bind fun q_1 => if q_1 = true then ((fX8_isWithin x3 0 2 h).bind fun q_4 => if q_4 = true then ((fX8_gatherScores x1 h).bind fun q_7 => if ¬ x3 = 0 then (if ¬ x3 = 1 then ((fX8_missedSet x2 q_7).bind fun q_11 => some (q_11, q_7)) else ((fX8_wrongedSet x2 q_7).bind fun q_13 => some (q_13, q_7))) else ((fX8_foundSet x2 q_7).bind fun q_15 => some (q_15, q_7))) else ((fX8_tellFinding (-1000001) h).bind fun q_17 => some (q_17.1, q_17.2))) else ((fX8_tellFinding (-1000001) h).bind fun q_19 => some (q_19.1, q_19.2))
set_option maxRecDepth 100000 in
set_option maxHeartbeats 4000000 in
theorem okX8_found (d : Nat) (x1 : Int32) (x2 : Int32) (x3 : Int32) (h : Sto) (qv : Int32) (qh : Sto) (e : fX8_found x1 x2 x3 h = some (qv, qh)) : Ok yX8_found cX8_found 4 (some .int) (d + 52) [.ref 0, .int x1, .int x2, .int x3] h (some (.int qv)) qh := by
  refine Ok_of (lst := kX8_found) (own := RX8) ⟨by decide, rfl⟩ ckX8_found trivial (Nat.le_of_ble_eq_true rfl) ?_
  unfold fX8_found at e
  change Ev kX8_found RX8 4 (d + 52) nox 0 [some (.ref 0), some (.int x1), some (.int x2), some (.int x3)] [] h (some (.int qv)) qh
  obtain ⟨q_1, e_2, e⟩ := bndS e
  refine s_aload_n 0 rfl rfl <| s_getr 1 rfl fl_X8_12 sh_0 rfl <| s_getr 2 rfl fl_X8_181 sh_1 rfl <| s_iload_n 3 rfl rfl <| s_callV (b := 16) (ci := 6) 4 [.int x1] [] rfl ml_X8_198 yw_X6_has sh_16 rfl rfl (okX6_has (d + 50) _ _ _ e_2) rfl rfl (Nat.le_of_ble_eq_true rfl) <| ?_
  rcases iteS e with ⟨g_3, e⟩ | ⟨g_3, e⟩
  · obtain ⟨q_4, e_5, e⟩ := bndS e
    refine s_if_eq_F 5 23 rfl (by decide) (b2i_T g_3) <| s_iload_n 6 rfl rfl <| s_iconst 0 7 rfl (by decide) <| s_iconst 2 8 rfl (by decide) <| s_callS 9 [.int x3, .int 0, .int 2] [] rfl ml_X8_65 yw_X8_isWithin (okX8_isWithin (d + 51) _ _ _ _ _ e_5) rfl rfl (Nat.le_of_ble_eq_true rfl) <| ?_
    rcases iteS e with ⟨g_6, e⟩ | ⟨g_6, e⟩
    · obtain ⟨q_7, e_8, e⟩ := bndS e
      refine s_if_ne_T 10 30 rfl (by decide) (b2i_T g_6) <| s_aload_n 15 rfl rfl <| s_iload_n 16 rfl rfl <| s_callV (b := 0) (ci := 8) 17 [.int x1] [] rfl ml_X8_202 yw_X8_gatherScores sh_0 rfl rfl (okX8_gatherScores d _ _ _ e_8) rfl rfl (Nat.le_of_ble_eq_true rfl) <| s_iload_n 18 rfl rfl <| ?_
      rcases iteS e with ⟨g_9, e⟩ | ⟨g_9, e⟩
      · refine s_if_ne_T 19 45 rfl (by decide) g_9 <| s_iload_n 24 rfl rfl <| s_iconst 1 25 rfl (by decide) <| ?_
        rcases iteS e with ⟨g_10, e⟩ | ⟨g_10, e⟩
        · obtain ⟨q_11, e_12, e⟩ := bndS e
          obtain ⟨rfl, rfl⟩ := some2 e
          exact s_icmp_ne_T 26 58 rfl (by decide) g_10 <| s_aload_n 31 rfl rfl <| s_iload_n 32 rfl rfl <| s_callV (b := 0) (ci := 8) 33 [.int x2] [] rfl ml_X8_212 yw_X8_missedSet sh_0 rfl rfl (okX8_missedSet (d + 48) _ _ _ e_12) rfl rfl (Nat.le_of_ble_eq_true rfl) <| s_iret 34 rfl
        · obtain ⟨q_13, e_14, e⟩ := bndS e
          obtain ⟨rfl, rfl⟩ := some2 e
          exact s_icmp_ne_F 26 58 rfl (by decide) (Decidable.not_not.mp g_10) <| s_aload_n 27 rfl rfl <| s_iload_n 28 rfl rfl <| s_callV (b := 0) (ci := 8) 29 [.int x2] [] rfl ml_X8_209 yw_X8_wrongedSet sh_0 rfl rfl (okX8_wrongedSet (d + 49) _ _ _ e_14) rfl rfl (Nat.le_of_ble_eq_true rfl) <| s_goto 30 63 rfl (by decide) <| s_iret 34 rfl
      · obtain ⟨q_15, e_16, e⟩ := bndS e
        obtain ⟨rfl, rfl⟩ := some2 e
        exact s_if_ne_F 19 45 rfl (by decide) (Decidable.not_not.mp g_9) <| s_aload_n 20 rfl rfl <| s_iload_n 21 rfl rfl <| s_callV (b := 0) (ci := 8) 22 [.int x2] [] rfl ml_X8_206 yw_X8_foundSet sh_0 rfl rfl (okX8_foundSet (d + 51) _ _ _ e_16) rfl rfl (Nat.le_of_ble_eq_true rfl) <| s_iret 23 rfl
    · obtain ⟨q_17, e_18, e⟩ := bndS e
      obtain ⟨rfl, rfl⟩ := some2 e
      exact s_if_ne_F 10 30 rfl (by decide) (b2i_F g_6) <| s_aload_n 11 rfl rfl <| s_ldc 12 rfl wc_X8_69 <| s_callV (b := 0) (ci := 8) 13 [.int (-1000001)] [] rfl ml_X8_70 yw_X8_tellFinding sh_0 rfl rfl (okX8_tellFinding (d + 50) _ _ q_17.1 q_17.2 e_18) rfl rfl (Nat.le_of_ble_eq_true rfl) <| s_iret 14 rfl
  · obtain ⟨q_19, e_20, e⟩ := bndS e
    obtain ⟨rfl, rfl⟩ := some2 e
    exact s_if_eq_T 5 23 rfl (by decide) (b2i_F g_3) <| s_aload_n 11 rfl rfl <| s_ldc 12 rfl wc_X8_69 <| s_callV (b := 0) (ci := 8) 13 [.int (-1000001)] [] rfl ml_X8_70 yw_X8_tellFinding sh_0 rfl rfl (okX8_tellFinding (d + 50) _ _ q_19.1 q_19.2 e_20) rfl rfl (Nat.le_of_ble_eq_true rfl) <| s_iret 14 rfl
def fX9_findScores_b2 (x1 : Int32) (c2 : Int32) (h : Sto) : Option ((Int32 × Sto) ⊕ Sto) :=
  if (h 84 0) ≤ c2 then (some (.inr h)) else ((fX9_scoreOf x1 c2 h).bind fun q_2 => grd (inb c2 14) <| (some (su q_2.2 91 (Int32.toNatClampNeg c2) q_2.1)).bind fun h_5 => some (.inl ((c2 + 1), h_5)))
def fX9_findScores (x1 : Int32) (h : Sto) : Option Sto :=
  (lp (fun s => fX9_findScores_b2 x1 s.1 s.2) FUEL (0, h)).bind fun v_14 => some v_14
set_option maxRecDepth 100000 in
set_option maxHeartbeats 4000000 in
theorem okX9_findScores (d : Nat) (x1 : Int32) (h : Sto) (q : Sto) (e : fX9_findScores x1 h = some q) : Ok yX9_findScores cX9_findScores 3 none (d + 5) [.ref 83, .int x1] h none q := by
  refine Ok_of (lst := kX9_findScores) (own := RX9) ⟨by decide, rfl⟩ ckX9_findScores trivial (Nat.le_of_ble_eq_true rfl) ?_
  unfold fX9_findScores at e
  change Ev kX9_findScores RX9 3 (d + 5) nox 0 [some (.ref 83), some (.int x1), none] [] h none q
  obtain ⟨y_6, e_7, e⟩ := bndS e
  have kx_10 : ∀ v_14 : Sto, v_14 = y_6 → Ev kX9_findScores RX9 3 (d + 5) nox 30 [none, none, none] [] v_14 none q := by
    intro v_14 hy
    subst hy
    obtain rfl := Option.some.inj e
    exact s_vret 18 rfl
  refine s_iconst 0 0 rfl (by decide) <| s_istore_n [some (.ref 83), some (.int x1), some (.int 0)] 1 rfl (by decide) rfl <| lpS (P := fun (s_13 : (Int32 × Sto)) => Ev kX9_findScores RX9 3 (d + 5) nox 2 [some (.ref 83), some (.int x1), some (.int s_13.1)] [] s_13.2 none q) ?_ FUEL _ e_7
  intro s_13 o_12 e hk_8 hx_9
  unfold fX9_findScores_b2 at e
  refine s_iload_n 2 rfl rfl <| s_aload_n 3 rfl rfl <| s_getr 4 rfl fl_X9_9 sh_83 rfl <| s_iconst 0 5 rfl (by decide) <| s_iald 0 6 rfl sh_84 (by decide) (by decide) <| ?_
  rcases iteS e with ⟨g_16, e⟩ | ⟨g_16, e⟩
  · cases e
    exact s_icmp_ge_T 7 30 rfl (by decide) g_16 <| s_fgt [true, true, true] rfl <| (kx_10 s_13.2 (hx_9 _ rfl))
  · obtain ⟨q_17, e_18, e⟩ := bndS e
    obtain ⟨g_19, e⟩ := grdS e
    obtain ⟨h_20, eh_20, e⟩ := bndS e
    cases e
    exact s_icmp_ge_F 7 30 rfl (by decide) g_16 <| s_aload_n 8 rfl rfl <| s_getr 9 rfl fl_X9_32 sh_83 rfl <| s_iload_n 10 rfl rfl <| s_aload_n 11 rfl rfl <| s_iload_n 12 rfl rfl <| s_iload_n 13 rfl rfl <| s_callV (b := 83) (ci := 9) 14 [.int x1, .int s_13.1] [.int s_13.1, .ref 91] rfl ml_X9_226 yw_X9_scoreOf sh_83 rfl rfl (okX9_scoreOf d _ _ _ q_17.1 q_17.2 e_18) rfl rfl (Nat.le_of_ble_eq_true rfl) <| s_iast (Int32.toNatClampNeg s_13.1) 15 rfl sh_91 g_19 rfl <| s_nmH (Option.some.inj eh_20) <| s_iinc 1 [some (.ref 83), some (.int x1), some (.int (s_13.1 + 1))] 16 rfl (by decide) rfl (by decide) rfl <| s_goto 17 2 rfl (by decide) <| (hk_8 ((s_13.1 + 1), h_20) rfl)
def fX9_foundBy_b4 (x1 : Int32) (h : Sto) (c2 : Int32) (c3 : Int32) : Option ((Int32 × Int32) ⊕ Int32) :=
  if (h 84 0) ≤ c3 then (some (.inr c2)) else (grd (inb c3 14) <| if (h 91 (Int32.toNatClampNeg c3)) < x1 then (some (.inl ((c2 ||| 0), (c3 + 1)))) else (some (.inl ((c2 ||| (jshl 1 c3)), (c3 + 1)))))
def fX9_foundBy (x1 : Int32) (h : Sto) : Option Int32 :=
  (lp (fun s => fX9_foundBy_b4 x1 h s.1 s.2) FUEL (0, 0)).bind fun v_12 => some v_12
set_option maxRecDepth 100000 in
set_option maxHeartbeats 4000000 in
theorem okX9_foundBy (d : Nat) (x1 : Int32) (h : Sto) (q : Int32) (e : fX9_foundBy x1 h = some q) : Ok yX9_foundBy cX9_foundBy 4 (some .int) d [.ref 83, .int x1] h (some (.int q)) h := by
  refine Ok_of (lst := kX9_foundBy) (own := RX9) ⟨by decide, rfl⟩ ckX9_foundBy trivial (Nat.le_of_ble_eq_true rfl) ?_
  unfold fX9_foundBy at e
  change Ev kX9_foundBy RX9 4 d nox 0 [some (.ref 83), some (.int x1), none, none] [] h (some (.int q)) h
  obtain ⟨y_4, e_5, e⟩ := bndS e
  have kx_8 : ∀ v_12 : Int32, v_12 = y_4 → Ev kX9_foundBy RX9 4 d nox 40 [none, none, some (.int v_12), none] [] h (some (.int q)) h := by
    intro v_12 hy
    subst hy
    obtain rfl := Option.some.inj e
    exact s_iload_n 26 rfl rfl <| s_iret 27 rfl
  refine s_iconst 0 0 rfl (by decide) <| s_istore_n [some (.ref 83), some (.int x1), some (.int 0), none] 1 rfl (by decide) rfl <| s_iconst 0 2 rfl (by decide) <| s_istore_n [some (.ref 83), some (.int x1), some (.int 0), some (.int 0)] 3 rfl (by decide) rfl <| lpS (P := fun (s_11 : (Int32 × Int32)) => Ev kX9_foundBy RX9 4 d nox 4 [some (.ref 83), some (.int x1), some (.int s_11.1), some (.int s_11.2)] [] h (some (.int q)) h) ?_ FUEL _ e_5
  intro s_11 o_10 e hk_6 hx_7
  unfold fX9_foundBy_b4 at e
  refine s_iload_n 4 rfl rfl <| s_aload_n 5 rfl rfl <| s_getr 6 rfl fl_X9_9 sh_83 rfl <| s_iconst 0 7 rfl (by decide) <| s_iald 0 8 rfl sh_84 (by decide) (by decide) <| ?_
  rcases iteS e with ⟨g_14, e⟩ | ⟨g_14, e⟩
  · cases e
    exact s_icmp_ge_T 9 40 rfl (by decide) g_14 <| s_fgt [true, true, false, true] rfl <| (kx_8 s_11.1 (hx_7 _ rfl))
  · obtain ⟨g_15, e⟩ := grdS e
    refine s_icmp_ge_F 9 40 rfl (by decide) g_14 <| s_iload_n 10 rfl rfl <| s_aload_n 11 rfl rfl <| s_getr 12 rfl fl_X9_32 sh_83 rfl <| s_iload_n 13 rfl rfl <| s_iald (Int32.toNatClampNeg s_11.2) 14 rfl sh_91 g_15 rfl <| s_iload_n 15 rfl rfl <| ?_
    rcases iteS e with ⟨g_16, e⟩ | ⟨g_16, e⟩
    · cases e
      exact s_icmp_lt_T 16 31 rfl (by decide) g_16 <| s_iconst 0 21 rfl (by decide) <| s_ior 22 rfl <| s_istore_n [some (.ref 83), some (.int x1), some (.int (s_11.1 ||| 0)), some (.int s_11.2)] 23 rfl (by decide) rfl <| s_iinc 1 [some (.ref 83), some (.int x1), some (.int (s_11.1 ||| 0)), some (.int (s_11.2 + 1))] 24 rfl (by decide) rfl (by decide) rfl <| s_goto 25 4 rfl (by decide) <| (hk_6 ((s_11.1 ||| 0), (s_11.2 + 1)) rfl)
    · cases e
      exact s_icmp_lt_F 16 31 rfl (by decide) g_16 <| s_iconst 1 17 rfl (by decide) <| s_iload_n 18 rfl rfl <| s_ishl 19 rfl <| s_goto 20 32 rfl (by decide) <| s_ior 22 rfl <| s_istore_n [some (.ref 83), some (.int x1), some (.int (s_11.1 ||| (jshl 1 s_11.2))), some (.int s_11.2)] 23 rfl (by decide) rfl <| s_iinc 1 [some (.ref 83), some (.int x1), some (.int (s_11.1 ||| (jshl 1 s_11.2))), some (.int (s_11.2 + 1))] 24 rfl (by decide) rfl (by decide) rfl <| s_goto 25 4 rfl (by decide) <| (hk_6 ((s_11.1 ||| (jshl 1 s_11.2)), (s_11.2 + 1)) rfl)
