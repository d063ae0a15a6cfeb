/-! 10 methods (written by wip/whole/gen_m.py) -/
theorem some2 {α β : Type} {a c : α} {b d : β} (e : some (a, b) = some (c, d)) : a = c ∧ b = d := by
  cases e
  exact ⟨rfl, rfl⟩
theorem prod2 {α β : Type} {a c : α} {b d : β} (e : (a, b) = (c, d)) : a = c ∧ b = d := by
  cases e
  exact ⟨rfl, rfl⟩
def fX8_isWithin (x0 : Int32) (x1 : Int32) (x2 : Int32) (h : Sto) : Option Bool :=
  if x0 < x1 then (some false) else (if x2 < x0 then (some false) else (some true))
set_option maxRecDepth 100000 in
set_option maxHeartbeats 4000000 in
theorem okX8_isWithin (d : Nat) (x0 : Int32) (x1 : Int32) (x2 : Int32) (h : Sto) (q : Bool) (e : fX8_isWithin x0 x1 x2 h = some q) : Ok yX8_isWithin cX8_isWithin 3 (some .boolean) d [.int x0, .int x1, .int x2] h (some (.int (b2i q))) h := by
  refine Ok_of (lst := kX8_isWithin) (own := RX8) ⟨by decide, rfl⟩ ckX8_isWithin (b2i_01 _) (Nat.le_of_ble_eq_true rfl) ?_
  unfold fX8_isWithin at e
  change Ev kX8_isWithin RX8 3 d nox 0 [some (.int x0), some (.int x1), some (.int x2)] [] h (some (.int (b2i q))) h
  refine s_iload_n 0 rfl rfl <| s_iload_n 1 rfl rfl <| ?_
  rcases iteS e with ⟨g_1, e⟩ | ⟨g_1, e⟩
  · obtain rfl := Option.some.inj e
    exact s_icmp_lt_T 2 14 rfl (by decide) g_1 <| s_iconst 0 8 rfl (by decide) <| s_iret 9 rfl
  · refine s_icmp_lt_F 2 14 rfl (by decide) g_1 <| s_iload_n 3 rfl rfl <| s_iload_n 4 rfl rfl <| ?_
    rcases iteS e with ⟨g_2, e⟩ | ⟨g_2, e⟩
    · obtain rfl := Option.some.inj e
      exact s_icmp_gt_T 5 14 rfl (by decide) g_2 <| s_iconst 0 8 rfl (by decide) <| s_iret 9 rfl
    · obtain rfl := Option.some.inj e
      exact s_icmp_gt_F 5 14 rfl (by decide) g_2 <| s_iconst 1 6 rfl (by decide) <| s_goto 7 15 rfl (by decide) <| s_iret 9 rfl
def fX1_add (x1 : Int32) (x2 : Int32) (h : Sto) : Option (Int32 × Sto) :=
  grd (inb (h 2 0) 14) <| (some (su h 4 (Int32.toNatClampNeg (h 2 0)) x1)).bind fun h_2 => grd (inb (h_2 2 0) 14) <| (some (su h_2 5 (Int32.toNatClampNeg (h_2 2 0)) x2)).bind fun h_4 => grd (inb (h_4 2 0) 14) <| (some (su h_4 6 (Int32.toNatClampNeg (h_4 2 0)) 1023)).bind fun h_6 => grd (inb (h_6 2 0) 14) <| (some (su h_6 7 (Int32.toNatClampNeg (h_6 2 0)) 0)).bind fun h_8 => grd (inb (h_8 2 0) 14) <| (some (su h_8 8 (Int32.toNatClampNeg (h_8 2 0)) (-1))).bind fun h_10 => grd (inb (h_10 2 0) 14) <| (some (su h_10 9 (Int32.toNatClampNeg (h_10 2 0)) 0)).bind fun h_12 => (some (su h_12 2 0 ((h_12 2 0) + 1))).bind fun h_13 => some (((h_13 2 0) - 1), h_13)
set_option maxRecDepth 100000 in
set_option maxHeartbeats 4000000 in
theorem okX1_add (d : Nat) (x1 : Int32) (x2 : Int32) (h : Sto) (qv : Int32) (qh : Sto) (e : fX1_add x1 x2 h = some (qv, qh)) : Ok yX1_add cX1_add 3 (some .int) d [.ref 2, .int x1, .int x2] h (some (.int qv)) qh := by
  refine Ok_of (lst := kX1_add) (own := RX1) ⟨by decide, rfl⟩ ckX1_add trivial (Nat.le_of_ble_eq_true rfl) ?_
  unfold fX1_add at e
  change Ev kX1_add RX1 3 d nox 0 [some (.ref 2), some (.int x1), some (.int x2)] [] h (some (.int qv)) qh
  obtain ⟨g_1, e⟩ := grdS e
  obtain ⟨h_2, eh_2, e⟩ := bndS e
  obtain ⟨g_3, e⟩ := grdS e
  obtain ⟨h_4, eh_4, e⟩ := bndS e
  obtain ⟨g_5, e⟩ := grdS e
  obtain ⟨h_6, eh_6, e⟩ := bndS e
  obtain ⟨g_7, e⟩ := grdS e
  obtain ⟨h_8, eh_8, e⟩ := bndS e
  obtain ⟨g_9, e⟩ := grdS e
  obtain ⟨h_10, eh_10, e⟩ := bndS e
  obtain ⟨g_11, e⟩ := grdS e
  obtain ⟨h_12, eh_12, e⟩ := bndS e
  obtain ⟨h_13, eh_13, e⟩ := bndS e
  obtain ⟨rfl, rfl⟩ := some2 e
  exact s_aload_n 0 rfl rfl <| s_getr 1 rfl fl_X1_11 sh_2 rfl <| s_iconst 0 2 rfl (by decide) <| s_aald2 4 3 rfl sh_3 (by decide) (by decide) <| s_aload_n 4 rfl rfl <| s_geti 5 rfl fl_X1_16 sh_2 rfl <| s_iload_n 6 rfl rfl <| s_iast (Int32.toNatClampNeg (h 2 0)) 7 rfl sh_4 g_1 rfl <| s_nmH (Option.some.inj eh_2) <| s_aload_n 8 rfl rfl <| s_getr 9 rfl fl_X1_11 sh_2 rfl <| s_iconst 1 10 rfl (by decide) <| s_aald2 5 11 rfl sh_3 (by decide) (by decide) <| s_aload_n 12 rfl rfl <| s_geti 13 rfl fl_X1_16 sh_2 rfl <| s_iload_n 14 rfl rfl <| s_iast (Int32.toNatClampNeg (h_2 2 0)) 15 rfl sh_5 g_3 rfl <| s_nmH (Option.some.inj eh_4) <| s_aload_n 16 rfl rfl <| s_getr 17 rfl fl_X1_11 sh_2 rfl <| s_iconst 2 18 rfl (by decide) <| s_aald2 6 19 rfl sh_3 (by decide) (by decide) <| s_aload_n 20 rfl rfl <| s_geti 21 rfl fl_X1_16 sh_2 rfl <| s_sipush 1023 22 rfl (by decide) <| s_iast (Int32.toNatClampNeg (h_4 2 0)) 23 rfl sh_6 g_5 rfl <| s_nmH (Option.some.inj eh_6) <| s_aload_n 24 rfl rfl <| s_getr 25 rfl fl_X1_11 sh_2 rfl <| s_iconst 3 26 rfl (by decide) <| s_aald2 7 27 rfl sh_3 (by decide) (by decide) <| s_aload_n 28 rfl rfl <| s_geti 29 rfl fl_X1_16 sh_2 rfl <| s_iconst 0 30 rfl (by decide) <| s_iast (Int32.toNatClampNeg (h_6 2 0)) 31 rfl sh_7 g_7 rfl <| s_nmH (Option.some.inj eh_8) <| s_aload_n 32 rfl rfl <| s_getr 33 rfl fl_X1_11 sh_2 rfl <| s_iconst 4 34 rfl (by decide) <| s_aald2 8 35 rfl sh_3 (by decide) (by decide) <| s_aload_n 36 rfl rfl <| s_geti 37 rfl fl_X1_16 sh_2 rfl <| s_iconst (-1) 38 rfl (by decide) <| s_iast (Int32.toNatClampNeg (h_8 2 0)) 39 rfl sh_8 g_9 rfl <| s_nmH (Option.some.inj eh_10) <| s_aload_n 40 rfl rfl <| s_getr 41 rfl fl_X1_11 sh_2 rfl <| s_iconst 5 42 rfl (by decide) <| s_aald2 9 43 rfl sh_3 (by decide) (by decide) <| s_aload_n 44 rfl rfl <| s_geti 45 rfl fl_X1_16 sh_2 rfl <| s_iconst 0 46 rfl (by decide) <| s_iast (Int32.toNatClampNeg (h_10 2 0)) 47 rfl sh_9 g_11 rfl <| s_nmH (Option.some.inj eh_12) <| s_aload_n 48 rfl rfl <| s_dup 49 rfl rfl <| s_geti 50 rfl fl_X1_16 sh_2 rfl <| s_iconst 1 51 rfl (by decide) <| s_iadd 52 rfl <| s_puti 53 rfl fl_X1_16 sh_2 rfl <| s_nmH (Option.some.inj eh_13) <| s_aload_n 54 rfl rfl <| s_geti 55 rfl fl_X1_16 sh_2 rfl <| s_iconst 1 56 rfl (by decide) <| s_isub 57 rfl <| s_iret 58 rfl
def fX8_tellFinding (x1 : Int32) (h : Sto) : Option (Int32 × Sto) :=
  (fX8_isWithin ((-1000001) - x1) 0 6 h).bind fun q_1 => if q_1 = true then (grd (inb ((-1000001) - x1) 7) <| grd (inb ((-1000001) - x1) 7) <| (some (su h 61 (Int32.toNatClampNeg ((-1000001) - x1)) ((h 61 (Int32.toNatClampNeg ((-1000001) - x1))) + 1))).bind fun h_6 => some (x1, h_6)) else (some (x1, h))
set_option maxRecDepth 100000 in
set_option maxHeartbeats 4000000 in
theorem okX8_tellFinding (d : Nat) (x1 : Int32) (h : Sto) (qv : Int32) (qh : Sto) (e : fX8_tellFinding x1 h = some (qv, qh)) : Ok yX8_tellFinding cX8_tellFinding 3 (some .int) (d + 1) [.ref 0, .int x1] h (some (.int qv)) qh := by
  refine Ok_of (lst := kX8_tellFinding) (own := RX8) ⟨by decide, rfl⟩ ckX8_tellFinding trivial (Nat.le_of_ble_eq_true rfl) ?_
  unfold fX8_tellFinding at e
  change Ev kX8_tellFinding RX8 3 (d + 1) nox 0 [some (.ref 0), some (.int x1), none] [] h (some (.int qv)) qh
  obtain ⟨q_1, e_2, e⟩ := bndS e
  refine s_ldc 0 rfl wc_X8_69 <| s_iload_n 1 rfl rfl <| s_isub 2 rfl <| s_istore_n [some (.ref 0), some (.int x1), some (.int ((-1000001) - x1))] 3 rfl (by decide) rfl <| s_iload_n 4 rfl rfl <| s_iconst 0 5 rfl (by decide) <| s_bipush 6 6 rfl (by decide) <| s_callS 7 [.int ((-1000001) - x1), .int 0, .int 6] [] rfl ml_X8_65 yw_X8_isWithin (okX8_isWithin d _ _ _ _ _ e_2) rfl rfl (Nat.le_of_ble_eq_true rfl) <| ?_
  rcases iteS e with ⟨g_3, e⟩ | ⟨g_3, e⟩
  · obtain ⟨g_4, e⟩ := grdS e
    obtain ⟨g_5, e⟩ := grdS e
    obtain ⟨h_6, eh_6, e⟩ := bndS e
    obtain ⟨rfl, rfl⟩ := some2 e
    exact s_if_eq_F 8 25 rfl (by decide) (b2i_T g_3) <| s_aload_n 9 rfl rfl <| s_getr 10 rfl fl_X8_38 sh_0 rfl <| s_iload_n 11 rfl rfl <| s_dup2 12 rfl rfl rfl <| s_iald (Int32.toNatClampNeg ((-1000001) - x1)) 13 rfl sh_61 g_4 rfl <| s_iconst 1 14 rfl (by decide) <| s_iadd 15 rfl <| s_iast (Int32.toNatClampNeg ((-1000001) - x1)) 16 rfl sh_61 g_5 rfl <| s_nmH (Option.some.inj eh_6) <| s_iload_n 17 rfl rfl <| s_iret 18 rfl
  · obtain ⟨rfl, rfl⟩ := some2 e
    exact s_if_eq_T 8 25 rfl (by decide) (b2i_F g_3) <| s_iload_n 17 rfl rfl <| s_iret 18 rfl
def fX8_name (x1 : Int32) (x2 : Int32) (h : Sto) : Option (Int32 × Sto) :=
  (fX8_isWithin x1 0 7 h).bind fun q_1 => if q_1 = true then ((fX8_isWithin x2 1 999 h).bind fun q_4 => if q_4 = true then (if (h 2 0) < 14 then ((fX1_add x1 x2 h).bind fun q_8 => some (q_8.1, q_8.2)) else ((fX8_tellFinding (-1000002) h).bind fun q_10 => some (q_10.1, q_10.2))) else ((fX8_tellFinding (-1000001) h).bind fun q_12 => some (q_12.1, q_12.2))) else ((fX8_tellFinding (-1000001) h).bind fun q_14 => some (q_14.1, q_14.2))
set_option maxRecDepth 100000 in
set_option maxHeartbeats 4000000 in
theorem okX8_name (d : Nat) (x1 : Int32) (x2 : Int32) (h : Sto) (qv : Int32) (qh : Sto) (e : fX8_name x1 x2 h = some (qv, qh)) : Ok yX8_name cX8_name 3 (some .int) (d + 2) [.ref 0, .int x1, .int x2] h (some (.int qv)) qh := by
  refine Ok_of (lst := kX8_name) (own := RX8) ⟨by decide, rfl⟩ ckX8_name trivial (Nat.le_of_ble_eq_true rfl) ?_
  unfold fX8_name at e
  change Ev kX8_name RX8 3 (d + 2) nox 0 [some (.ref 0), some (.int x1), some (.int x2)] [] h (some (.int qv)) qh
  obtain ⟨q_1, e_2, e⟩ := bndS e
  refine s_iload_n 0 rfl rfl <| s_iconst 0 1 rfl (by decide) <| s_bipush 7 2 rfl (by decide) <| s_callS 3 [.int x1, .int 0, .int 7] [] rfl ml_X8_65 yw_X8_isWithin (okX8_isWithin (d + 1) _ _ _ _ _ e_2) rfl rfl (Nat.le_of_ble_eq_true rfl) <| ?_
  rcases iteS e with ⟨g_3, e⟩ | ⟨g_3, e⟩
  · obtain ⟨q_4, e_5, e⟩ := bndS e
    refine s_if_eq_F 4 21 rfl (by decide) (b2i_T g_3) <| s_iload_n 5 rfl rfl <| s_iconst 1 6 rfl (by decide) <| s_sipush 999 7 rfl (by decide) <| s_callS 8 [.int x2, .int 1, .int 999] [] rfl ml_X8_65 yw_X8_isWithin (okX8_isWithin (d + 1) _ _ _ _ _ e_5) rfl rfl (Nat.le_of_ble_eq_true rfl) <| ?_
    rcases iteS e with ⟨g_6, e⟩ | ⟨g_6, e⟩
    · refine s_if_ne_T 9 28 rfl (by decide) (b2i_T g_6) <| s_aload_n 14 rfl rfl <| s_getr 15 rfl fl_X8_12 sh_0 rfl <| s_getr 16 rfl fl_X8_74 sh_1 rfl <| s_geti 17 rfl fl_X8_78 sh_2 rfl <| s_bipush 14 18 rfl (by decide) <| ?_
      rcases iteS e with ⟨g_7, e⟩ | ⟨g_7, e⟩
      · obtain ⟨q_8, e_9, e⟩ := bndS e
        obtain ⟨rfl, rfl⟩ := some2 e
        exact s_icmp_lt_T 19 50 rfl (by decide) g_7 <| s_aload_n 24 rfl rfl <| s_getr 25 rfl fl_X8_12 sh_0 rfl <| s_getr 26 rfl fl_X8_74 sh_1 rfl <| s_iload_n 27 rfl rfl <| s_iload_n 28 rfl rfl <| s_callV (b := 2) (ci := 1) 29 [.int x1, .int x2] [] rfl ml_X8_84 yw_X1_add sh_2 rfl rfl (okX1_add (d + 1) _ _ _ q_8.1 q_8.2 e_9) rfl rfl (Nat.le_of_ble_eq_true rfl) <| s_iret 30 rfl
      · obtain ⟨q_10, e_11, e⟩ := bndS e
        obtain ⟨rfl, rfl⟩ := some2 e
        exact s_icmp_lt_F 19 50 rfl (by decide) g_7 <| s_aload_n 20 rfl rfl <| s_ldc 21 rfl wc_X8_83 <| s_callV (b := 0) (ci := 8) 22 [.int (-1000002)] [] rfl ml_X8_70 yw_X8_tellFinding sh_0 rfl rfl (okX8_tellFinding d _ _ q_10.1 q_10.2 e_11) rfl rfl (Nat.le_of_ble_eq_true rfl) <| s_iret 23 rfl
    · obtain ⟨q_12, e_13, e⟩ := bndS e
      obtain ⟨rfl, rfl⟩ := some2 e
      exact s_if_ne_F 9 28 rfl (by decide) (b2i_F g_6) <| s_aload_n 10 rfl rfl <| s_ldc 11 rfl wc_X8_69 <| s_callV (b := 0) (ci := 8) 12 [.int (-1000001)] [] rfl ml_X8_70 yw_X8_tellFinding sh_0 rfl rfl (okX8_tellFinding d _ _ q_12.1 q_12.2 e_13) rfl rfl (Nat.le_of_ble_eq_true rfl) <| s_iret 13 rfl
  · obtain ⟨q_14, e_15, e⟩ := bndS e
    obtain ⟨rfl, rfl⟩ := some2 e
    exact s_if_eq_T 4 21 rfl (by decide) (b2i_F g_3) <| s_aload_n 10 rfl rfl <| s_ldc 11 rfl wc_X8_69 <| s_callV (b := 0) (ci := 8) 12 [.int (-1000001)] [] rfl ml_X8_70 yw_X8_tellFinding sh_0 rfl rfl (okX8_tellFinding d _ _ q_14.1 q_14.2 e_15) rfl rfl (Nat.le_of_ble_eq_true rfl) <| s_iret 13 rfl
def fX9_in (x0 : Int64) (x2 : Int64) (x4 : Int64) (h : Sto) : Option Bool :=
  if (lg_cmp x0 x2) < 0 then (some false) else (if 0 < (lg_cmp x0 x4) then (some false) else (some true))
set_option maxRecDepth 100000 in
set_option maxHeartbeats 4000000 in
theorem okX9_in (d : Nat) (x0 : Int64) (x2 : Int64) (x4 : Int64) (h : Sto) (q : Bool) (e : fX9_in x0 x2 x4 h = some q) : Ok yX9_in cX9_in 6 (some .boolean) d [.long x0, .long x2, .long x4] h (some (.int (b2i q))) h := by
  refine Ok_of (lst := kX9_in) (own := RX9) ⟨by decide, rfl⟩ ckX9_in (b2i_01 _) (Nat.le_of_ble_eq_true rfl) ?_
  unfold fX9_in at e
  change Ev kX9_in RX9 6 d nox 0 [some (.long x0), none, some (.long x2), none, some (.long x4), none] [] h (some (.int (b2i q))) h
  refine s_lload_n 0 rfl rfl <| s_lload_n 1 rfl rfl <| s_lcmp 2 rfl <| ?_
  rcases iteS e with ⟨g_1, e⟩ | ⟨g_1, e⟩
  · obtain rfl := Option.some.inj e
    exact s_if_lt_T 3 17 rfl (by decide) g_1 <| s_iconst 0 10 rfl (by decide) <| s_iret 11 rfl
  · refine s_if_lt_F 3 17 rfl (by decide) g_1 <| s_lload_n 4 rfl rfl <| s_lload 5 rfl rfl <| s_lcmp 6 rfl <| ?_
    rcases iteS e with ⟨g_2, e⟩ | ⟨g_2, e⟩
    · obtain rfl := Option.some.inj e
      exact s_if_gt_T 7 17 rfl (by decide) g_2 <| s_iconst 0 10 rfl (by decide) <| s_iret 11 rfl
    · obtain rfl := Option.some.inj e
      exact s_if_gt_F 7 17 rfl (by decide) g_2 <| s_iconst 1 8 rfl (by decide) <| s_goto 9 18 rfl (by decide) <| s_iret 11 rfl
def fX9_finds (x1 : Int32) (h : Sto) : Option (Int32 × Sto) :=
  grd (inb ((-1000001) - x1) 7) <| grd (inb ((-1000001) - x1) 7) <| (some (su h 86 (Int32.toNatClampNeg ((-1000001) - x1)) ((h 86 (Int32.toNatClampNeg ((-1000001) - x1))) + 1))).bind fun h_3 => some (x1, h_3)
set_option maxRecDepth 100000 in
set_option maxHeartbeats 4000000 in
theorem okX9_finds (d : Nat) (x1 : Int32) (h : Sto) (qv : Int32) (qh : Sto) (e : fX9_finds x1 h = some (qv, qh)) : Ok yX9_finds cX9_finds 2 (some .int) d [.ref 83, .int x1] h (some (.int qv)) qh := by
  refine Ok_of (lst := kX9_finds) (own := RX9) ⟨by decide, rfl⟩ ckX9_finds trivial (Nat.le_of_ble_eq_true rfl) ?_
  unfold fX9_finds at e
  change Ev kX9_finds RX9 2 d nox 0 [some (.ref 83), some (.int x1)] [] h (some (.int qv)) qh
  obtain ⟨g_1, e⟩ := grdS e
  obtain ⟨g_2, e⟩ := grdS e
  obtain ⟨h_3, eh_3, e⟩ := bndS e
  obtain ⟨rfl, rfl⟩ := some2 e
  exact s_aload_n 0 rfl rfl <| s_getr 1 rfl fl_X9_16 sh_83 rfl <| s_ldc 2 rfl wc_X9_47 <| s_iload_n 3 rfl rfl <| s_isub 4 rfl <| s_dup2 5 rfl rfl rfl <| s_iald (Int32.toNatClampNeg ((-1000001) - x1)) 6 rfl sh_86 g_1 rfl <| s_iconst 1 7 rfl (by decide) <| s_iadd 8 rfl <| s_iast (Int32.toNatClampNeg ((-1000001) - x1)) 9 rfl sh_86 g_2 rfl <| s_nmH (Option.some.inj eh_3) <| s_iload_n 10 rfl rfl <| s_iret 11 rfl
def fX9_name (x1 : Int32) (x2 : Int32) (h : Sto) : Option (Int32 × Sto) :=
  (fX9_in x1.toInt64 0 7 h).bind fun q_1 => if q_1 = true then ((fX9_in x2.toInt64 1 999 h).bind fun q_4 => if q_4 = true then (if ¬ (h 84 0) = 14 then (grd (inb (6 + (8 * (h 84 0))) 1214) <| (some (su h 84 (Int32.toNatClampNeg (6 + (8 * (h 84 0)))) x1)).bind fun h_9 => grd (inb ((6 + (8 * (h 84 0))) + 1) 1214) <| (some (su h_9 84 (Int32.toNatClampNeg ((6 + (8 * (h 84 0))) + 1)) x2)).bind fun h_11 => grd (inb ((6 + (8 * (h 84 0))) + 2) 1214) <| (some (su h_11 84 (Int32.toNatClampNeg ((6 + (8 * (h 84 0))) + 2)) 1023)).bind fun h_13 => grd (inb ((6 + (8 * (h 84 0))) + 3) 1214) <| (some (su h_13 84 (Int32.toNatClampNeg ((6 + (8 * (h 84 0))) + 3)) 0)).bind fun h_15 => grd (inb ((6 + (8 * (h 84 0))) + 4) 1214) <| (some (su h_15 84 (Int32.toNatClampNeg ((6 + (8 * (h 84 0))) + 4)) (-1))).bind fun h_17 => grd (inb ((6 + (8 * (h 84 0))) + 5) 1214) <| (some (su h_17 84 (Int32.toNatClampNeg ((6 + (8 * (h 84 0))) + 5)) 0)).bind fun h_19 => grd (inb ((6 + (8 * (h 84 0))) + 6) 1214) <| (some (su h_19 84 (Int32.toNatClampNeg ((6 + (8 * (h 84 0))) + 6)) 0)).bind fun h_21 => grd (inb ((6 + (8 * (h 84 0))) + 7) 1214) <| (some (su h_21 84 (Int32.toNatClampNeg ((6 + (8 * (h 84 0))) + 7)) 0)).bind fun h_23 => (some (su h_23 84 0 ((h_23 84 0) + 1))).bind fun h_24 => some ((h 84 0), h_24)) else ((fX9_finds (-1000002) h).bind fun q_25 => some (q_25.1, q_25.2))) else ((fX9_finds (-1000001) h).bind fun q_27 => some (q_27.1, q_27.2))) else ((fX9_finds (-1000001) h).bind fun q_29 => some (q_29.1, q_29.2))
set_option maxRecDepth 100000 in
set_option maxHeartbeats 4000000 in
theorem okX9_name (d : Nat) (x1 : Int32) (x2 : Int32) (h : Sto) (qv : Int32) (qh : Sto) (e : fX9_name x1 x2 h = some (qv, qh)) : Ok yX9_name cX9_name 5 (some .int) (d + 1) [.ref 83, .int x1, .int x2] h (some (.int qv)) qh := by
  refine Ok_of (lst := kX9_name) (own := RX9) ⟨by decide, rfl⟩ ckX9_name trivial (Nat.le_of_ble_eq_true rfl) ?_
  unfold fX9_name at e
  change Ev kX9_name RX9 5 (d + 1) nox 0 [some (.ref 83), some (.int x1), some (.int x2), none, none] [] h (some (.int qv)) qh
  obtain ⟨q_1, e_2, e⟩ := bndS e
  refine s_iload_n 0 rfl rfl <| s_i2l 1 rfl <| s_lconst 0 2 rfl (by decide) <| s_ldc2_w 3 rfl wc_X9_60 <| s_callS 4 [.long x1.toInt64, .long 0, .long 7] [] rfl ml_X9_48 yw_X9_in (okX9_in d _ _ _ _ _ e_2) rfl rfl (Nat.le_of_ble_eq_true rfl) <| ?_
  rcases iteS e with ⟨g_3, e⟩ | ⟨g_3, e⟩
  · obtain ⟨q_4, e_5, e⟩ := bndS e
    refine s_if_eq_F 5 24 rfl (by decide) (b2i_T g_3) <| s_iload_n 6 rfl rfl <| s_i2l 7 rfl <| s_lconst 1 8 rfl (by decide) <| s_ldc2_w 9 rfl wc_X9_62 <| s_callS 10 [.long x2.toInt64, .long 1, .long 999] [] rfl ml_X9_48 yw_X9_in (okX9_in d _ _ _ _ _ e_5) rfl rfl (Nat.le_of_ble_eq_true rfl) <| ?_
    rcases iteS e with ⟨g_6, e⟩ | ⟨g_6, e⟩
    · refine s_if_ne_T 11 31 rfl (by decide) (b2i_T g_6) <| s_aload_n 16 rfl rfl <| s_getr 17 rfl fl_X9_9 sh_83 rfl <| s_iconst 0 18 rfl (by decide) <| s_iald 0 19 rfl sh_84 (by decide) (by decide) <| s_istore_n [some (.ref 83), some (.int x1), some (.int x2), some (.int (h 84 0)), none] 20 rfl (by decide) rfl <| s_iload_n 21 rfl rfl <| s_bipush 14 22 rfl (by decide) <| ?_
      rcases iteS e with ⟨g_7, e⟩ | ⟨g_7, e⟩
      · obtain ⟨g_8, e⟩ := grdS e
        obtain ⟨h_9, eh_9, e⟩ := bndS e
        obtain ⟨g_10, e⟩ := grdS e
        obtain ⟨h_11, eh_11, e⟩ := bndS e
        obtain ⟨g_12, e⟩ := grdS e
        obtain ⟨h_13, eh_13, e⟩ := bndS e
        obtain ⟨g_14, e⟩ := grdS e
        obtain ⟨h_15, eh_15, e⟩ := bndS e
        obtain ⟨g_16, e⟩ := grdS e
        obtain ⟨h_17, eh_17, e⟩ := bndS e
        obtain ⟨g_18, e⟩ := grdS e
        obtain ⟨h_19, eh_19, e⟩ := bndS e
        obtain ⟨g_20, e⟩ := grdS e
        obtain ⟨h_21, eh_21, e⟩ := bndS e
        obtain ⟨g_22, e⟩ := grdS e
        obtain ⟨h_23, eh_23, e⟩ := bndS e
        obtain ⟨h_24, eh_24, e⟩ := bndS e
        obtain ⟨rfl, rfl⟩ := some2 e
        exact s_icmp_ne_T 23 51 rfl (by decide) g_7 <| s_bipush 6 28 rfl (by decide) <| s_bipush 8 29 rfl (by decide) <| s_iload_n 30 rfl rfl <| s_imul 31 rfl <| s_iadd 32 rfl <| s_istore [some (.ref 83), some (.int x1), some (.int x2), some (.int (h 84 0)), some (.int (6 + (8 * (h 84 0))))] 33 rfl (by decide) rfl <| s_aload_n 34 rfl rfl <| s_getr 35 rfl fl_X9_9 sh_83 rfl <| s_iload 36 rfl rfl <| s_iload_n 37 rfl rfl <| s_iast (Int32.toNatClampNeg (6 + (8 * (h 84 0)))) 38 rfl sh_84 g_8 rfl <| s_nmH (Option.some.inj eh_9) <| s_aload_n 39 rfl rfl <| s_getr 40 rfl fl_X9_9 sh_83 rfl <| s_iload 41 rfl rfl <| s_iconst 1 42 rfl (by decide) <| s_iadd 43 rfl <| s_iload_n 44 rfl rfl <| s_iast (Int32.toNatClampNeg ((6 + (8 * (h 84 0))) + 1)) 45 rfl sh_84 g_10 rfl <| s_nmH (Option.some.inj eh_11) <| s_aload_n 46 rfl rfl <| s_getr 47 rfl fl_X9_9 sh_83 rfl <| s_iload 48 rfl rfl <| s_iconst 2 49 rfl (by decide) <| s_iadd 50 rfl <| s_sipush 1023 51 rfl (by decide) <| s_iast (Int32.toNatClampNeg ((6 + (8 * (h 84 0))) + 2)) 52 rfl sh_84 g_12 rfl <| s_nmH (Option.some.inj eh_13) <| s_aload_n 53 rfl rfl <| s_getr 54 rfl fl_X9_9 sh_83 rfl <| s_iload 55 rfl rfl <| s_iconst 3 56 rfl (by decide) <| s_iadd 57 rfl <| s_iconst 0 58 rfl (by decide) <| s_iast (Int32.toNatClampNeg ((6 + (8 * (h 84 0))) + 3)) 59 rfl sh_84 g_14 rfl <| s_nmH (Option.some.inj eh_15) <| s_aload_n 60 rfl rfl <| s_getr 61 rfl fl_X9_9 sh_83 rfl <| s_iload 62 rfl rfl <| s_iconst 4 63 rfl (by decide) <| s_iadd 64 rfl <| s_iconst (-1) 65 rfl (by decide) <| s_iast (Int32.toNatClampNeg ((6 + (8 * (h 84 0))) + 4)) 66 rfl sh_84 g_16 rfl <| s_nmH (Option.some.inj eh_17) <| s_aload_n 67 rfl rfl <| s_getr 68 rfl fl_X9_9 sh_83 rfl <| s_iload 69 rfl rfl <| s_iconst 5 70 rfl (by decide) <| s_iadd 71 rfl <| s_iconst 0 72 rfl (by decide) <| s_iast (Int32.toNatClampNeg ((6 + (8 * (h 84 0))) + 5)) 73 rfl sh_84 g_18 rfl <| s_nmH (Option.some.inj eh_19) <| s_aload_n 74 rfl rfl <| s_getr 75 rfl fl_X9_9 sh_83 rfl <| s_iload 76 rfl rfl <| s_bipush 6 77 rfl (by decide) <| s_iadd 78 rfl <| s_iconst 0 79 rfl (by decide) <| s_iast (Int32.toNatClampNeg ((6 + (8 * (h 84 0))) + 6)) 80 rfl sh_84 g_20 rfl <| s_nmH (Option.some.inj eh_21) <| s_aload_n 81 rfl rfl <| s_getr 82 rfl fl_X9_9 sh_83 rfl <| s_iload 83 rfl rfl <| s_bipush 7 84 rfl (by decide) <| s_iadd 85 rfl <| s_iconst 0 86 rfl (by decide) <| s_iast (Int32.toNatClampNeg ((6 + (8 * (h 84 0))) + 7)) 87 rfl sh_84 g_22 rfl <| s_nmH (Option.some.inj eh_23) <| s_aload_n 88 rfl rfl <| s_getr 89 rfl fl_X9_9 sh_83 rfl <| s_iconst 0 90 rfl (by decide) <| s_dup2 91 rfl rfl rfl <| s_iald 0 92 rfl sh_84 (by decide) (by decide) <| s_iconst 1 93 rfl (by decide) <| s_iadd 94 rfl <| s_iast 0 95 rfl sh_84 (by decide) (by decide) <| s_nmH (Option.some.inj eh_24) <| s_iload_n 96 rfl rfl <| s_iret 97 rfl
      · obtain ⟨q_25, e_26, e⟩ := bndS e
        obtain ⟨rfl, rfl⟩ := some2 e
        exact s_icmp_ne_F 23 51 rfl (by decide) (Decidable.not_not.mp g_7) <| s_aload_n 24 rfl rfl <| s_ldc 25 rfl wc_X9_68 <| s_callV (b := 83) (ci := 9) 26 [.int (-1000002)] [] rfl ml_X9_64 yw_X9_finds sh_83 rfl rfl (okX9_finds d _ _ q_25.1 q_25.2 e_26) rfl rfl (Nat.le_of_ble_eq_true rfl) <| s_iret 27 rfl
    · obtain ⟨q_27, e_28, e⟩ := bndS e
      obtain ⟨rfl, rfl⟩ := some2 e
      exact s_if_ne_F 11 31 rfl (by decide) (b2i_F g_6) <| s_aload_n 12 rfl rfl <| s_ldc 13 rfl wc_X9_47 <| s_callV (b := 83) (ci := 9) 14 [.int (-1000001)] [] rfl ml_X9_64 yw_X9_finds sh_83 rfl rfl (okX9_finds d _ _ q_27.1 q_27.2 e_28) rfl rfl (Nat.le_of_ble_eq_true rfl) <| s_iret 15 rfl
  · obtain ⟨q_29, e_30, e⟩ := bndS e
    obtain ⟨rfl, rfl⟩ := some2 e
    exact s_if_eq_T 5 24 rfl (by decide) (b2i_F g_3) <| s_aload_n 12 rfl rfl <| s_ldc 13 rfl wc_X9_47 <| s_callV (b := 83) (ci := 9) 14 [.int (-1000001)] [] rfl ml_X9_64 yw_X9_finds sh_83 rfl rfl (okX9_finds d _ _ q_29.1 q_29.2 e_30) rfl rfl (Nat.le_of_ble_eq_true rfl) <| s_iret 15 rfl
def fX1_has (x1 : Int32) (h : Sto) : Option Bool :=
  (fX8_isWithin x1 0 ((h 2 0) - 1) h).bind fun q_1 => some q_1
set_option maxRecDepth 100000 in
set_option maxHeartbeats 4000000 in
theorem okX1_has (d : Nat) (x1 : Int32) (h : Sto) (q : Bool) (e : fX1_has x1 h = some q) : Ok yX1_has cX1_has 2 (some .boolean) (d + 1) [.ref 2, .int x1] h (some (.int (b2i q))) h := by
  refine Ok_of (lst := kX1_has) (own := RX1) ⟨by decide, rfl⟩ ckX1_has (b2i_01 _) (Nat.le_of_ble_eq_true rfl) ?_
  unfold fX1_has at e
  change Ev kX1_has RX1 2 (d + 1) nox 0 [some (.ref 2), some (.int x1)] [] h (some (.int (b2i q))) h
  obtain ⟨q_1, e_2, e⟩ := bndS e
  obtain rfl := Option.some.inj e
  exact s_iload_n 0 rfl rfl <| s_iconst 0 1 rfl (by decide) <| s_aload_n 2 rfl rfl <| s_geti 3 rfl fl_X1_16 sh_2 rfl <| s_iconst 1 4 rfl (by decide) <| s_isub 5 rfl <| s_callSN 6 [.int x1, .int 0, .int ((h 2 0) - 1)] [] rfl ml_X1_20 yw_X8_isWithin (okX8_isWithin d _ _ _ _ _ e_2) rfl rfl (Nat.le_of_ble_eq_true rfl) <| s_iret 7 rfl
def fX1_isOf_b12 (x2 : Int32) (h : Sto) (c3 : Int32) (c4 : Int32) : Option ((Int32 × Int32) ⊕ (Unit ⊕ Bool)) :=
  if 7 < c4 then (some (.inr (.inl ()))) else (if c3 < 0 then (some (.inr (.inl ()))) else (if ¬ c3 = x2 then (grd (inb c3 8) <| some (.inl ((kaF (Int32.toNatClampNeg c3)), (c4 + 1)))) else (some (.inr (.inr true)))))
def fX1_isOf (x1 : Int32) (x2 : Int32) (h : Sto) : Option Bool :=
  grd (inb x1 14) <| (lp (fun s => fX1_isOf_b12 x2 h s.1 s.2) FUEL ((h 4 (Int32.toNatClampNeg x1)), 0)).bind fun y_6 => Sum.elim (fun v_14 => some false) (fun z_15 => some z_15) y_6
set_option maxRecDepth 100000 in
set_option maxHeartbeats 4000000 in
theorem okX1_isOf (d : Nat) (x1 : Int32) (x2 : Int32) (h : Sto) (q : Bool) (e : fX1_isOf x1 x2 h = some q) : Ok yX1_isOf cX1_isOf 5 (some .boolean) d [.ref 2, .int x1, .int x2] h (some (.int (b2i q))) h := by
  refine Ok_of (lst := kX1_isOf) (own := RX1) ⟨by decide, rfl⟩ ckX1_isOf (b2i_01 _) (Nat.le_of_ble_eq_true rfl) ?_
  unfold fX1_isOf at e
  change Ev kX1_isOf RX1 5 d nox 0 [some (.ref 2), some (.int x1), some (.int x2), none, none] [] h (some (.int (b2i q))) h
  obtain ⟨g_1, e⟩ := grdS e
  obtain ⟨y_6, e_7, e⟩ := bndS e
  have kx_10 : ∀ v_14 : Unit, .inl v_14 = y_6 → Ev kX1_isOf RX1 5 d nox 42 [none, none, none, none, none] [] h (some (.int (b2i q))) h := by
    intro v_14 hy
    subst hy
    have e := elL e
    obtain rfl := Option.some.inj e
    exact s_iconst 0 25 rfl (by decide) <| s_iret 26 rfl
  have kz_11 : ∀ z_15 : Bool, .inr z_15 = y_6 → z_15 = q := by
    intro z_15 hy
    subst hy
    have e := elR e
    exact Option.some.inj e
  refine s_aload_n 0 rfl rfl <| s_getr 1 rfl fl_X1_11 sh_2 rfl <| s_iconst 0 2 rfl (by decide) <| s_aald2 4 3 rfl sh_3 (by decide) (by decide) <| s_iload_n 4 rfl rfl <| s_iald (Int32.toNatClampNeg x1) 5 rfl sh_4 g_1 rfl <| s_istore_n [some (.ref 2), some (.int x1), some (.int x2), some (.int (h 4 (Int32.toNatClampNeg x1))), none] 6 rfl (by decide) rfl <| s_iconst 0 7 rfl (by decide) <| s_istore [some (.ref 2), some (.int x1), some (.int x2), some (.int (h 4 (Int32.toNatClampNeg x1))), some (.int 0)] 8 rfl (by decide) rfl <| s_fgt [true, true] rfl <| lpS (P := fun (s_13 : (Int32 × Int32)) => Ev kX1_isOf RX1 5 d nox 12 [none, none, some (.int x2), some (.int s_13.1), some (.int s_13.2)] [] h (some (.int (b2i q))) h) ?_ FUEL _ e_7
  intro s_13 o_12 e hk_8 hx_9
  unfold fX1_isOf_b12 at e
  refine s_iload 9 rfl rfl <| s_bipush 7 10 rfl (by decide) <| ?_
  rcases iteS e with ⟨g_16, e⟩ | ⟨g_16, e⟩
  · cases e
    exact s_icmp_gt_T 11 42 rfl (by decide) g_16 <| s_fgt [false, false, true, true, true] rfl <| (kx_10 () (hx_9 _ rfl))
  · refine s_icmp_gt_F 11 42 rfl (by decide) g_16 <| s_iload_n 12 rfl rfl <| ?_
    rcases iteS e with ⟨g_17, e⟩ | ⟨g_17, e⟩
    · cases e
      exact s_if_lt_T 13 42 rfl (by decide) g_17 <| s_fgt [false, false, true, true, true] rfl <| (kx_10 () (hx_9 _ rfl))
    · refine s_if_lt_F 13 42 rfl (by decide) g_17 <| s_iload_n 14 rfl rfl <| s_iload_n 15 rfl rfl <| ?_
      rcases iteS e with ⟨g_18, e⟩ | ⟨g_18, e⟩
      · obtain ⟨g_19, e⟩ := grdS e
        cases e
        exact s_icmp_ne_T 16 30 rfl (by decide) g_18 <| s_getka 19 rfl wka_31 <| s_iload_n 20 rfl rfl <| s_iaka 21 rfl g_19 <| s_istore_n [none, none, some (.int x2), some (.int (kaF (Int32.toNatClampNeg s_13.1))), some (.int s_13.2)] 22 rfl (by decide) rfl <| s_iinc 1 [none, none, some (.int x2), some (.int (kaF (Int32.toNatClampNeg s_13.1))), some (.int (s_13.2 + 1))] 23 rfl (by decide) rfl (by decide) rfl <| s_goto 24 12 rfl (by decide) <| (hk_8 ((kaF (Int32.toNatClampNeg s_13.1)), (s_13.2 + 1)) rfl)
      · cases e
        have z0 := kz_11 _ (hx_9 _ rfl)
        subst z0
        exact s_icmp_ne_F 16 30 rfl (by decide) (Decidable.not_not.mp g_18) <| s_iconst 1 17 rfl (by decide) <| s_iret 18 rfl
def fX8_asInt (x0 : Int32) (h : Sto) : Option Int32 :=
  if x0 = 0 then (some 0) else (some 1)
set_option maxRecDepth 100000 in
set_option maxHeartbeats 4000000 in
theorem okX8_asInt (d : Nat) (x0 : Int32) (h : Sto) (q : Int32) (e : fX8_asInt x0 h = some q) : Ok yX8_asInt cX8_asInt 1 (some .int) d [.int x0] h (some (.int q)) h := by
  refine Ok_of (lst := kX8_asInt) (own := RX8) ⟨by decide, rfl⟩ ckX8_asInt trivial (Nat.le_of_ble_eq_true rfl) ?_
  unfold fX8_asInt at e
  change Ev kX8_asInt RX8 1 d nox 0 [some (.int x0)] [] h (some (.int q)) h
  refine s_iload_n 0 rfl rfl <| ?_
  rcases iteS e with ⟨g_1, e⟩ | ⟨g_1, e⟩
  · obtain rfl := Option.some.inj e
    exact s_if_eq_T 1 8 rfl (by decide) g_1 <| s_iconst 0 4 rfl (by decide) <| s_iret 5 rfl
  · obtain rfl := Option.some.inj e
    exact s_if_eq_F 1 8 rfl (by decide) g_1 <| s_iconst 1 2 rfl (by decide) <| s_goto 3 9 rfl (by decide) <| s_iret 5 rfl
def fX8_hasBit (x0 : Int32) (x1 : Int32) (h : Sto) : Option Bool :=
  if ((jush x0 x1) &&& 1) = 0 then (some false) else (some true)
set_option maxRecDepth 100000 in
set_option maxHeartbeats 4000000 in
theorem okX8_hasBit (d : Nat) (x0 : Int32) (x1 : Int32) (h : Sto) (q : Bool) (e : fX8_hasBit x0 x1 h = some q) : Ok yX8_hasBit cX8_hasBit 2 (some .boolean) d [.int x0, .int x1] h (some (.int (b2i q))) h := by
  refine Ok_of (lst := kX8_hasBit) (own := RX8) ⟨by decide, rfl⟩ ckX8_hasBit (b2i_01 _) (Nat.le_of_ble_eq_true rfl) ?_
  unfold fX8_hasBit at e
  change Ev kX8_hasBit RX8 2 d nox 0 [some (.int x0), some (.int x1)] [] h (some (.int (b2i q))) h
  refine s_iload_n 0 rfl rfl <| s_iload_n 1 rfl rfl <| s_iushr 2 rfl <| s_iconst 1 3 rfl (by decide) <| s_iand 4 rfl <| ?_
  rcases iteS e with ⟨g_1, e⟩ | ⟨g_1, e⟩
  · obtain rfl := Option.some.inj e
    exact s_if_eq_T 5 12 rfl (by decide) g_1 <| s_iconst 0 8 rfl (by decide) <| s_iret 9 rfl
  · obtain rfl := Option.some.inj e
    exact s_if_eq_F 5 12 rfl (by decide) g_1 <| s_iconst 1 6 rfl (by decide) <| s_goto 7 13 rfl (by decide) <| s_iret 9 rfl
def fX8_nameOf (x1 : Int32) (x2 : Int32) (h : Sto) : Option (Int32 × Sto) :=
  (fX1_has x1 h).bind fun q_1 => if q_1 = true then ((fX8_isWithin x2 0 7 h).bind fun q_4 => if q_4 = true then (if ¬ x2 = 6 then (if ¬ x2 = 7 then (grd (inb x2 6) <| grd (inb x1 14) <| some ((h (4 + (Int32.toNatClampNeg x2)) (Int32.toNatClampNeg x1)), h)) else ((fX1_isOf x1 1 h).bind fun q_11 => (fX8_asInt (b2i q_11) h).bind fun q_13 => some (q_13, h))) else ((fX8_hasBit (h 2 1) x1 h).bind fun q_15 => (fX8_asInt (b2i q_15) h).bind fun q_17 => some (q_17, h))) else ((fX8_tellFinding (-1000001) h).bind fun q_19 => some (q_19.1, q_19.2))) else ((fX8_tellFinding (-1000001) h).bind fun q_21 => some (q_21.1, q_21.2))
set_option maxRecDepth 100000 in
set_option maxHeartbeats 4000000 in
theorem okX8_nameOf (d : Nat) (x1 : Int32) (x2 : Int32) (h : Sto) (qv : Int32) (qh : Sto) (e : fX8_nameOf x1 x2 h = some (qv, qh)) : Ok yX8_nameOf cX8_nameOf 4 (some .int) (d + 2) [.ref 0, .int x1, .int x2] h (some (.int qv)) qh := by
  refine Ok_of (lst := kX8_nameOf) (own := RX8) ⟨by decide, rfl⟩ ckX8_nameOf trivial (Nat.le_of_ble_eq_true rfl) ?_
  unfold fX8_nameOf at e
  change Ev kX8_nameOf RX8 4 (d + 2) nox 0 [some (.ref 0), some (.int x1), some (.int x2), none] [] h (some (.int qv)) qh
  obtain ⟨q_1, e_2, e⟩ := bndS e
  refine s_aload_n 0 rfl rfl <| s_getr 1 rfl fl_X8_12 sh_0 rfl <| s_getr 2 rfl fl_X8_74 sh_1 rfl <| s_astore_n [some (.ref 0), some (.int x1), some (.int x2), some (.ref 2)] 3 rfl (by decide) rfl <| s_aload_n 4 rfl rfl <| s_iload_n 5 rfl rfl <| s_callV (b := 2) (ci := 1) 6 [.int x1] [] rfl ml_X8_88 yw_X1_has sh_2 rfl rfl (okX1_has d _ _ _ e_2) rfl rfl (Nat.le_of_ble_eq_true rfl) <| ?_
  rcases iteS e with ⟨g_3, e⟩ | ⟨g_3, e⟩
  · obtain ⟨q_4, e_5, e⟩ := bndS e
    refine s_if_eq_F 7 26 rfl (by decide) (b2i_T g_3) <| s_iload_n 8 rfl rfl <| s_iconst 0 9 rfl (by decide) <| s_bipush 7 10 rfl (by decide) <| s_callS 11 [.int x2, .int 0, .int 7] [] rfl ml_X8_65 yw_X8_isWithin (okX8_isWithin (d + 1) _ _ _ _ _ e_5) rfl rfl (Nat.le_of_ble_eq_true rfl) <| ?_
    rcases iteS e with ⟨g_6, e⟩ | ⟨g_6, e⟩
    · refine s_if_ne_T 12 33 rfl (by decide) (b2i_T g_6) <| s_iload_n 17 rfl rfl <| s_bipush 6 18 rfl (by decide) <| ?_
      rcases iteS e with ⟨g_7, e⟩ | ⟨g_7, e⟩
      · refine s_icmp_ne_T 19 51 rfl (by decide) g_7 <| s_iload_n 26 rfl rfl <| s_bipush 7 27 rfl (by decide) <| ?_
        rcases iteS e with ⟨g_8, e⟩ | ⟨g_8, e⟩
        · obtain ⟨g_9, e⟩ := grdS e
          obtain ⟨g_10, e⟩ := grdS e
          obtain ⟨rfl, rfl⟩ := some2 e
          exact s_icmp_ne_T 28 67 rfl (by decide) g_8 <| s_aload_n 35 rfl rfl <| s_getr 36 rfl fl_X8_106 sh_2 rfl <| s_iload_n 37 rfl rfl <| s_aald2 (4 + (Int32.toNatClampNeg x2)) 38 rfl sh_3 rfl g_9 <| s_iload_n 39 rfl rfl <| s_iald (Int32.toNatClampNeg x1) 40 rfl (srw_4 _ (inb_lt g_9)) g_10 rfl <| s_iret 41 rfl
        · obtain ⟨q_11, e_12, e⟩ := bndS e
          obtain ⟨q_13, e_14, e⟩ := bndS e
          obtain ⟨rfl, rfl⟩ := some2 e
          exact s_icmp_ne_F 28 67 rfl (by decide) (Decidable.not_not.mp g_8) <| s_aload_n 29 rfl rfl <| s_iload_n 30 rfl rfl <| s_iconst 1 31 rfl (by decide) <| s_callV (b := 2) (ci := 1) 32 [.int x1, .int 1] [] rfl ml_X8_103 yw_X1_isOf sh_2 rfl rfl (okX1_isOf (d + 1) _ _ _ _ e_12) rfl rfl (Nat.le_of_ble_eq_true rfl) <| s_callS 33 [.int (b2i q_11)] [] rfl ml_X8_99 yw_X8_asInt (okX8_asInt (d + 1) _ _ _ e_14) rfl rfl (Nat.le_of_ble_eq_true rfl) <| s_iret 34 rfl
      · obtain ⟨q_15, e_16, e⟩ := bndS e
        obtain ⟨q_17, e_18, e⟩ := bndS e
        obtain ⟨rfl, rfl⟩ := some2 e
        exact s_icmp_ne_F 19 51 rfl (by decide) (Decidable.not_not.mp g_7) <| s_aload_n 20 rfl rfl <| s_geti 21 rfl fl_X8_92 sh_2 rfl <| s_iload_n 22 rfl rfl <| s_callS 23 [.int (h 2 1), .int x1] [] rfl ml_X8_95 yw_X8_hasBit (okX8_hasBit (d + 1) _ _ _ _ e_16) rfl rfl (Nat.le_of_ble_eq_true rfl) <| s_callS 24 [.int (b2i q_15)] [] rfl ml_X8_99 yw_X8_asInt (okX8_asInt (d + 1) _ _ _ e_18) rfl rfl (Nat.le_of_ble_eq_true rfl) <| s_iret 25 rfl
    · obtain ⟨q_19, e_20, e⟩ := bndS e
      obtain ⟨rfl, rfl⟩ := some2 e
      exact s_if_ne_F 12 33 rfl (by decide) (b2i_F g_6) <| s_aload_n 13 rfl rfl <| s_ldc 14 rfl wc_X8_69 <| s_callV (b := 0) (ci := 8) 15 [.int (-1000001)] [] rfl ml_X8_70 yw_X8_tellFinding sh_0 rfl rfl (okX8_tellFinding d _ _ q_19.1 q_19.2 e_20) rfl rfl (Nat.le_of_ble_eq_true rfl) <| s_iret 16 rfl
  · obtain ⟨q_21, e_22, e⟩ := bndS e
    obtain ⟨rfl, rfl⟩ := some2 e
    exact s_if_eq_T 7 26 rfl (by decide) (b2i_F g_3) <| s_aload_n 13 rfl rfl <| s_ldc 14 rfl wc_X8_69 <| s_callV (b := 0) (ci := 8) 15 [.int (-1000001)] [] rfl ml_X8_70 yw_X8_tellFinding sh_0 rfl rfl (okX8_tellFinding d _ _ q_21.1 q_21.2 e_22) rfl rfl (Nat.le_of_ble_eq_true rfl) <| s_iret 16 rfl
def fX9_isName (x1 : Int32) (h : Sto) : Option Bool :=
  (fX9_in x1.toInt64 0 (((h 84 0) - 1).toInt64) h).bind fun q_1 => some q_1
set_option maxRecDepth 100000 in
set_option maxHeartbeats 4000000 in
theorem okX9_isName (d : Nat) (x1 : Int32) (h : Sto) (q : Bool) (e : fX9_isName x1 h = some q) : Ok yX9_isName cX9_isName 2 (some .boolean) (d + 1) [.ref 83, .int x1] h (some (.int (b2i q))) h := by
  refine Ok_of (lst := kX9_isName) (own := RX9) ⟨by decide, rfl⟩ ckX9_isName (b2i_01 _) (Nat.le_of_ble_eq_true rfl) ?_
  unfold fX9_isName at e
  change Ev kX9_isName RX9 2 (d + 1) nox 0 [some (.ref 83), some (.int x1)] [] h (some (.int (b2i q))) h
  obtain ⟨q_1, e_2, e⟩ := bndS e
  obtain rfl := Option.some.inj e
  exact s_iload_n 0 rfl rfl <| s_i2l 1 rfl <| s_lconst 0 2 rfl (by decide) <| s_aload_n 3 rfl rfl <| s_getr 4 rfl fl_X9_9 sh_83 rfl <| s_iconst 0 5 rfl (by decide) <| s_iald 0 6 rfl sh_84 (by decide) (by decide) <| s_iconst 1 7 rfl (by decide) <| s_isub 8 rfl <| s_i2l 9 rfl <| s_callS 10 [.long x1.toInt64, .long 0, .long (((h 84 0) - 1).toInt64)] [] rfl ml_X9_48 yw_X9_in (okX9_in d _ _ _ _ _ e_2) rfl rfl (Nat.le_of_ble_eq_true rfl) <| s_iret 11 rfl
def fX9_of (x1 : Int32) (x2 : Int32) (h : Sto) : Option Int32 :=
  grd (inb ((6 + (8 * x1)) + x2) 1214) <| some (h 84 (Int32.toNatClampNeg ((6 + (8 * x1)) + x2)))
set_option maxRecDepth 100000 in
set_option maxHeartbeats 4000000 in
theorem okX9_of (d : Nat) (x1 : Int32) (x2 : Int32) (h : Sto) (q : Int32) (e : fX9_of x1 x2 h = some q) : Ok yX9_of cX9_of 3 (some .int) d [.ref 83, .int x1, .int x2] h (some (.int q)) h := by
  refine Ok_of (lst := kX9_of) (own := RX9) ⟨by decide, rfl⟩ ckX9_of trivial (Nat.le_of_ble_eq_true rfl) ?_
  unfold fX9_of at e
  change Ev kX9_of RX9 3 d nox 0 [some (.ref 83), some (.int x1), some (.int x2)] [] h (some (.int q)) h
  obtain ⟨g_1, e⟩ := grdS e
  obtain rfl := Option.some.inj e
  exact s_aload_n 0 rfl rfl <| s_getr 1 rfl fl_X9_9 sh_83 rfl <| s_bipush 6 2 rfl (by decide) <| s_bipush 8 3 rfl (by decide) <| s_iload_n 4 rfl rfl <| s_imul 5 rfl <| s_iadd 6 rfl <| s_iload_n 7 rfl rfl <| s_iadd 8 rfl <| s_iald (Int32.toNatClampNeg ((6 + (8 * x1)) + x2)) 9 rfl sh_84 g_1 rfl <| s_iret 10 rfl
def fX9_isPerson (x1 : Int32) (h : Sto) : Option Bool :=
  (fX9_of x1 0 h).bind fun q_1 => if q_1 = 1 then (some true) else (if q_1 = 3 then (some true) else (if ¬ q_1 = 6 then (some false) else (some true)))
set_option maxRecDepth 100000 in
set_option maxHeartbeats 4000000 in
theorem okX9_isPerson (d : Nat) (x1 : Int32) (h : Sto) (q : Bool) (e : fX9_isPerson x1 h = some q) : Ok yX9_isPerson cX9_isPerson 3 (some .boolean) (d + 1) [.ref 83, .int x1] h (some (.int (b2i q))) h := by
  refine Ok_of (lst := kX9_isPerson) (own := RX9) ⟨by decide, rfl⟩ ckX9_isPerson (b2i_01 _) (Nat.le_of_ble_eq_true rfl) ?_
  unfold fX9_isPerson at e
  change Ev kX9_isPerson RX9 3 (d + 1) nox 0 [some (.ref 83), some (.int x1), none] [] h (some (.int (b2i q))) h
  obtain ⟨q_1, e_2, e⟩ := bndS e
  refine s_aload_n 0 rfl rfl <| s_iload_n 1 rfl rfl <| s_iconst 0 2 rfl (by decide) <| s_callV (b := 83) (ci := 9) 3 [.int x1, .int 0] [] rfl ml_X9_69 yw_X9_of sh_83 rfl rfl (okX9_of d _ _ _ _ e_2) rfl rfl (Nat.le_of_ble_eq_true rfl) <| s_istore_n [some (.ref 83), some (.int x1), some (.int q_1)] 4 rfl (by decide) rfl <| s_iload_n 5 rfl rfl <| s_iconst 1 6 rfl (by decide) <| ?_
  rcases iteS e with ⟨g_3, e⟩ | ⟨g_3, e⟩
  · obtain rfl := Option.some.inj e
    exact s_icmp_eq_T 7 23 rfl (by decide) g_3 <| s_iconst 1 14 rfl (by decide) <| s_goto 15 28 rfl (by decide) <| s_iret 17 rfl
  · refine s_icmp_eq_F 7 23 rfl (by decide) g_3 <| s_iload_n 8 rfl rfl <| s_iconst 3 9 rfl (by decide) <| ?_
    rcases iteS e with ⟨g_4, e⟩ | ⟨g_4, e⟩
    · obtain rfl := Option.some.inj e
      exact s_icmp_eq_T 10 23 rfl (by decide) g_4 <| s_iconst 1 14 rfl (by decide) <| s_goto 15 28 rfl (by decide) <| s_iret 17 rfl
    · refine s_icmp_eq_F 10 23 rfl (by decide) g_4 <| s_iload_n 11 rfl rfl <| s_bipush 6 12 rfl (by decide) <| ?_
      rcases iteS e with ⟨g_5, e⟩ | ⟨g_5, e⟩
      · obtain rfl := Option.some.inj e
        exact s_icmp_ne_T 13 27 rfl (by decide) g_5 <| s_iconst 0 16 rfl (by decide) <| s_iret 17 rfl
      · obtain rfl := Option.some.inj e
        exact s_icmp_ne_F 13 27 rfl (by decide) (Decidable.not_not.mp g_5) <| s_iconst 1 14 rfl (by decide) <| s_goto 15 28 rfl (by decide) <| s_iret 17 rfl
def fX9_nameOf (x1 : Int32) (x2 : Int32) (h : Sto) : Option (Int32 × Sto) :=
  (fX9_isName x1 h).bind fun q_1 => if q_1 = true then ((fX9_in x2.toInt64 0 7 h).bind fun q_4 => if q_4 = true then (if 7 ≤ x2 then ((fX9_isPerson x1 h).bind fun q_8 => if q_8 = true then (some (1, h)) else (some (0, h))) else ((fX9_of x1 x2 h).bind fun q_11 => some (q_11, h))) else ((fX9_finds (-1000001) h).bind fun q_13 => some (q_13.1, q_13.2))) else ((fX9_finds (-1000001) h).bind fun q_15 => some (q_15.1, q_15.2))
set_option maxRecDepth 100000 in
set_option maxHeartbeats 4000000 in
theorem okX9_nameOf (d : Nat) (x1 : Int32) (x2 : Int32) (h : Sto) (qv : Int32) (qh : Sto) (e : fX9_nameOf x1 x2 h = some (qv, qh)) : Ok yX9_nameOf cX9_nameOf 3 (some .int) (d + 2) [.ref 83, .int x1, .int x2] h (some (.int qv)) qh := by
  refine Ok_of (lst := kX9_nameOf) (own := RX9) ⟨by decide, rfl⟩ ckX9_nameOf trivial (Nat.le_of_ble_eq_true rfl) ?_
  unfold fX9_nameOf at e
  change Ev kX9_nameOf RX9 3 (d + 2) nox 0 [some (.ref 83), some (.int x1), some (.int x2)] [] h (some (.int qv)) qh
  obtain ⟨q_1, e_2, e⟩ := bndS e
  refine s_aload_n 0 rfl rfl <| s_iload_n 1 rfl rfl <| s_callV (b := 83) (ci := 9) 2 [.int x1] [] rfl ml_X9_73 yw_X9_isName sh_83 rfl rfl (okX9_isName d _ _ _ e_2) rfl rfl (Nat.le_of_ble_eq_true rfl) <| ?_
  rcases iteS e with ⟨g_3, e⟩ | ⟨g_3, e⟩
  · obtain ⟨q_4, e_5, e⟩ := bndS e
    refine s_if_eq_F 3 20 rfl (by decide) (b2i_T g_3) <| s_iload_n 4 rfl rfl <| s_i2l 5 rfl <| s_lconst 0 6 rfl (by decide) <| s_ldc2_w 7 rfl wc_X9_60 <| s_callS 8 [.long x2.toInt64, .long 0, .long 7] [] rfl ml_X9_48 yw_X9_in (okX9_in (d + 1) _ _ _ _ _ e_5) rfl rfl (Nat.le_of_ble_eq_true rfl) <| ?_
    rcases iteS e with ⟨g_6, e⟩ | ⟨g_6, e⟩
    · refine s_if_ne_T 9 27 rfl (by decide) (b2i_T g_6) <| s_iload_n 14 rfl rfl <| s_bipush 7 15 rfl (by decide) <| ?_
      rcases iteS e with ⟨g_7, e⟩ | ⟨g_7, e⟩
      · obtain ⟨q_8, e_9, e⟩ := bndS e
        refine s_icmp_ge_T 16 42 rfl (by decide) g_7 <| s_aload_n 22 rfl rfl <| s_iload_n 23 rfl rfl <| s_callV (b := 83) (ci := 9) 24 [.int x1] [] rfl ml_X9_77 yw_X9_isPerson sh_83 rfl rfl (okX9_isPerson d _ _ _ e_9) rfl rfl (Nat.le_of_ble_eq_true rfl) <| ?_
        rcases iteS e with ⟨g_10, e⟩ | ⟨g_10, e⟩
        · obtain ⟨rfl, rfl⟩ := some2 e
          exact s_if_eq_F 25 54 rfl (by decide) (b2i_T g_10) <| s_iconst 1 26 rfl (by decide) <| s_goto 27 55 rfl (by decide) <| s_iret 29 rfl
        · obtain ⟨rfl, rfl⟩ := some2 e
          exact s_if_eq_T 25 54 rfl (by decide) (b2i_F g_10) <| s_iconst 0 28 rfl (by decide) <| s_iret 29 rfl
      · obtain ⟨q_11, e_12, e⟩ := bndS e
        obtain ⟨rfl, rfl⟩ := some2 e
        exact s_icmp_ge_F 16 42 rfl (by decide) g_7 <| s_aload_n 17 rfl rfl <| s_iload_n 18 rfl rfl <| s_iload_n 19 rfl rfl <| s_callV (b := 83) (ci := 9) 20 [.int x1, .int x2] [] rfl ml_X9_69 yw_X9_of sh_83 rfl rfl (okX9_of (d + 1) _ _ _ _ e_12) rfl rfl (Nat.le_of_ble_eq_true rfl) <| s_goto 21 55 rfl (by decide) <| s_iret 29 rfl
    · obtain ⟨q_13, e_14, e⟩ := bndS e
      obtain ⟨rfl, rfl⟩ := some2 e
      exact s_if_ne_F 9 27 rfl (by decide) (b2i_F g_6) <| s_aload_n 10 rfl rfl <| s_ldc 11 rfl wc_X9_47 <| s_callV (b := 83) (ci := 9) 12 [.int (-1000001)] [] rfl ml_X9_64 yw_X9_finds sh_83 rfl rfl (okX9_finds (d + 1) _ _ q_13.1 q_13.2 e_14) rfl rfl (Nat.le_of_ble_eq_true rfl) <| s_iret 13 rfl
  · obtain ⟨q_15, e_16, e⟩ := bndS e
    obtain ⟨rfl, rfl⟩ := some2 e
    exact s_if_eq_T 3 20 rfl (by decide) (b2i_F g_3) <| s_aload_n 10 rfl rfl <| s_ldc 11 rfl wc_X9_47 <| s_callV (b := 83) (ci := 9) 12 [.int (-1000001)] [] rfl ml_X9_64 yw_X9_finds sh_83 rfl rfl (okX9_finds (d + 1) _ _ q_15.1 q_15.2 e_16) rfl rfl (Nat.le_of_ble_eq_true rfl) <| s_iret 13 rfl
def fX8_isTopic (x0 : Int32) (h : Sto) : Option Bool :=
  (fX8_isWithin x0 0 9 h).bind fun q_1 => some q_1
set_option maxRecDepth 100000 in
set_option maxHeartbeats 4000000 in
theorem okX8_isTopic (d : Nat) (x0 : Int32) (h : Sto) (q : Bool) (e : fX8_isTopic x0 h = some q) : Ok yX8_isTopic cX8_isTopic 1 (some .boolean) (d + 1) [.int x0] h (some (.int (b2i q))) h := by
  refine Ok_of (lst := kX8_isTopic) (own := RX8) ⟨by decide, rfl⟩ ckX8_isTopic (b2i_01 _) (Nat.le_of_ble_eq_true rfl) ?_
  unfold fX8_isTopic at e
  change Ev kX8_isTopic RX8 1 (d + 1) nox 0 [some (.int x0)] [] h (some (.int (b2i q))) h
  obtain ⟨q_1, e_2, e⟩ := bndS e
  obtain rfl := Option.some.inj e
  exact s_iload_n 0 rfl rfl <| s_iconst 0 1 rfl (by decide) <| s_bipush 9 2 rfl (by decide) <| s_callS 3 [.int x0, .int 0, .int 9] [] rfl ml_X8_65 yw_X8_isWithin (okX8_isWithin d _ _ _ _ _ e_2) rfl rfl (Nat.le_of_ble_eq_true rfl) <| s_iret 4 rfl
def fX1_allows (x1 : Int32) (x2 : Int32) (x3 : Int32) (h : Sto) : Option Bool :=
  if x2 < 1 ∨ 5 < x2 then (some false) else if x2 = 1 then ((fX8_isWithin x3 1 999 h).bind fun q_3 => some q_3) else if x2 = 2 then ((fX8_isWithin x3 1 1023 h).bind fun q_6 => some q_6) else if x2 = 3 then ((fX8_isWithin x3 0 99 h).bind fun q_9 => some q_9) else if x2 = 4 then (if x3 = (-1) then (some true) else ((fX1_has x3 h).bind fun q_13 => if q_13 = true then (if x3 = x1 then (some false) else (some true)) else (some false))) else if x2 = 5 then ((fX8_isTopic x3 h).bind fun q_18 => some q_18) else none
set_option maxRecDepth 100000 in
set_option maxHeartbeats 4000000 in
theorem okX1_allows (d : Nat) (x1 : Int32) (x2 : Int32) (x3 : Int32) (h : Sto) (q : Bool) (e : fX1_allows x1 x2 x3 h = some q) : Ok yX1_allows cX1_allows 4 (some .boolean) (d + 2) [.ref 2, .int x1, .int x2, .int x3] h (some (.int (b2i q))) h := by
  refine Ok_of (lst := kX1_allows) (own := RX1) ⟨by decide, rfl⟩ ckX1_allows (b2i_01 _) (Nat.le_of_ble_eq_true rfl) ?_
  unfold fX1_allows at e
  change Ev kX1_allows RX1 4 (d + 2) nox 0 [some (.ref 2), some (.int x1), some (.int x2), some (.int x3)] [] h (some (.int (b2i q))) h
  refine s_iload_n 0 rfl rfl <| ?_
  rcases iteS e with ⟨g_1, e⟩ | ⟨g_1, e⟩
  · obtain rfl := Option.some.inj e
    exact s_swOut 1 5 1 91 rfl g_1 (by decide) <| s_iconst 0 34 rfl (by decide) <| s_iret 35 rfl
  rcases iteS e with ⟨g_2, e⟩ | ⟨g_2, e⟩
  · obtain ⟨q_3, e_4, e⟩ := bndS e
    obtain rfl := Option.some.inj e
    exact s_swIn (off := 35) 1 1 36 rfl g_2 (by decide) <| s_iload_n 2 rfl rfl <| s_iconst 1 3 rfl (by decide) <| s_sipush 999 4 rfl (by decide) <| s_callSN 5 [.int x3, .int 1, .int 999] [] rfl ml_X1_20 yw_X8_isWithin (okX8_isWithin (d + 1) _ _ _ _ _ e_4) rfl rfl (Nat.le_of_ble_eq_true rfl) <| s_iret 6 rfl
  rcases iteS e with ⟨g_5, e⟩ | ⟨g_5, e⟩
  · obtain ⟨q_6, e_7, e⟩ := bndS e
    obtain rfl := Option.some.inj e
    exact s_swIn (off := 44) 2 1 45 rfl g_5 (by decide) <| s_iload_n 7 rfl rfl <| s_iconst 1 8 rfl (by decide) <| s_sipush 1023 9 rfl (by decide) <| s_callSN 10 [.int x3, .int 1, .int 1023] [] rfl ml_X1_20 yw_X8_isWithin (okX8_isWithin (d + 1) _ _ _ _ _ e_7) rfl rfl (Nat.le_of_ble_eq_true rfl) <| s_iret 11 rfl
  rcases iteS e with ⟨g_8, e⟩ | ⟨g_8, e⟩
  · obtain ⟨q_9, e_10, e⟩ := bndS e
    obtain rfl := Option.some.inj e
    exact s_swIn (off := 53) 3 1 54 rfl g_8 (by decide) <| s_iload_n 12 rfl rfl <| s_iconst 0 13 rfl (by decide) <| s_bipush 99 14 rfl (by decide) <| s_callSN 15 [.int x3, .int 0, .int 99] [] rfl ml_X1_20 yw_X8_isWithin (okX8_isWithin (d + 1) _ _ _ _ _ e_10) rfl rfl (Nat.le_of_ble_eq_true rfl) <| s_iret 16 rfl
  rcases iteS e with ⟨g_11, e⟩ | ⟨g_11, e⟩
  · refine s_swIn (off := 61) 4 1 62 rfl g_11 (by decide) <| s_iload_n 17 rfl rfl <| s_iconst (-1) 18 rfl (by decide) <| ?_
    rcases iteS e with ⟨g_12, e⟩ | ⟨g_12, e⟩
    · obtain rfl := Option.some.inj e
      exact s_icmp_eq_T 19 80 rfl (by decide) g_12 <| s_iconst 1 27 rfl (by decide) <| s_goto 28 85 rfl (by decide) <| s_iret 30 rfl
    · obtain ⟨q_13, e_14, e⟩ := bndS e
      refine s_icmp_eq_F 19 80 rfl (by decide) g_12 <| s_aload_n 20 rfl rfl <| s_iload_n 21 rfl rfl <| s_callV (b := 2) (ci := 1) 22 [.int x3] [] rfl ml_X1_24 yw_X1_has sh_2 rfl rfl (okX1_has d _ _ _ e_14) rfl rfl (Nat.le_of_ble_eq_true rfl) <| ?_
      rcases iteS e with ⟨g_15, e⟩ | ⟨g_15, e⟩
      · refine s_if_eq_F 23 84 rfl (by decide) (b2i_T g_15) <| s_iload_n 24 rfl rfl <| s_iload_n 25 rfl rfl <| ?_
        rcases iteS e with ⟨g_16, e⟩ | ⟨g_16, e⟩
        · obtain rfl := Option.some.inj e
          exact s_icmp_eq_T 26 84 rfl (by decide) g_16 <| s_iconst 0 29 rfl (by decide) <| s_iret 30 rfl
        · obtain rfl := Option.some.inj e
          exact s_icmp_eq_F 26 84 rfl (by decide) g_16 <| s_iconst 1 27 rfl (by decide) <| s_goto 28 85 rfl (by decide) <| s_iret 30 rfl
      · obtain rfl := Option.some.inj e
        exact s_if_eq_T 23 84 rfl (by decide) (b2i_F g_15) <| s_iconst 0 29 rfl (by decide) <| s_iret 30 rfl
  rcases iteS e with ⟨g_17, e⟩ | ⟨g_17, e⟩
  · obtain ⟨q_18, e_19, e⟩ := bndS e
    obtain rfl := Option.some.inj e
    exact s_swIn (off := 85) 5 1 86 rfl g_17 (by decide) <| s_iload_n 31 rfl rfl <| s_callSN 32 [.int x3] [] rfl ml_X1_28 yw_X8_isTopic (okX8_isTopic d _ _ _ e_19) rfl rfl (Nat.le_of_ble_eq_true rfl) <| s_iret 33 rfl
  cases e
def fX8_change (x1 : Int32) (x2 : Int32) (x3 : Int32) (h : Sto) : Option (Int32 × Sto) :=
  (fX1_has x1 h).bind fun q_1 => if q_1 = true then ((fX1_allows x1 x2 x3 h).bind fun q_4 => if q_4 = true then (grd (inb x2 6) <| grd (inb x1 14) <| grd (inb x2 6) <| grd (inb x1 14) <| (some (su h (4 + (Int32.toNatClampNeg x2)) (Int32.toNatClampNeg x1) x3)).bind fun h_11 => some ((h (4 + (Int32.toNatClampNeg x2)) (Int32.toNatClampNeg x1)), h_11)) else ((fX8_tellFinding (-1000001) h).bind fun q_12 => some (q_12.1, q_12.2))) else ((fX8_tellFinding (-1000001) h).bind fun q_14 => some (q_14.1, q_14.2))
set_option maxRecDepth 100000 in
set_option maxHeartbeats 4000000 in
theorem okX8_change (d : Nat) (x1 : Int32) (x2 : Int32) (x3 : Int32) (h : Sto) (qv : Int32) (qh : Sto) (e : fX8_change x1 x2 x3 h = some (qv, qh)) : Ok yX8_change cX8_change 6 (some .int) (d + 3) [.ref 0, .int x1, .int x2, .int x3] h (some (.int qv)) qh := by
  refine Ok_of (lst := kX8_change) (own := RX8) ⟨by decide, rfl⟩ ckX8_change trivial (Nat.le_of_ble_eq_true rfl) ?_
  unfold fX8_change at e
  change Ev kX8_change RX8 6 (d + 3) nox 0 [some (.ref 0), some (.int x1), some (.int x2), some (.int x3), none, none] [] h (some (.int qv)) qh
  obtain ⟨q_1, e_2, e⟩ := bndS e
  refine s_aload_n 0 rfl rfl <| s_getr 1 rfl fl_X8_12 sh_0 rfl <| s_getr 2 rfl fl_X8_74 sh_1 rfl <| s_astore [some (.ref 0), some (.int x1), some (.int x2), some (.int x3), some (.ref 2), none] 3 rfl (by decide) rfl <| s_aload 4 rfl rfl <| s_iload_n 5 rfl rfl <| s_callV (b := 2) (ci := 1) 6 [.int x1] [] rfl ml_X8_88 yw_X1_has sh_2 rfl rfl (okX1_has (d + 1) _ _ _ e_2) rfl rfl (Nat.le_of_ble_eq_true rfl) <| ?_
  rcases iteS e with ⟨g_3, e⟩ | ⟨g_3, e⟩
  · obtain ⟨q_4, e_5, e⟩ := bndS e
    refine s_if_eq_F 7 29 rfl (by decide) (b2i_T g_3) <| s_aload 8 rfl rfl <| s_iload_n 9 rfl rfl <| s_iload_n 10 rfl rfl <| s_iload_n 11 rfl rfl <| s_callV (b := 2) (ci := 1) 12 [.int x1, .int x2, .int x3] [] rfl ml_X8_110 yw_X1_allows sh_2 rfl rfl (okX1_allows d _ _ _ _ _ e_5) rfl rfl (Nat.le_of_ble_eq_true rfl) <| ?_
    rcases iteS e with ⟨g_6, e⟩ | ⟨g_6, e⟩
    · obtain ⟨g_7, e⟩ := grdS e
      obtain ⟨g_8, e⟩ := grdS e
      obtain ⟨g_9, e⟩ := grdS e
      obtain ⟨g_10, e⟩ := grdS e
      obtain ⟨h_11, eh_11, e⟩ := bndS e
      obtain ⟨rfl, rfl⟩ := some2 e
      exact s_if_ne_T 13 36 rfl (by decide) (b2i_T g_6) <| s_aload 18 rfl rfl <| s_getr 19 rfl fl_X8_106 sh_2 rfl <| s_iload_n 20 rfl rfl <| s_aald2 (4 + (Int32.toNatClampNeg x2)) 21 rfl sh_3 rfl g_7 <| s_iload_n 22 rfl rfl <| s_iald (Int32.toNatClampNeg x1) 23 rfl (srw_4 _ (inb_lt g_7)) g_8 rfl <| s_istore [some (.ref 0), some (.int x1), some (.int x2), some (.int x3), some (.ref 2), some (.int (h (4 + (Int32.toNatClampNeg x2)) (Int32.toNatClampNeg x1)))] 24 rfl (by decide) rfl <| s_aload 25 rfl rfl <| s_getr 26 rfl fl_X8_106 sh_2 rfl <| s_iload_n 27 rfl rfl <| s_aald2 (4 + (Int32.toNatClampNeg x2)) 28 rfl sh_3 rfl g_9 <| s_iload_n 29 rfl rfl <| s_iload_n 30 rfl rfl <| s_iast (Int32.toNatClampNeg x1) 31 rfl (srw_4 _ (inb_lt g_9)) g_10 rfl <| s_nmH (Option.some.inj eh_11) <| s_iload 32 rfl rfl <| s_iret 33 rfl
    · obtain ⟨q_12, e_13, e⟩ := bndS e
      obtain ⟨rfl, rfl⟩ := some2 e
      exact s_if_ne_F 13 36 rfl (by decide) (b2i_F g_6) <| s_aload_n 14 rfl rfl <| s_ldc 15 rfl wc_X8_69 <| s_callV (b := 0) (ci := 8) 16 [.int (-1000001)] [] rfl ml_X8_70 yw_X8_tellFinding sh_0 rfl rfl (okX8_tellFinding (d + 1) _ _ q_12.1 q_12.2 e_13) rfl rfl (Nat.le_of_ble_eq_true rfl) <| s_iret 17 rfl
  · obtain ⟨q_14, e_15, e⟩ := bndS e
    obtain ⟨rfl, rfl⟩ := some2 e
    exact s_if_eq_T 7 29 rfl (by decide) (b2i_F g_3) <| s_aload_n 14 rfl rfl <| s_ldc 15 rfl wc_X8_69 <| s_callV (b := 0) (ci := 8) 16 [.int (-1000001)] [] rfl ml_X8_70 yw_X8_tellFinding sh_0 rfl rfl (okX8_tellFinding (d + 1) _ _ q_14.1 q_14.2 e_15) rfl rfl (Nat.le_of_ble_eq_true rfl) <| s_iret 17 rfl
def fX9_isTopic (x0 : Int32) (h : Sto) : Option Bool :=
  (fX9_in x0.toInt64 0 9 h).bind fun q_1 => some q_1
set_option maxRecDepth 100000 in
set_option maxHeartbeats 4000000 in
theorem okX9_isTopic (d : Nat) (x0 : Int32) (h : Sto) (q : Bool) (e : fX9_isTopic x0 h = some q) : Ok yX9_isTopic cX9_isTopic 1 (some .boolean) (d + 1) [.int x0] h (some (.int (b2i q))) h := by
  refine Ok_of (lst := kX9_isTopic) (own := RX9) ⟨by decide, rfl⟩ ckX9_isTopic (b2i_01 _) (Nat.le_of_ble_eq_true rfl) ?_
  unfold fX9_isTopic at e
  change Ev kX9_isTopic RX9 1 (d + 1) nox 0 [some (.int x0)] [] h (some (.int (b2i q))) h
  obtain ⟨q_1, e_2, e⟩ := bndS e
  obtain rfl := Option.some.inj e
  exact s_iload_n 0 rfl rfl <| s_i2l 1 rfl <| s_lconst 0 2 rfl (by decide) <| s_ldc2_w 3 rfl wc_X9_58 <| s_callS 4 [.long x0.toInt64, .long 0, .long 9] [] rfl ml_X9_48 yw_X9_in (okX9_in d _ _ _ _ _ e_2) rfl rfl (Nat.le_of_ble_eq_true rfl) <| s_iret 5 rfl
def fX9_may (x1 : Int32) (x2 : Int32) (x3 : Int32) (h : Sto) : Option Bool :=
  if x2 < 1 ∨ 4 < x2 then (if ¬ x2 = 5 then (some false) else ((fX9_isTopic x3 h).bind fun q_3 => if q_3 = true then (some true) else (some false))) else if x2 = 1 then ((fX9_in x3.toInt64 1 999 h).bind fun q_7 => some q_7) else if x2 = 2 then ((fX9_in x3.toInt64 1 1023 h).bind fun q_10 => some q_10) else if x2 = 3 then ((fX9_in x3.toInt64 0 99 h).bind fun q_13 => some q_13) else if x2 = 4 then (if x3 = x1 then (some false) else (if x3 = (-1) then (some true) else ((fX9_isName x3 h).bind fun q_18 => if q_18 = true then (some true) else (some false)))) else none
set_option maxRecDepth 100000 in
set_option maxHeartbeats 4000000 in
theorem okX9_may (d : Nat) (x1 : Int32) (x2 : Int32) (x3 : Int32) (h : Sto) (q : Bool) (e : fX9_may x1 x2 x3 h = some q) : Ok yX9_may cX9_may 4 (some .boolean) (d + 2) [.ref 83, .int x1, .int x2, .int x3] h (some (.int (b2i q))) h := by
  refine Ok_of (lst := kX9_may) (own := RX9) ⟨by decide, rfl⟩ ckX9_may (b2i_01 _) (Nat.le_of_ble_eq_true rfl) ?_
  unfold fX9_may at e
  change Ev kX9_may RX9 4 (d + 2) nox 0 [some (.ref 83), some (.int x1), some (.int x2), some (.int x3)] [] h (some (.int (b2i q))) h
  refine s_iload_n 0 rfl rfl <| ?_
  rcases iteS e with ⟨g_1, e⟩ | ⟨g_1, e⟩
  · refine s_swOut 1 4 1 86 rfl g_1 (by decide) <| s_iload_n 34 rfl rfl <| s_iconst 5 35 rfl (by decide) <| ?_
    rcases iteS e with ⟨g_2, e⟩ | ⟨g_2, e⟩
    · obtain rfl := Option.some.inj e
      exact s_icmp_ne_T 36 102 rfl (by decide) g_2 <| s_iconst 0 42 rfl (by decide) <| s_iret 43 rfl
    · obtain ⟨q_3, e_4, e⟩ := bndS e
      refine s_icmp_ne_F 36 102 rfl (by decide) (Decidable.not_not.mp g_2) <| s_iload_n 37 rfl rfl <| s_callS 38 [.int x3] [] rfl ml_X9_84 yw_X9_isTopic (okX9_isTopic d _ _ _ e_4) rfl rfl (Nat.le_of_ble_eq_true rfl) <| ?_
      rcases iteS e with ⟨g_5, e⟩ | ⟨g_5, e⟩
      · obtain rfl := Option.some.inj e
        exact s_if_eq_F 39 102 rfl (by decide) (b2i_T g_5) <| s_iconst 1 40 rfl (by decide) <| s_goto 41 103 rfl (by decide) <| s_iret 43 rfl
      · obtain rfl := Option.some.inj e
        exact s_if_eq_T 39 102 rfl (by decide) (b2i_F g_5) <| s_iconst 0 42 rfl (by decide) <| s_iret 43 rfl
  rcases iteS e with ⟨g_6, e⟩ | ⟨g_6, e⟩
  · obtain ⟨q_7, e_8, e⟩ := bndS e
    obtain rfl := Option.some.inj e
    exact s_swIn (off := 31) 1 1 32 rfl g_6 (by decide) <| s_iload_n 2 rfl rfl <| s_i2l 3 rfl <| s_lconst 1 4 rfl (by decide) <| s_ldc2_w 5 rfl wc_X9_62 <| s_callS 6 [.long x3.toInt64, .long 1, .long 999] [] rfl ml_X9_48 yw_X9_in (okX9_in (d + 1) _ _ _ _ _ e_8) rfl rfl (Nat.le_of_ble_eq_true rfl) <| s_iret 7 rfl
  rcases iteS e with ⟨g_9, e⟩ | ⟨g_9, e⟩
  · obtain ⟨q_10, e_11, e⟩ := bndS e
    obtain rfl := Option.some.inj e
    exact s_swIn (off := 41) 2 1 42 rfl g_9 (by decide) <| s_iload_n 8 rfl rfl <| s_i2l 9 rfl <| s_lconst 1 10 rfl (by decide) <| s_ldc2_w 11 rfl wc_X9_80 <| s_callS 12 [.long x3.toInt64, .long 1, .long 1023] [] rfl ml_X9_48 yw_X9_in (okX9_in (d + 1) _ _ _ _ _ e_11) rfl rfl (Nat.le_of_ble_eq_true rfl) <| s_iret 13 rfl
  rcases iteS e with ⟨g_12, e⟩ | ⟨g_12, e⟩
  · obtain ⟨q_13, e_14, e⟩ := bndS e
    obtain rfl := Option.some.inj e
    exact s_swIn (off := 51) 3 1 52 rfl g_12 (by decide) <| s_iload_n 14 rfl rfl <| s_i2l 15 rfl <| s_lconst 0 16 rfl (by decide) <| s_ldc2_w 17 rfl wc_X9_82 <| s_callS 18 [.long x3.toInt64, .long 0, .long 99] [] rfl ml_X9_48 yw_X9_in (okX9_in (d + 1) _ _ _ _ _ e_14) rfl rfl (Nat.le_of_ble_eq_true rfl) <| s_iret 19 rfl
  rcases iteS e with ⟨g_15, e⟩ | ⟨g_15, e⟩
  · refine s_swIn (off := 61) 4 1 62 rfl g_15 (by decide) <| s_iload_n 20 rfl rfl <| s_iload_n 21 rfl rfl <| ?_
    rcases iteS e with ⟨g_16, e⟩ | ⟨g_16, e⟩
    · obtain rfl := Option.some.inj e
      exact s_icmp_eq_T 22 84 rfl (by decide) g_16 <| s_iconst 0 32 rfl (by decide) <| s_iret 33 rfl
    · refine s_icmp_eq_F 22 84 rfl (by decide) g_16 <| s_iload_n 23 rfl rfl <| s_iconst (-1) 24 rfl (by decide) <| ?_
      rcases iteS e with ⟨g_17, e⟩ | ⟨g_17, e⟩
      · obtain rfl := Option.some.inj e
        exact s_icmp_eq_T 25 80 rfl (by decide) g_17 <| s_iconst 1 30 rfl (by decide) <| s_goto 31 85 rfl (by decide) <| s_iret 33 rfl
      · obtain ⟨q_18, e_19, e⟩ := bndS e
        refine s_icmp_eq_F 25 80 rfl (by decide) g_17 <| s_aload_n 26 rfl rfl <| s_iload_n 27 rfl rfl <| s_callV (b := 83) (ci := 9) 28 [.int x3] [] rfl ml_X9_73 yw_X9_isName sh_83 rfl rfl (okX9_isName d _ _ _ e_19) rfl rfl (Nat.le_of_ble_eq_true rfl) <| ?_
        rcases iteS e with ⟨g_20, e⟩ | ⟨g_20, e⟩
        · obtain rfl := Option.some.inj e
          exact s_if_eq_F 29 84 rfl (by decide) (b2i_T g_20) <| s_iconst 1 30 rfl (by decide) <| s_goto 31 85 rfl (by decide) <| s_iret 33 rfl
        · obtain rfl := Option.some.inj e
          exact s_if_eq_T 29 84 rfl (by decide) (b2i_F g_20) <| s_iconst 0 32 rfl (by decide) <| s_iret 33 rfl
  cases e
def fX9_becomes (x1 : Int32) (x2 : Int32) (h : Sto) : Option (Int32 × Sto) :=
  grd (inb x1 1214) <| grd (inb x1 1214) <| (some (su h 84 (Int32.toNatClampNeg x1) x2)).bind fun h_3 => some ((h 84 (Int32.toNatClampNeg x1)), h_3)
set_option maxRecDepth 100000 in
set_option maxHeartbeats 4000000 in
theorem okX9_becomes (d : Nat) (x1 : Int32) (x2 : Int32) (h : Sto) (qv : Int32) (qh : Sto) (e : fX9_becomes x1 x2 h = some (qv, qh)) : Ok yX9_becomes cX9_becomes 4 (some .int) d [.ref 83, .int x1, .int x2] h (some (.int qv)) qh := by
  refine Ok_of (lst := kX9_becomes) (own := RX9) ⟨by decide, rfl⟩ ckX9_becomes trivial (Nat.le_of_ble_eq_true rfl) ?_
  unfold fX9_becomes at e
  change Ev kX9_becomes RX9 4 d nox 0 [some (.ref 83), some (.int x1), some (.int x2), none] [] h (some (.int qv)) qh
  obtain ⟨g_1, e⟩ := grdS e
  obtain ⟨g_2, e⟩ := grdS e
  obtain ⟨h_3, eh_3, e⟩ := bndS e
  obtain ⟨rfl, rfl⟩ := some2 e
  exact s_aload_n 0 rfl rfl <| s_getr 1 rfl fl_X9_9 sh_83 rfl <| s_iload_n 2 rfl rfl <| s_iald (Int32.toNatClampNeg x1) 3 rfl sh_84 g_1 rfl <| s_istore_n [some (.ref 83), some (.int x1), some (.int x2), some (.int (h 84 (Int32.toNatClampNeg x1)))] 4 rfl (by decide) rfl <| s_aload_n 5 rfl rfl <| s_getr 6 rfl fl_X9_9 sh_83 rfl <| s_iload_n 7 rfl rfl <| s_iload_n 8 rfl rfl <| s_iast (Int32.toNatClampNeg x1) 9 rfl sh_84 g_2 rfl <| s_nmH (Option.some.inj eh_3) <| s_iload_n 10 rfl rfl <| s_iret 11 rfl
def fX9_change (x1 : Int32) (x2 : Int32) (x3 : Int32) (h : Sto) : Option (Int32 × Sto) :=
  (fX9_isName x1 h).bind fun q_1 => if q_1 = true then ((fX9_may x1 x2 x3 h).bind fun q_4 => if q_4 = true then ((fX9_becomes ((6 + (8 * x1)) + x2) x3 h).bind fun q_7 => some (q_7.1, q_7.2)) else ((fX9_finds (-1000001) h).bind fun q_9 => some (q_9.1, q_9.2))) else ((fX9_finds (-1000001) h).bind fun q_11 => some (q_11.1, q_11.2))
set_option maxRecDepth 100000 in
set_option maxHeartbeats 4000000 in
theorem okX9_change (d : Nat) (x1 : Int32) (x2 : Int32) (x3 : Int32) (h : Sto) (qv : Int32) (qh : Sto) (e : fX9_change x1 x2 x3 h = some (qv, qh)) : Ok yX9_change cX9_change 4 (some .int) (d + 3) [.ref 83, .int x1, .int x2, .int x3] h (some (.int qv)) qh := by
  refine Ok_of (lst := kX9_change) (own := RX9) ⟨by decide, rfl⟩ ckX9_change trivial (Nat.le_of_ble_eq_true rfl) ?_
  unfold fX9_change at e
  change Ev kX9_change RX9 4 (d + 3) nox 0 [some (.ref 83), some (.int x1), some (.int x2), some (.int x3)] [] h (some (.int qv)) qh
  obtain ⟨q_1, e_2, e⟩ := bndS e
  refine s_aload_n 0 rfl rfl <| s_iload_n 1 rfl rfl <| s_callV (b := 83) (ci := 9) 2 [.int x1] [] rfl ml_X9_73 yw_X9_isName sh_83 rfl rfl (okX9_isName (d + 1) _ _ _ e_2) rfl rfl (Nat.le_of_ble_eq_true rfl) <| ?_
  rcases iteS e with ⟨g_3, e⟩ | ⟨g_3, e⟩
  · obtain ⟨q_4, e_5, e⟩ := bndS e
    refine s_if_eq_F 3 35 rfl (by decide) (b2i_T g_3) <| s_aload_n 4 rfl rfl <| s_iload_n 5 rfl rfl <| s_iload_n 6 rfl rfl <| s_iload_n 7 rfl rfl <| s_callV (b := 83) (ci := 9) 8 [.int x1, .int x2, .int x3] [] rfl ml_X9_87 yw_X9_may sh_83 rfl rfl (okX9_may d _ _ _ _ _ e_5) rfl rfl (Nat.le_of_ble_eq_true rfl) <| ?_
    rcases iteS e with ⟨g_6, e⟩ | ⟨g_6, e⟩
    · obtain ⟨q_7, e_8, e⟩ := bndS e
      obtain ⟨rfl, rfl⟩ := some2 e
      exact s_if_eq_F 9 35 rfl (by decide) (b2i_T g_6) <| s_aload_n 10 rfl rfl <| s_bipush 6 11 rfl (by decide) <| s_bipush 8 12 rfl (by decide) <| s_iload_n 13 rfl rfl <| s_imul 14 rfl <| s_iadd 15 rfl <| s_iload_n 16 rfl rfl <| s_iadd 17 rfl <| s_iload_n 18 rfl rfl <| s_callV (b := 83) (ci := 9) 19 [.int ((6 + (8 * x1)) + x2), .int x3] [] rfl ml_X9_91 yw_X9_becomes sh_83 rfl rfl (okX9_becomes (d + 2) _ _ _ q_7.1 q_7.2 e_8) rfl rfl (Nat.le_of_ble_eq_true rfl) <| s_goto 20 41 rfl (by decide) <| s_iret 24 rfl
    · obtain ⟨q_9, e_10, e⟩ := bndS e
      obtain ⟨rfl, rfl⟩ := some2 e
      exact s_if_eq_T 9 35 rfl (by decide) (b2i_F g_6) <| s_aload_n 21 rfl rfl <| s_ldc 22 rfl wc_X9_47 <| s_callV (b := 83) (ci := 9) 23 [.int (-1000001)] [] rfl ml_X9_64 yw_X9_finds sh_83 rfl rfl (okX9_finds (d + 2) _ _ q_9.1 q_9.2 e_10) rfl rfl (Nat.le_of_ble_eq_true rfl) <| s_iret 24 rfl
  · obtain ⟨q_11, e_12, e⟩ := bndS e
    obtain ⟨rfl, rfl⟩ := some2 e
    exact s_if_eq_T 3 35 rfl (by decide) (b2i_F g_3) <| s_aload_n 21 rfl rfl <| s_ldc 22 rfl wc_X9_47 <| s_callV (b := 83) (ci := 9) 23 [.int (-1000001)] [] rfl ml_X9_64 yw_X9_finds sh_83 rfl rfl (okX9_finds (d + 2) _ _ q_11.1 q_11.2 e_12) rfl rfl (Nat.le_of_ble_eq_true rfl) <| s_iret 24 rfl
def fX8_shut (x1 : Int32) (x2 : Int32) (h : Sto) : Option (Int32 × Sto) :=
  (fX1_has x1 h).bind fun q_1 => if q_1 = true then ((fX8_hasBit (h 2 1) x1 h).bind fun q_4 => (fX8_asInt (b2i q_4) h).bind fun q_6 => if x2 = 0 then ((some (su h 2 1 ((h 2 1) &&& ((jshl 1 x1) ^^^ (-1))))).bind fun h_9 => some (q_6, h_9)) else ((some (su h 2 1 ((h 2 1) ||| (jshl 1 x1)))).bind fun h_10 => some (q_6, h_10))) else ((fX8_tellFinding (-1000001) h).bind fun q_11 => some (q_11.1, q_11.2))
set_option maxRecDepth 100000 in
set_option maxHeartbeats 4000000 in
theorem okX8_shut (d : Nat) (x1 : Int32) (x2 : Int32) (h : Sto) (qv : Int32) (qh : Sto) (e : fX8_shut x1 x2 h = some (qv, qh)) : Ok yX8_shut cX8_shut 5 (some .int) (d + 2) [.ref 0, .int x1, .int x2] h (some (.int qv)) qh := by
  refine Ok_of (lst := kX8_shut) (own := RX8) ⟨by decide, rfl⟩ ckX8_shut trivial (Nat.le_of_ble_eq_true rfl) ?_
  unfold fX8_shut at e
  change Ev kX8_shut RX8 5 (d + 2) nox 0 [some (.ref 0), some (.int x1), some (.int x2), none, none] [] h (some (.int qv)) qh
  obtain ⟨q_1, e_2, e⟩ := bndS e
  refine s_aload_n 0 rfl rfl <| s_getr 1 rfl fl_X8_12 sh_0 rfl <| s_getr 2 rfl fl_X8_74 sh_1 rfl <| s_astore_n [some (.ref 0), some (.int x1), some (.int x2), some (.ref 2), none] 3 rfl (by decide) rfl <| s_aload_n 4 rfl rfl <| s_iload_n 5 rfl rfl <| s_callV (b := 2) (ci := 1) 6 [.int x1] [] rfl ml_X8_88 yw_X1_has sh_2 rfl rfl (okX1_has d _ _ _ e_2) rfl rfl (Nat.le_of_ble_eq_true rfl) <| ?_
  rcases iteS e with ⟨g_3, e⟩ | ⟨g_3, e⟩
  · obtain ⟨q_4, e_5, e⟩ := bndS e
    obtain ⟨q_6, e_7, e⟩ := bndS e
    refine s_if_ne_T 7 23 rfl (by decide) (b2i_T g_3) <| s_aload_n 12 rfl rfl <| s_geti 13 rfl fl_X8_92 sh_2 rfl <| s_iload_n 14 rfl rfl <| s_callS 15 [.int (h 2 1), .int x1] [] rfl ml_X8_95 yw_X8_hasBit (okX8_hasBit (d + 1) _ _ _ _ e_5) rfl rfl (Nat.le_of_ble_eq_true rfl) <| s_callS 16 [.int (b2i q_4)] [] rfl ml_X8_99 yw_X8_asInt (okX8_asInt (d + 1) _ _ _ e_7) rfl rfl (Nat.le_of_ble_eq_true rfl) <| s_istore [some (.ref 0), some (.int x1), some (.int x2), some (.ref 2), some (.int q_6)] 17 rfl (by decide) rfl <| s_aload_n 18 rfl rfl <| s_iload_n 19 rfl rfl <| ?_
    rcases iteS e with ⟨g_8, e⟩ | ⟨g_8, e⟩
    · obtain ⟨h_9, eh_9, e⟩ := bndS e
      obtain ⟨rfl, rfl⟩ := some2 e
      exact s_if_eq_T 20 52 rfl (by decide) g_8 <| s_aload_n 28 rfl rfl <| s_geti 29 rfl fl_X8_92 sh_2 rfl <| s_iconst 1 30 rfl (by decide) <| s_iload_n 31 rfl rfl <| s_ishl 32 rfl <| s_iconst (-1) 33 rfl (by decide) <| s_ixor 34 rfl <| s_iand 35 rfl <| s_puti 36 rfl fl_X8_92 sh_2 rfl <| s_nmH (Option.some.inj eh_9) <| s_iload 37 rfl rfl <| s_iret 38 rfl
    · obtain ⟨h_10, eh_10, e⟩ := bndS e
      obtain ⟨rfl, rfl⟩ := some2 e
      exact s_if_eq_F 20 52 rfl (by decide) g_8 <| s_aload_n 21 rfl rfl <| s_geti 22 rfl fl_X8_92 sh_2 rfl <| s_iconst 1 23 rfl (by decide) <| s_iload_n 24 rfl rfl <| s_ishl 25 rfl <| s_ior 26 rfl <| s_goto 27 62 rfl (by decide) <| s_puti 36 rfl fl_X8_92 sh_2 rfl <| s_nmH (Option.some.inj eh_10) <| s_iload 37 rfl rfl <| s_iret 38 rfl
  · obtain ⟨q_11, e_12, e⟩ := bndS e
    obtain ⟨rfl, rfl⟩ := some2 e
    exact s_if_ne_F 7 23 rfl (by decide) (b2i_F g_3) <| s_aload_n 8 rfl rfl <| s_ldc 9 rfl wc_X8_69 <| s_callV (b := 0) (ci := 8) 10 [.int (-1000001)] [] rfl ml_X8_70 yw_X8_tellFinding sh_0 rfl rfl (okX8_tellFinding d _ _ q_11.1 q_11.2 e_12) rfl rfl (Nat.le_of_ble_eq_true rfl) <| s_iret 11 rfl
def fX9_shut (x1 : Int32) (x2 : Int32) (h : Sto) : Option (Int32 × Sto) :=
  (fX9_isName x1 h).bind fun q_1 => if q_1 = true then ((if x2 = 0 then (some false) else (some true)).bind fun q_4 => (fX9_becomes ((6 + (8 * x1)) + 6) (b2i q_4) h).bind fun q_7 => some (q_7.1, q_7.2)) else ((fX9_finds (-1000001) h).bind fun q_9 => some (q_9.1, q_9.2))
set_option maxRecDepth 100000 in
set_option maxHeartbeats 4000000 in
theorem okX9_shut (d : Nat) (x1 : Int32) (x2 : Int32) (h : Sto) (qv : Int32) (qh : Sto) (e : fX9_shut x1 x2 h = some (qv, qh)) : Ok yX9_shut cX9_shut 3 (some .int) (d + 2) [.ref 83, .int x1, .int x2] h (some (.int qv)) qh := by
  refine Ok_of (lst := kX9_shut) (own := RX9) ⟨by decide, rfl⟩ ckX9_shut trivial (Nat.le_of_ble_eq_true rfl) ?_
  unfold fX9_shut at e
  change Ev kX9_shut RX9 3 (d + 2) nox 0 [some (.ref 83), some (.int x1), some (.int x2)] [] h (some (.int qv)) qh
  obtain ⟨q_1, e_2, e⟩ := bndS e
  refine s_aload_n 0 rfl rfl <| s_iload_n 1 rfl rfl <| s_callV (b := 83) (ci := 9) 2 [.int x1] [] rfl ml_X9_73 yw_X9_isName sh_83 rfl rfl (okX9_isName d _ _ _ e_2) rfl rfl (Nat.le_of_ble_eq_true rfl) <| ?_
  rcases iteS e with ⟨g_3, e⟩ | ⟨g_3, e⟩
  · obtain ⟨q_4, e1, e⟩ := bndS e
    have k_5 : Ev kX9_shut RX9 3 (d + 2) nox 28 [none, none, none] [.int (b2i q_4), .int ((6 + (8 * x1)) + 6), .ref 83] h (some (.int qv)) qh := by
      obtain ⟨q_7, e_8, e⟩ := bndS e
      obtain ⟨rfl, rfl⟩ := some2 e
      exact s_callV (b := 83) (ci := 9) 17 [.int ((6 + (8 * x1)) + 6), .int (b2i q_4)] [] rfl ml_X9_91 yw_X9_becomes sh_83 rfl rfl (okX9_becomes (d + 1) _ _ _ q_7.1 q_7.2 e_8) rfl rfl (Nat.le_of_ble_eq_true rfl) <| s_goto 18 40 rfl (by decide) <| s_iret 22 rfl
    clear e
    have e := e1
    clear e1
    refine s_if_eq_F 3 34 rfl (by decide) (b2i_T g_3) <| s_aload_n 4 rfl rfl <| s_bipush 6 5 rfl (by decide) <| s_bipush 8 6 rfl (by decide) <| s_iload_n 7 rfl rfl <| s_imul 8 rfl <| s_iadd 9 rfl <| s_bipush 6 10 rfl (by decide) <| s_iadd 11 rfl <| s_iload_n 12 rfl rfl <| ?_
    rcases iteS e with ⟨g_6, e⟩ | ⟨g_6, e⟩
    · cases e
      exact s_if_eq_T 13 27 rfl (by decide) g_6 <| s_iconst 0 16 rfl (by decide) <| s_fgt [true, true, true] rfl <| k_5
    · cases e
      exact s_if_eq_F 13 27 rfl (by decide) g_6 <| s_iconst 1 14 rfl (by decide) <| s_goto 15 28 rfl (by decide) <| s_fgt [true, true, true] rfl <| k_5
  · obtain ⟨q_9, e_10, e⟩ := bndS e
    obtain ⟨rfl, rfl⟩ := some2 e
    exact s_if_eq_T 3 34 rfl (by decide) (b2i_F g_3) <| s_aload_n 19 rfl rfl <| s_ldc 20 rfl wc_X9_47 <| s_callV (b := 83) (ci := 9) 21 [.int (-1000001)] [] rfl ml_X9_64 yw_X9_finds sh_83 rfl rfl (okX9_finds (d + 1) _ _ q_9.1 q_9.2 e_10) rfl rfl (Nat.le_of_ble_eq_true rfl) <| s_iret 22 rfl
def fX1_peopleSet_b4 (h : Sto) (c1 : Int32) (c2 : Int32) : Option ((Int32 × Int32) ⊕ Int32) :=
  if (h 2 0) ≤ c2 then (some (.inr c1)) else ((fX1_isOf c2 1 h).bind fun q_2 => if q_2 = true then (some (.inl ((c1 ||| (jshl 1 c2)), (c2 + 1)))) else (some (.inl (c1, (c2 + 1)))))
def fX1_peopleSet (h : Sto) : Option Int32 :=
  (lp (fun s => fX1_peopleSet_b4 h s.1 s.2) FUEL (0, 0)).bind fun v_13 => some v_13
set_option maxRecDepth 100000 in
set_option maxHeartbeats 4000000 in
theorem okX1_peopleSet (d : Nat) (h : Sto) (q : Int32) (e : fX1_peopleSet h = some q) : Ok yX1_peopleSet cX1_peopleSet 3 (some .int) (d + 1) [.ref 2] h (some (.int q)) h := by
  refine Ok_of (lst := kX1_peopleSet) (own := RX1) ⟨by decide, rfl⟩ ckX1_peopleSet trivial (Nat.le_of_ble_eq_true rfl) ?_
  unfold fX1_peopleSet at e
  change Ev kX1_peopleSet RX1 3 (d + 1) nox 0 [some (.ref 2), none, none] [] h (some (.int q)) h
  obtain ⟨y_5, e_6, e⟩ := bndS e
  have kx_9 : ∀ v_13 : Int32, v_13 = y_5 → Ev kX1_peopleSet RX1 3 (d + 1) nox 33 [none, some (.int v_13), none] [] h (some (.int q)) h := by
    intro v_13 hy
    subst hy
    obtain rfl := Option.some.inj e
    exact s_iload_n 21 rfl rfl <| s_iret 22 rfl
  refine s_iconst 0 0 rfl (by decide) <| s_istore_n [some (.ref 2), some (.int 0), none] 1 rfl (by decide) rfl <| s_iconst 0 2 rfl (by decide) <| s_istore_n [some (.ref 2), some (.int 0), some (.int 0)] 3 rfl (by decide) rfl <| lpS (P := fun (s_12 : (Int32 × Int32)) => Ev kX1_peopleSet RX1 3 (d + 1) nox 4 [some (.ref 2), some (.int s_12.1), some (.int s_12.2)] [] h (some (.int q)) h) ?_ FUEL _ e_6
  intro s_12 o_11 e hk_7 hx_8
  unfold fX1_peopleSet_b4 at e
  refine s_iload_n 4 rfl rfl <| s_aload_n 5 rfl rfl <| s_geti 6 rfl fl_X1_16 sh_2 rfl <| ?_
  rcases iteS e with ⟨g_15, e⟩ | ⟨g_15, e⟩
  · cases e
    exact s_icmp_ge_T 7 33 rfl (by decide) g_15 <| s_fgt [true, false, true] rfl <| (kx_9 s_12.1 (hx_8 _ rfl))
  · obtain ⟨q_16, e_17, e⟩ := bndS e
    refine s_icmp_ge_F 7 33 rfl (by decide) g_15 <| s_aload_n 8 rfl rfl <| s_iload_n 9 rfl rfl <| s_iconst 1 10 rfl (by decide) <| s_callV (b := 2) (ci := 1) 11 [.int s_12.2, .int 1] [] rfl ml_X1_35 yw_X1_isOf sh_2 rfl rfl (okX1_isOf d _ _ _ _ e_17) rfl rfl (Nat.le_of_ble_eq_true rfl) <| ?_
    rcases iteS e with ⟨g_18, e⟩ | ⟨g_18, e⟩
    · cases e
      exact s_if_eq_F 12 27 rfl (by decide) (b2i_T g_18) <| s_iload_n 13 rfl rfl <| s_iconst 1 14 rfl (by decide) <| s_iload_n 15 rfl rfl <| s_ishl 16 rfl <| s_ior 17 rfl <| s_istore_n [some (.ref 2), some (.int (s_12.1 ||| (jshl 1 s_12.2))), some (.int s_12.2)] 18 rfl (by decide) rfl <| s_iinc 1 [some (.ref 2), some (.int (s_12.1 ||| (jshl 1 s_12.2))), some (.int (s_12.2 + 1))] 19 rfl (by decide) rfl (by decide) rfl <| s_goto 20 4 rfl (by decide) <| (hk_7 ((s_12.1 ||| (jshl 1 s_12.2)), (s_12.2 + 1)) rfl)
    · cases e
      exact s_if_eq_T 12 27 rfl (by decide) (b2i_F g_18) <| s_iinc 1 [some (.ref 2), some (.int s_12.1), some (.int (s_12.2 + 1))] 19 rfl (by decide) rfl (by decide) rfl <| s_goto 20 4 rfl (by decide) <| (hk_7 (s_12.1, (s_12.2 + 1)) rfl)
def fJ6_bitCount_0f7a4 (x0 : Int32) (h : Sto) : Option Int32 :=
  (some (((x0 - ((jush x0 1) &&& 1431655765)) &&& 858993459) + ((jush (x0 - ((jush x0 1) &&& 1431655765)) 2) &&& 858993459))).bind fun y_1 => (some (((y_1 + (jush y_1 4)) &&& 252645135) + (jush ((y_1 + (jush y_1 4)) &&& 252645135) 8))).bind fun y_2 => some ((y_2 + (jush y_2 16)) &&& 63)
set_option maxRecDepth 100000 in
set_option maxHeartbeats 4000000 in
theorem okJ6_bitCount_0f7a4 (d : Nat) (x0 : Int32) (h : Sto) (q : Int32) (e : fJ6_bitCount_0f7a4 x0 h = some q) : Ok yJ6_bitCount_0f7a4 cJ6_bitCount_0f7a4 1 (some .int) d [.int x0] h (some (.int q)) h := by
  refine Ok_of (lst := kJ6_bitCount_0f7a4) (own := RJ6) ⟨by decide, rfl⟩ ckJ6_bitCount_0f7a4 trivial (Nat.le_of_ble_eq_true rfl) ?_
  unfold fJ6_bitCount_0f7a4 at e
  change Ev kJ6_bitCount_0f7a4 RJ6 1 d nox 0 [some (.int x0)] [] h (some (.int q)) h
  obtain ⟨y_1, ey_1, e⟩ := bndS e
  obtain ⟨y_2, ey_2, e⟩ := bndS e
  obtain rfl := Option.some.inj e
  exact s_iload_n 0 rfl rfl <| s_iload_n 1 rfl rfl <| s_iconst 1 2 rfl (by decide) <| s_iushr 3 rfl <| s_ldc_w 4 rfl wc_J6_265 <| s_iand 5 rfl <| s_isub 6 rfl <| s_istore_n [some (.int (x0 - ((jush x0 1) &&& 1431655765)))] 7 rfl (by decide) rfl <| s_iload_n 8 rfl rfl <| s_ldc_w 9 rfl wc_J6_266 <| s_iand 10 rfl <| s_iload_n 11 rfl rfl <| s_iconst 2 12 rfl (by decide) <| s_iushr 13 rfl <| s_ldc_w 14 rfl wc_J6_266 <| s_iand 15 rfl <| s_iadd 16 rfl <| s_nmI (Option.some.inj ey_1) <| s_istore_n [some (.int y_1)] 17 rfl (by decide) rfl <| s_iload_n 18 rfl rfl <| s_iload_n 19 rfl rfl <| s_iconst 4 20 rfl (by decide) <| s_iushr 21 rfl <| s_iadd 22 rfl <| s_ldc_w 23 rfl wc_J6_267 <| s_iand 24 rfl <| s_istore_n [some (.int ((y_1 + (jush y_1 4)) &&& 252645135))] 25 rfl (by decide) rfl <| s_iload_n 26 rfl rfl <| s_iload_n 27 rfl rfl <| s_bipush 8 28 rfl (by decide) <| s_iushr 29 rfl <| s_iadd 30 rfl <| s_nmI (Option.some.inj ey_2) <| s_istore_n [some (.int y_2)] 31 rfl (by decide) rfl <| s_iload_n 32 rfl rfl <| s_iload_n 33 rfl rfl <| s_bipush 16 34 rfl (by decide) <| s_iushr 35 rfl <| s_iadd 36 rfl <| s_istore_n [some (.int (y_2 + (jush y_2 16)))] 37 rfl (by decide) rfl <| s_iload_n 38 rfl rfl <| s_bipush 63 39 rfl (by decide) <| s_iand 40 rfl <| s_iret 41 rfl
def fX8_object (h : Sto) : Option (Int32 × Sto) :=
  (fX1_peopleSet h).bind fun q_1 => (some (su h 2 1 ((h 2 1) &&& (((h 2 1) &&& q_1) ^^^ (-1))))).bind fun h_3 => (fJ6_bitCount_0f7a4 ((h 2 1) &&& q_1) h_3).bind fun q_4 => some (q_4, h_3)
set_option maxRecDepth 100000 in
set_option maxHeartbeats 4000000 in
theorem okX8_object (d : Nat) (h : Sto) (qv : Int32) (qh : Sto) (e : fX8_object h = some (qv, qh)) : Ok yX8_object cX8_object 3 (some .int) (d + 2) [.ref 0] h (some (.int qv)) qh := by
  refine Ok_of (lst := kX8_object) (own := RX8) ⟨by decide, rfl⟩ ckX8_object trivial (Nat.le_of_ble_eq_true rfl) ?_
  unfold fX8_object at e
  change Ev kX8_object RX8 3 (d + 2) nox 0 [some (.ref 0), none, none] [] h (some (.int qv)) qh
  obtain ⟨q_1, e_2, e⟩ := bndS e
  obtain ⟨h_3, eh_3, e⟩ := bndS e
  obtain ⟨q_4, e_5, e⟩ := bndS e
  obtain ⟨rfl, rfl⟩ := some2 e
  exact s_aload_n 0 rfl rfl <| s_getr 1 rfl fl_X8_12 sh_0 rfl <| s_getr 2 rfl fl_X8_74 sh_1 rfl <| s_astore_n [some (.ref 0), some (.ref 2), none] 3 rfl (by decide) rfl <| s_aload_n 4 rfl rfl <| s_geti 5 rfl fl_X8_92 sh_2 rfl <| s_aload_n 6 rfl rfl <| s_callV (b := 2) (ci := 1) 7 [] [.int (h 2 1)] rfl ml_X8_113 yw_X1_peopleSet sh_2 rfl rfl (okX1_peopleSet d _ _ e_2) rfl rfl (Nat.le_of_ble_eq_true rfl) <| s_iand 8 rfl <| s_istore_n [some (.ref 0), some (.ref 2), some (.int ((h 2 1) &&& q_1))] 9 rfl (by decide) rfl <| s_aload_n 10 rfl rfl <| s_dup 11 rfl rfl <| s_geti 12 rfl fl_X8_92 sh_2 rfl <| s_iload_n 13 rfl rfl <| s_iconst (-1) 14 rfl (by decide) <| s_ixor 15 rfl <| s_iand 16 rfl <| s_puti 17 rfl fl_X8_92 sh_2 rfl <| s_nmH (Option.some.inj eh_3) <| s_iload_n 18 rfl rfl <| s_callS 19 [.int ((h 2 1) &&& q_1)] [] rfl ml_X8_117 yw_J6_bitCount_0f7a4 (okJ6_bitCount_0f7a4 (d + 1) _ _ _ e_5) rfl rfl (Nat.le_of_ble_eq_true rfl) <| s_iret 20 rfl
def fX9_object_b4 (c1 : Int32) (c2 : Int32) (h : Sto) : Option ((Int32 × Int32 × Sto) ⊕ (Int32 × Sto)) :=
  if (h 84 0) ≤ c2 then (some (.inr (c1, h))) else ((fX9_isPerson c2 h).bind fun q_2 => if q_2 = true then ((fX9_becomes ((6 + (8 * c2)) + 6) 0 h).bind fun q_5 => some (.inl ((c1 + q_5.1), (c2 + 1), q_5.2))) else (some (.inl ((c1 + 0), (c2 + 1), h))))
def fX9_object (h : Sto) : Option (Int32 × Sto) :=
  (lp (fun s => fX9_object_b4 s.1 s.2.1 s.2.2) FUEL (0, 0, h)).bind fun v_15 => some (v_15.1, v_15.2)
set_option maxRecDepth 100000 in
set_option maxHeartbeats 4000000 in
theorem okX9_object (d : Nat) (h : Sto) (qv : Int32) (qh : Sto) (e : fX9_object h = some (qv, qh)) : Ok yX9_object cX9_object 3 (some .int) (d + 2) [.ref 83] h (some (.int qv)) qh := by
  refine Ok_of (lst := kX9_object) (own := RX9) ⟨by decide, rfl⟩ ckX9_object trivial (Nat.le_of_ble_eq_true rfl) ?_
  unfold fX9_object at e
  change Ev kX9_object RX9 3 (d + 2) nox 0 [some (.ref 83), none, none] [] h (some (.int qv)) qh
  obtain ⟨y_7, e_8, e⟩ := bndS e
  have kx_11 : ∀ v_15 : (Int32 × Sto), v_15 = y_7 → Ev kX9_object RX9 3 (d + 2) nox 50 [none, some (.int v_15.1), none] [] v_15.2 (some (.int qv)) qh := by
    intro v_15 hy
    subst hy
    obtain ⟨rfl, rfl⟩ := some2 e
    exact s_iload_n 31 rfl rfl <| s_iret 32 rfl
  refine s_iconst 0 0 rfl (by decide) <| s_istore_n [some (.ref 83), some (.int 0), none] 1 rfl (by decide) rfl <| s_iconst 0 2 rfl (by decide) <| s_istore_n [some (.ref 83), some (.int 0), some (.int 0)] 3 rfl (by decide) rfl <| lpS (P := fun (s_14 : (Int32 × Int32 × Sto)) => Ev kX9_object RX9 3 (d + 2) nox 4 [some (.ref 83), some (.int s_14.1), some (.int s_14.2.1)] [] s_14.2.2 (some (.int qv)) qh) ?_ FUEL _ e_8
  intro s_14 o_13 e hk_9 hx_10
  unfold fX9_object_b4 at e
  refine s_iload_n 4 rfl rfl <| s_aload_n 5 rfl rfl <| s_getr 6 rfl fl_X9_9 sh_83 rfl <| s_iconst 0 7 rfl (by decide) <| s_iald 0 8 rfl sh_84 (by decide) (by decide) <| ?_
  rcases iteS e with ⟨g_17, e⟩ | ⟨g_17, e⟩
  · cases e
    exact s_icmp_ge_T 9 50 rfl (by decide) g_17 <| s_fgt [true, false, true] rfl <| (kx_11 (s_14.1, s_14.2.2) (hx_10 _ rfl))
  · obtain ⟨q_18, e_19, e⟩ := bndS e
    refine s_icmp_ge_F 9 50 rfl (by decide) g_17 <| s_iload_n 10 rfl rfl <| s_aload_n 11 rfl rfl <| s_iload_n 12 rfl rfl <| s_callV (b := 83) (ci := 9) 13 [.int s_14.2.1] [.int s_14.1] rfl ml_X9_77 yw_X9_isPerson sh_83 rfl rfl (okX9_isPerson d _ _ _ e_19) rfl rfl (Nat.le_of_ble_eq_true rfl) <| ?_
    rcases iteS e with ⟨g_20, e⟩ | ⟨g_20, e⟩
    · obtain ⟨q_21, e_22, e⟩ := bndS e
      cases e
      exact s_if_eq_F 14 41 rfl (by decide) (b2i_T g_20) <| s_aload_n 15 rfl rfl <| s_bipush 6 16 rfl (by decide) <| s_bipush 8 17 rfl (by decide) <| s_iload_n 18 rfl rfl <| s_imul 19 rfl <| s_iadd 20 rfl <| s_bipush 6 21 rfl (by decide) <| s_iadd 22 rfl <| s_iconst 0 23 rfl (by decide) <| s_callV (b := 83) (ci := 9) 24 [.int ((6 + (8 * s_14.2.1)) + 6), .int 0] [.int s_14.1] rfl ml_X9_91 yw_X9_becomes sh_83 rfl rfl (okX9_becomes (d + 1) _ _ _ q_21.1 q_21.2 e_22) rfl rfl (Nat.le_of_ble_eq_true rfl) <| s_goto 25 42 rfl (by decide) <| s_iadd 27 rfl <| s_istore_n [some (.ref 83), some (.int (s_14.1 + q_21.1)), some (.int s_14.2.1)] 28 rfl (by decide) rfl <| s_iinc 1 [some (.ref 83), some (.int (s_14.1 + q_21.1)), some (.int (s_14.2.1 + 1))] 29 rfl (by decide) rfl (by decide) rfl <| s_goto 30 4 rfl (by decide) <| (hk_9 ((s_14.1 + q_21.1), (s_14.2.1 + 1), q_21.2) rfl)
    · cases e
      exact s_if_eq_T 14 41 rfl (by decide) (b2i_F g_20) <| s_iconst 0 26 rfl (by decide) <| s_iadd 27 rfl <| s_istore_n [some (.ref 83), some (.int (s_14.1 + 0)), some (.int s_14.2.1)] 28 rfl (by decide) rfl <| s_iinc 1 [some (.ref 83), some (.int (s_14.1 + 0)), some (.int (s_14.2.1 + 1))] 29 rfl (by decide) rfl (by decide) rfl <| s_goto 30 4 rfl (by decide) <| (hk_9 ((s_14.1 + 0), (s_14.2.1 + 1), s_14.2.2) rfl)
def fX8_isSecond (x0 : Int32) (h : Sto) : Option Bool :=
  (fX8_isWithin x0 0 29999 h).bind fun q_1 => some q_1
set_option maxRecDepth 100000 in
set_option maxHeartbeats 4000000 in
theorem okX8_isSecond (d : Nat) (x0 : Int32) (h : Sto) (q : Bool) (e : fX8_isSecond x0 h = some q) : Ok yX8_isSecond cX8_isSecond 1 (some .boolean) (d + 1) [.int x0] h (some (.int (b2i q))) h := by
  refine Ok_of (lst := kX8_isSecond) (own := RX8) ⟨by decide, rfl⟩ ckX8_isSecond (b2i_01 _) (Nat.le_of_ble_eq_true rfl) ?_
  unfold fX8_isSecond at e
  change Ev kX8_isSecond RX8 1 (d + 1) nox 0 [some (.int x0)] [] h (some (.int (b2i q))) h
  obtain ⟨q_1, e_2, e⟩ := bndS e
  obtain rfl := Option.some.inj e
  exact s_iload_n 0 rfl rfl <| s_iconst 0 1 rfl (by decide) <| s_sipush 29999 2 rfl (by decide) <| s_callS 3 [.int x0, .int 0, .int 29999] [] rfl ml_X8_65 yw_X8_isWithin (okX8_isWithin d _ _ _ _ _ e_2) rfl rfl (Nat.le_of_ble_eq_true rfl) <| s_iret 4 rfl
def fX8_rest (x0 : Int32) (x1 : Int32) (h : Sto) : Option Int32 :=
  if ¬ x1 = 0 then (grd (¬ x1 = 0) <| some (jrem x0 x1)) else (some 0)
set_option maxRecDepth 100000 in
set_option maxHeartbeats 4000000 in
theorem okX8_rest (d : Nat) (x0 : Int32) (x1 : Int32) (h : Sto) (q : Int32) (e : fX8_rest x0 x1 h = some q) : Ok yX8_rest cX8_rest 2 (some .int) d [.int x0, .int x1] h (some (.int q)) h := by
  refine Ok_of (lst := kX8_rest) (own := RX8) ⟨by decide, rfl⟩ ckX8_rest trivial (Nat.le_of_ble_eq_true rfl) ?_
  unfold fX8_rest at e
  change Ev kX8_rest RX8 2 d nox 0 [some (.int x0), some (.int x1)] [] h (some (.int q)) h
  refine s_iload_n 0 rfl rfl <| ?_
  rcases iteS e with ⟨g_1, e⟩ | ⟨g_1, e⟩
  · obtain ⟨g_2, e⟩ := grdS e
    obtain rfl := Option.some.inj e
    exact s_if_ne_T 1 8 rfl (by decide) g_1 <| s_iload_n 4 rfl rfl <| s_iload_n 5 rfl rfl <| s_irem 6 rfl g_2 <| s_iret 7 rfl
  · obtain rfl := Option.some.inj e
    exact s_if_ne_F 1 8 rfl (by decide) (Decidable.not_not.mp g_1) <| s_iconst 0 2 rfl (by decide) <| s_goto 3 11 rfl (by decide) <| s_iret 7 rfl
def fX3_isAsName (x1 : Int32) (x2 : Int32) (h : Sto) : Option Bool :=
  grd (inb x1 14) <| (fX8_rest x2 (h 5 (Int32.toNatClampNeg x1)) h).bind fun q_2 => if ¬ q_2 = 0 then (some false) else (some true)
set_option maxRecDepth 100000 in
set_option maxHeartbeats 4000000 in
theorem okX3_isAsName (d : Nat) (x1 : Int32) (x2 : Int32) (h : Sto) (q : Bool) (e : fX3_isAsName x1 x2 h = some q) : Ok yX3_isAsName cX3_isAsName 3 (some .boolean) (d + 1) [.ref 1, .int x1, .int x2] h (some (.int (b2i q))) h := by
  refine Ok_of (lst := kX3_isAsName) (own := RX3) ⟨by decide, rfl⟩ ckX3_isAsName (b2i_01 _) (Nat.le_of_ble_eq_true rfl) ?_
  unfold fX3_isAsName at e
  change Ev kX3_isAsName RX3 3 (d + 1) nox 0 [some (.ref 1), some (.int x1), some (.int x2)] [] h (some (.int (b2i q))) h
  obtain ⟨g_1, e⟩ := grdS e
  obtain ⟨q_2, e_3, e⟩ := bndS e
  refine s_iload_n 0 rfl rfl <| s_aload_n 1 rfl rfl <| s_getr 2 rfl fl_X3_12 sh_1 rfl <| s_getr 3 rfl fl_X3_40 sh_2 rfl <| s_iconst 1 4 rfl (by decide) <| s_aald2 5 5 rfl sh_3 (by decide) (by decide) <| s_iload_n 6 rfl rfl <| s_iald (Int32.toNatClampNeg x1) 7 rfl sh_5 g_1 rfl <| s_callSN 8 [.int x2, .int (h 5 (Int32.toNatClampNeg x1))] [] rfl ml_X3_63 yw_X8_rest (okX8_rest d _ _ _ _ e_3) rfl rfl (Nat.le_of_ble_eq_true rfl) <| ?_
  rcases iteS e with ⟨g_4, e⟩ | ⟨g_4, e⟩
  · obtain rfl := Option.some.inj e
    exact s_if_ne_T 9 22 rfl (by decide) g_4 <| s_iconst 0 12 rfl (by decide) <| s_iret 13 rfl
  · obtain rfl := Option.some.inj e
    exact s_if_ne_F 9 22 rfl (by decide) (Decidable.not_not.mp g_4) <| s_iconst 1 10 rfl (by decide) <| s_goto 11 23 rfl (by decide) <| s_iret 13 rfl
def fX8_hourOf (x0 : Int32) (h : Sto) : Option Int32 :=
  some (jrem (x0 / 100) 10)
set_option maxRecDepth 100000 in
set_option maxHeartbeats 4000000 in
theorem okX8_hourOf (d : Nat) (x0 : Int32) (h : Sto) (q : Int32) (e : fX8_hourOf x0 h = some q) : Ok yX8_hourOf cX8_hourOf 1 (some .int) d [.int x0] h (some (.int q)) h := by
  refine Ok_of (lst := kX8_hourOf) (own := RX8) ⟨by decide, rfl⟩ ckX8_hourOf trivial (Nat.le_of_ble_eq_true rfl) ?_
  unfold fX8_hourOf at e
  change Ev kX8_hourOf RX8 1 d nox 0 [some (.int x0)] [] h (some (.int q)) h
  obtain rfl := Option.some.inj e
  exact s_iload_n 0 rfl rfl <| s_bipush 100 1 rfl (by decide) <| s_idiv 2 rfl (by decide) <| s_bipush 10 3 rfl (by decide) <| s_irem 4 rfl (by decide) <| s_iret 5 rfl
def fX3_isInHours (x1 : Int32) (x2 : Int32) (h : Sto) : Option Bool :=
  grd (inb x1 14) <| (fX8_hourOf x2 h).bind fun q_2 => (fX8_hasBit (h 6 (Int32.toNatClampNeg x1)) q_2 h).bind fun q_4 => some q_4
set_option maxRecDepth 100000 in
set_option maxHeartbeats 4000000 in
theorem okX3_isInHours (d : Nat) (x1 : Int32) (x2 : Int32) (h : Sto) (q : Bool) (e : fX3_isInHours x1 x2 h = some q) : Ok yX3_isInHours cX3_isInHours 3 (some .boolean) (d + 1) [.ref 1, .int x1, .int x2] h (some (.int (b2i q))) h := by
  refine Ok_of (lst := kX3_isInHours) (own := RX3) ⟨by decide, rfl⟩ ckX3_isInHours (b2i_01 _) (Nat.le_of_ble_eq_true rfl) ?_
  unfold fX3_isInHours at e
  change Ev kX3_isInHours RX3 3 (d + 1) nox 0 [some (.ref 1), some (.int x1), some (.int x2)] [] h (some (.int (b2i q))) h
  obtain ⟨g_1, e⟩ := grdS e
  obtain ⟨q_2, e_3, e⟩ := bndS e
  obtain ⟨q_4, e_5, e⟩ := bndS e
  obtain rfl := Option.some.inj e
  exact s_aload_n 0 rfl rfl <| s_getr 1 rfl fl_X3_12 sh_1 rfl <| s_getr 2 rfl fl_X3_40 sh_2 rfl <| s_iconst 2 3 rfl (by decide) <| s_aald2 6 4 rfl sh_3 (by decide) (by decide) <| s_iload_n 5 rfl rfl <| s_iald (Int32.toNatClampNeg x1) 6 rfl sh_6 g_1 rfl <| s_iload_n 7 rfl rfl <| s_callSN 8 [.int x2] [.int (h 6 (Int32.toNatClampNeg x1))] rfl ml_X3_79 yw_X8_hourOf (okX8_hourOf d _ _ _ e_3) rfl rfl (Nat.le_of_ble_eq_true rfl) <| s_callSN 9 [.int (h 6 (Int32.toNatClampNeg x1)), .int q_2] [] rfl ml_X3_82 yw_X8_hasBit (okX8_hasBit d _ _ _ _ e_5) rfl rfl (Nat.le_of_ble_eq_true rfl) <| s_iret 10 rfl
def fX3_isAsPerson (x1 : Int32) (x2 : Int32) (h : Sto) : Option Bool :=
  (fX3_isAsName x1 x2 h).bind fun q_1 => if q_1 = true then ((fX3_isInHours x1 x2 h).bind fun q_4 => if q_4 = true then (some true) else (some false)) else (some false)
set_option maxRecDepth 100000 in
set_option maxHeartbeats 4000000 in
theorem okX3_isAsPerson (d : Nat) (x1 : Int32) (x2 : Int32) (h : Sto) (q : Bool) (e : fX3_isAsPerson x1 x2 h = some q) : Ok yX3_isAsPerson cX3_isAsPerson 3 (some .boolean) (d + 2) [.ref 1, .int x1, .int x2] h (some (.int (b2i q))) h := by
  refine Ok_of (lst := kX3_isAsPerson) (own := RX3) ⟨by decide, rfl⟩ ckX3_isAsPerson (b2i_01 _) (Nat.le_of_ble_eq_true rfl) ?_
  unfold fX3_isAsPerson at e
  change Ev kX3_isAsPerson RX3 3 (d + 2) nox 0 [some (.ref 1), some (.int x1), some (.int x2)] [] h (some (.int (b2i q))) h
  obtain ⟨q_1, e_2, e⟩ := bndS e
  refine s_aload_n 0 rfl rfl <| s_iload_n 1 rfl rfl <| s_iload_n 2 rfl rfl <| s_callV (b := 1) (ci := 3) 3 [.int x1, .int x2] [] rfl ml_X3_54 yw_X3_isAsName sh_1 rfl rfl (okX3_isAsName d _ _ _ _ e_2) rfl rfl (Nat.le_of_ble_eq_true rfl) <| ?_
  rcases iteS e with ⟨g_3, e⟩ | ⟨g_3, e⟩
  · obtain ⟨q_4, e_5, e⟩ := bndS e
    refine s_if_eq_F 4 22 rfl (by decide) (b2i_T g_3) <| s_aload_n 5 rfl rfl <| s_iload_n 6 rfl rfl <| s_iload_n 7 rfl rfl <| s_callV (b := 1) (ci := 3) 8 [.int x1, .int x2] [] rfl ml_X3_51 yw_X3_isInHours sh_1 rfl rfl (okX3_isInHours d _ _ _ _ e_5) rfl rfl (Nat.le_of_ble_eq_true rfl) <| ?_
    rcases iteS e with ⟨g_6, e⟩ | ⟨g_6, e⟩
    · obtain rfl := Option.some.inj e
      exact s_if_eq_F 9 22 rfl (by decide) (b2i_T g_6) <| s_iconst 1 10 rfl (by decide) <| s_goto 11 23 rfl (by decide) <| s_iret 13 rfl
    · obtain rfl := Option.some.inj e
      exact s_if_eq_T 9 22 rfl (by decide) (b2i_F g_6) <| s_iconst 0 12 rfl (by decide) <| s_iret 13 rfl
  · obtain rfl := Option.some.inj e
    exact s_if_eq_T 4 22 rfl (by decide) (b2i_F g_3) <| s_iconst 0 12 rfl (by decide) <| s_iret 13 rfl
def fX8_cut (x0 : Int32) (x1 : Int32) (h : Sto) : Option Int32 :=
  if ¬ x1 = 0 then (grd (¬ x1 = 0) <| some (x0 / x1)) else (some 0)
set_option maxRecDepth 100000 in
set_option maxHeartbeats 4000000 in
theorem okX8_cut (d : Nat) (x0 : Int32) (x1 : Int32) (h : Sto) (q : Int32) (e : fX8_cut x0 x1 h = some q) : Ok yX8_cut cX8_cut 2 (some .int) d [.int x0, .int x1] h (some (.int q)) h := by
  refine Ok_of (lst := kX8_cut) (own := RX8) ⟨by decide, rfl⟩ ckX8_cut trivial (Nat.le_of_ble_eq_true rfl) ?_
  unfold fX8_cut at e
  change Ev kX8_cut RX8 2 d nox 0 [some (.int x0), some (.int x1)] [] h (some (.int q)) h
  refine s_iload_n 0 rfl rfl <| ?_
  rcases iteS e with ⟨g_1, e⟩ | ⟨g_1, e⟩
  · obtain ⟨g_2, e⟩ := grdS e
    obtain rfl := Option.some.inj e
    exact s_if_ne_T 1 8 rfl (by decide) g_1 <| s_iload_n 4 rfl rfl <| s_iload_n 5 rfl rfl <| s_idiv 6 rfl g_2 <| s_iret 7 rfl
  · obtain rfl := Option.some.inj e
    exact s_if_ne_F 1 8 rfl (by decide) (Decidable.not_not.mp g_1) <| s_iconst 0 2 rfl (by decide) <| s_goto 3 11 rfl (by decide) <| s_iret 7 rfl
def fX3_isAsClock (x1 : Int32) (x2 : Int32) (h : Sto) : Option Bool :=
  grd (inb x1 14) <| (fX8_cut x2 (h 5 (Int32.toNatClampNeg x1)) h).bind fun q_2 => grd (inb x1 14) <| (fX8_rest ((7 * q_2) + (3 * x1)) ((h 7 (Int32.toNatClampNeg x1)) + 1) h).bind fun q_5 => (fX8_rest x2 (h 5 (Int32.toNatClampNeg x1)) h).bind fun q_7 => if ¬ q_7 = (jmin ((h 5 (Int32.toNatClampNeg x1)) - 1) q_5) then (some false) else (some true)
set_option maxRecDepth 100000 in
set_option maxHeartbeats 4000000 in
theorem okX3_isAsClock (d : Nat) (x1 : Int32) (x2 : Int32) (h : Sto) (q : Bool) (e : fX3_isAsClock x1 x2 h = some q) : Ok yX3_isAsClock cX3_isAsClock 6 (some .boolean) (d + 1) [.ref 1, .int x1, .int x2] h (some (.int (b2i q))) h := by
  refine Ok_of (lst := kX3_isAsClock) (own := RX3) ⟨by decide, rfl⟩ ckX3_isAsClock (b2i_01 _) (Nat.le_of_ble_eq_true rfl) ?_
  unfold fX3_isAsClock at e
  change Ev kX3_isAsClock RX3 6 (d + 1) nox 0 [some (.ref 1), some (.int x1), some (.int x2), none, none, none] [] h (some (.int (b2i q))) h
  obtain ⟨g_1, e⟩ := grdS e
  obtain ⟨q_2, e_3, e⟩ := bndS e
  obtain ⟨g_4, e⟩ := grdS e
  obtain ⟨q_5, e_6, e⟩ := bndS e
  obtain ⟨q_7, e_8, e⟩ := bndS e
  refine s_aload_n 0 rfl rfl <| s_getr 1 rfl fl_X3_12 sh_1 rfl <| s_getr 2 rfl fl_X3_40 sh_2 rfl <| s_iconst 1 3 rfl (by decide) <| s_aald2 5 4 rfl sh_3 (by decide) (by decide) <| s_iload_n 5 rfl rfl <| s_iald (Int32.toNatClampNeg x1) 6 rfl sh_5 g_1 rfl <| s_istore_n [some (.ref 1), some (.int x1), some (.int x2), some (.int (h 5 (Int32.toNatClampNeg x1))), none, none] 7 rfl (by decide) rfl <| s_bipush 7 8 rfl (by decide) <| s_iload_n 9 rfl rfl <| s_iload_n 10 rfl rfl <| s_callSN 11 [.int x2, .int (h 5 (Int32.toNatClampNeg x1))] [.int 7] rfl ml_X3_67 yw_X8_cut (okX8_cut d _ _ _ _ e_3) rfl rfl (Nat.le_of_ble_eq_true rfl) <| s_imul 12 rfl <| s_iconst 3 13 rfl (by decide) <| s_iload_n 14 rfl rfl <| s_imul 15 rfl <| s_iadd 16 rfl <| s_istore [some (.ref 1), some (.int x1), some (.int x2), some (.int (h 5 (Int32.toNatClampNeg x1))), some (.int ((7 * q_2) + (3 * x1))), none] 17 rfl (by decide) rfl <| s_iload 18 rfl rfl <| s_aload_n 19 rfl rfl <| s_getr 20 rfl fl_X3_12 sh_1 rfl <| s_getr 21 rfl fl_X3_40 sh_2 rfl <| s_iconst 3 22 rfl (by decide) <| s_aald2 7 23 rfl sh_3 (by decide) (by decide) <| s_iload_n 24 rfl rfl <| s_iald (Int32.toNatClampNeg x1) 25 rfl sh_7 g_4 rfl <| s_iconst 1 26 rfl (by decide) <| s_iadd 27 rfl <| s_callSN 28 [.int ((7 * q_2) + (3 * x1)), .int ((h 7 (Int32.toNatClampNeg x1)) + 1)] [] rfl ml_X3_63 yw_X8_rest (okX8_rest d _ _ _ _ e_6) rfl rfl (Nat.le_of_ble_eq_true rfl) <| s_istore [some (.ref 1), some (.int x1), some (.int x2), some (.int (h 5 (Int32.toNatClampNeg x1))), some (.int ((7 * q_2) + (3 * x1))), some (.int q_5)] 29 rfl (by decide) rfl <| s_iload_n 30 rfl rfl <| s_iload_n 31 rfl rfl <| s_callSN 32 [.int x2, .int (h 5 (Int32.toNatClampNeg x1))] [] rfl ml_X3_63 yw_X8_rest (okX8_rest d _ _ _ _ e_8) rfl rfl (Nat.le_of_ble_eq_true rfl) <| s_iload_n 33 rfl rfl <| s_iconst 1 34 rfl (by decide) <| s_isub 35 rfl <| s_iload 36 rfl rfl <| s_min 37 rfl ml_X3_70 wMin (Nat.le_of_ble_eq_true rfl) <| ?_
  rcases iteS e with ⟨g_9, e⟩ | ⟨g_9, e⟩
  · obtain rfl := Option.some.inj e
    exact s_icmp_ne_T 38 66 rfl (by decide) g_9 <| s_iconst 0 41 rfl (by decide) <| s_iret 42 rfl
  · obtain rfl := Option.some.inj e
    exact s_icmp_ne_F 38 66 rfl (by decide) (Decidable.not_not.mp g_9) <| s_iconst 1 39 rfl (by decide) <| s_goto 40 67 rfl (by decide) <| s_iret 42 rfl
def fX0_firstFrom_b10 (x1 : Int32) (h : Sto) (c2 : Int32) (c3 : Int32) (c4 : Int32) : Option ((Int32 × Int32 × Int32) ⊕ Int32) :=
  if 200 ≤ c4 then (some (.inr c2)) else (if c3 ≤ c2 then (some (.inr c2)) else (grd (inb ((c2 + c3) / 2) 200) <| if x1 ≤ (h 11 (Int32.toNatClampNeg ((c2 + c3) / 2))) then (some (.inl (c2, ((c2 + c3) / 2), (c4 + 1)))) else (some (.inl ((((c2 + c3) / 2) + 1), c3, (c4 + 1))))))
def fX0_firstFrom (x1 : Int32) (h : Sto) : Option Int32 :=
  (lp (fun s => fX0_firstFrom_b10 x1 h s.1 s.2.1 s.2.2) FUEL (0, (h 10 1), 0)).bind fun v_13 => some v_13
set_option maxRecDepth 100000 in
set_option maxHeartbeats 4000000 in
theorem okX0_firstFrom (d : Nat) (x1 : Int32) (h : Sto) (q : Int32) (e : fX0_firstFrom x1 h = some q) : Ok yX0_firstFrom cX0_firstFrom 6 (some .int) d [.ref 10, .int x1] h (some (.int q)) h := by
  refine Ok_of (lst := kX0_firstFrom) (own := RX0) ⟨by decide, rfl⟩ ckX0_firstFrom trivial (Nat.le_of_ble_eq_true rfl) ?_
  unfold fX0_firstFrom at e
  change Ev kX0_firstFrom RX0 6 d nox 0 [some (.ref 10), some (.int x1), none, none, none, none] [] h (some (.int q)) h
  obtain ⟨y_5, e_6, e⟩ := bndS e
  have kx_9 : ∀ v_13 : Int32, v_13 = y_5 → Ev kX0_firstFrom RX0 6 d nox 58 [none, none, some (.int v_13), none, none, none] [] h (some (.int q)) h := by
    intro v_13 hy
    subst hy
    obtain rfl := Option.some.inj e
    exact s_iload_n 34 rfl rfl <| s_iret 35 rfl
  refine s_iconst 0 0 rfl (by decide) <| s_istore_n [some (.ref 10), some (.int x1), some (.int 0), none, none, none] 1 rfl (by decide) rfl <| s_aload_n 2 rfl rfl <| s_geti 3 rfl fl_X0_28 sh_10 rfl <| s_istore_n [some (.ref 10), some (.int x1), some (.int 0), some (.int (h 10 1)), none, none] 4 rfl (by decide) rfl <| s_iconst 0 5 rfl (by decide) <| s_istore [some (.ref 10), some (.int x1), some (.int 0), some (.int (h 10 1)), some (.int 0), none] 6 rfl (by decide) rfl <| lpS (P := fun (s_12 : (Int32 × Int32 × Int32)) => Ev kX0_firstFrom RX0 6 d nox 10 [some (.ref 10), some (.int x1), some (.int s_12.1), some (.int s_12.2.1), some (.int s_12.2.2), none] [] h (some (.int q)) h) ?_ FUEL _ e_6
  intro s_12 o_11 e hk_7 hx_8
  unfold fX0_firstFrom_b10 at e
  refine s_iload 7 rfl rfl <| s_sipush 200 8 rfl (by decide) <| ?_
  rcases iteS e with ⟨g_15, e⟩ | ⟨g_15, e⟩
  · cases e
    exact s_icmp_ge_T 9 58 rfl (by decide) g_15 <| s_fgt [true, true, false, true, true] rfl <| (kx_9 s_12.1 (hx_8 _ rfl))
  · refine s_icmp_ge_F 9 58 rfl (by decide) g_15 <| s_iload_n 10 rfl rfl <| s_iload_n 11 rfl rfl <| ?_
    rcases iteS e with ⟨g_16, e⟩ | ⟨g_16, e⟩
    · cases e
      exact s_icmp_ge_T 12 58 rfl (by decide) g_16 <| s_fgt [true, true, false, true, true] rfl <| (kx_9 s_12.1 (hx_8 _ rfl))
    · obtain ⟨g_17, e⟩ := grdS e
      refine s_icmp_ge_F 12 58 rfl (by decide) g_16 <| s_iload_n 13 rfl rfl <| s_iload_n 14 rfl rfl <| s_iadd 15 rfl <| s_iconst 2 16 rfl (by decide) <| s_idiv 17 rfl (by decide) <| s_istore [some (.ref 10), some (.int x1), some (.int s_12.1), some (.int s_12.2.1), some (.int s_12.2.2), some (.int ((s_12.1 + s_12.2.1) / 2))] 18 rfl (by decide) rfl <| s_aload_n 19 rfl rfl <| s_getr 20 rfl fl_X0_9 sh_10 rfl <| s_iload 21 rfl rfl <| s_iald (Int32.toNatClampNeg ((s_12.1 + s_12.2.1) / 2)) 22 rfl sh_11 g_17 rfl <| s_iload_n 23 rfl rfl <| ?_
      rcases iteS e with ⟨g_18, e⟩ | ⟨g_18, e⟩
      · cases e
        exact s_icmp_ge_T 24 49 rfl (by decide) g_18 <| s_iload 30 rfl rfl <| s_istore_n [some (.ref 10), some (.int x1), some (.int s_12.1), some (.int ((s_12.1 + s_12.2.1) / 2)), some (.int s_12.2.2), some (.int ((s_12.1 + s_12.2.1) / 2))] 31 rfl (by decide) rfl <| s_iinc 1 [some (.ref 10), some (.int x1), some (.int s_12.1), some (.int ((s_12.1 + s_12.2.1) / 2)), some (.int (s_12.2.2 + 1)), some (.int ((s_12.1 + s_12.2.1) / 2))] 32 rfl (by decide) rfl (by decide) rfl <| s_goto 33 10 rfl (by decide) <| s_fgt [false, false, false, false, false, true] rfl <| (hk_7 (s_12.1, ((s_12.1 + s_12.2.1) / 2), (s_12.2.2 + 1)) rfl)
      · cases e
        exact s_icmp_ge_F 24 49 rfl (by decide) g_18 <| s_iload 25 rfl rfl <| s_iconst 1 26 rfl (by decide) <| s_iadd 27 rfl <| s_istore_n [some (.ref 10), some (.int x1), some (.int (((s_12.1 + s_12.2.1) / 2) + 1)), some (.int s_12.2.1), some (.int s_12.2.2), some (.int ((s_12.1 + s_12.2.1) / 2))] 28 rfl (by decide) rfl <| s_goto 29 52 rfl (by decide) <| s_iinc 1 [some (.ref 10), some (.int x1), some (.int (((s_12.1 + s_12.2.1) / 2) + 1)), some (.int s_12.2.1), some (.int (s_12.2.2 + 1)), some (.int ((s_12.1 + s_12.2.1) / 2))] 32 rfl (by decide) rfl (by decide) rfl <| s_goto 33 10 rfl (by decide) <| s_fgt [false, false, false, false, false, true] rfl <| (hk_7 ((((s_12.1 + s_12.2.1) / 2) + 1), s_12.2.1, (s_12.2.2 + 1)) rfl)
def fX0_speakersBetween_b9 (x2 : Int32) (h : Sto) (c3 : Int32) (c4 : Int32) : Option ((Int32 × Int32) ⊕ Int32) :=
  if (h 10 1) ≤ c4 then (some (.inr c3)) else (grd (inb c4 200) <| if x2 < (h 11 (Int32.toNatClampNeg c4)) then (some (.inr c3)) else (grd (inb c4 200) <| some (.inl ((c3 ||| (jshl 1 (h 12 (Int32.toNatClampNeg c4)))), (c4 + 1)))))
def fX0_speakersBetween (x1 : Int32) (x2 : Int32) (h : Sto) : Option Int32 :=
  (fX0_firstFrom x1 h).bind fun q_1 => (lp (fun s => fX0_speakersBetween_b9 x2 h s.1 s.2) FUEL (0, q_1)).bind fun v_15 => some v_15
set_option maxRecDepth 100000 in
set_option maxHeartbeats 4000000 in
theorem okX0_speakersBetween (d : Nat) (x1 : Int32) (x2 : Int32) (h : Sto) (q : Int32) (e : fX0_speakersBetween x1 x2 h = some q) : Ok yX0_speakersBetween cX0_speakersBetween 5 (some .int) (d + 1) [.ref 10, .int x1, .int x2] h (some (.int q)) h := by
  refine Ok_of (lst := kX0_speakersBetween) (own := RX0) ⟨by decide, rfl⟩ ckX0_speakersBetween trivial (Nat.le_of_ble_eq_true rfl) ?_
  unfold fX0_speakersBetween at e
  change Ev kX0_speakersBetween RX0 5 (d + 1) nox 0 [some (.ref 10), some (.int x1), some (.int x2), none, none] [] h (some (.int q)) h
  obtain ⟨q_1, e_2, e⟩ := bndS e
  obtain ⟨y_7, e_8, e⟩ := bndS e
  have kx_11 : ∀ v_15 : Int32, v_15 = y_7 → Ev kX0_speakersBetween RX0 5 (d + 1) nox 47 [none, none, none, some (.int v_15), none] [] h (some (.int q)) h := by
    intro v_15 hy
    subst hy
    obtain rfl := Option.some.inj e
    exact s_iload_n 27 rfl rfl <| s_iret 28 rfl
  refine s_iconst 0 0 rfl (by decide) <| s_istore_n [some (.ref 10), some (.int x1), some (.int x2), some (.int 0), none] 1 rfl (by decide) rfl <| s_aload_n 2 rfl rfl <| s_iload_n 3 rfl rfl <| s_callV (b := 10) (ci := 0) 4 [.int x1] [] rfl ml_X0_54 yw_X0_firstFrom sh_10 rfl rfl (okX0_firstFrom d _ _ _ e_2) rfl rfl (Nat.le_of_ble_eq_true rfl) <| s_istore [some (.ref 10), some (.int x1), some (.int x2), some (.int 0), some (.int q_1)] 5 rfl (by decide) rfl <| s_fgt [false, true] rfl <| lpS (P := fun (s_14 : (Int32 × Int32)) => Ev kX0_speakersBetween RX0 5 (d + 1) nox 9 [some (.ref 10), none, some (.int x2), some (.int s_14.1), some (.int s_14.2)] [] h (some (.int q)) h) ?_ FUEL _ e_8
  intro s_14 o_13 e hk_9 hx_10
  unfold fX0_speakersBetween_b9 at e
  refine s_iload 6 rfl rfl <| s_aload_n 7 rfl rfl <| s_geti 8 rfl fl_X0_28 sh_10 rfl <| ?_
  rcases iteS e with ⟨g_17, e⟩ | ⟨g_17, e⟩
  · cases e
    exact s_icmp_ge_T 9 47 rfl (by decide) g_17 <| s_fgt [true, false, true, false, true] rfl <| (kx_11 s_14.1 (hx_10 _ rfl))
  · obtain ⟨g_18, e⟩ := grdS e
    refine s_icmp_ge_F 9 47 rfl (by decide) g_17 <| s_aload_n 10 rfl rfl <| s_getr 11 rfl fl_X0_9 sh_10 rfl <| s_iload 12 rfl rfl <| s_iald (Int32.toNatClampNeg s_14.2) 13 rfl sh_11 g_18 rfl <| s_iload_n 14 rfl rfl <| ?_
    rcases iteS e with ⟨g_19, e⟩ | ⟨g_19, e⟩
    · cases e
      exact s_icmp_gt_T 15 47 rfl (by decide) g_19 <| s_fgt [true, false, true, false, true] rfl <| (kx_11 s_14.1 (hx_10 _ rfl))
    · obtain ⟨g_20, e⟩ := grdS e
      cases e
      exact s_icmp_gt_F 15 47 rfl (by decide) g_19 <| s_iload_n 16 rfl rfl <| s_iconst 1 17 rfl (by decide) <| s_aload_n 18 rfl rfl <| s_getr 19 rfl fl_X0_15 sh_10 rfl <| s_iload 20 rfl rfl <| s_iald (Int32.toNatClampNeg s_14.2) 21 rfl sh_12 g_20 rfl <| s_ishl 22 rfl <| s_ior 23 rfl <| s_istore_n [some (.ref 10), none, some (.int x2), some (.int (s_14.1 ||| (jshl 1 (h 12 (Int32.toNatClampNeg s_14.2))))), some (.int s_14.2)] 24 rfl (by decide) rfl <| s_iinc 1 [some (.ref 10), none, some (.int x2), some (.int (s_14.1 ||| (jshl 1 (h 12 (Int32.toNatClampNeg s_14.2))))), some (.int (s_14.2 + 1))] 25 rfl (by decide) rfl (by decide) rfl <| s_goto 26 9 rfl (by decide) <| (hk_9 ((s_14.1 ||| (jshl 1 (h 12 (Int32.toNatClampNeg s_14.2)))), (s_14.2 + 1)) rfl)
def fX3_isBehindLeader (x1 : Int32) (x2 : Int32) (h : Sto) : Option Bool :=
  grd (inb x1 14) <| if (h 8 (Int32.toNatClampNeg x1)) < 0 then (some false) else ((fX0_speakersBetween (x2 - 1) (x2 - 1) h).bind fun q_3 => (fX8_hasBit q_3 (h 8 (Int32.toNatClampNeg x1)) h).bind fun q_5 => if q_5 = true then (some true) else (some false))
set_option maxRecDepth 100000 in
set_option maxHeartbeats 4000000 in
theorem okX3_isBehindLeader (d : Nat) (x1 : Int32) (x2 : Int32) (h : Sto) (q : Bool) (e : fX3_isBehindLeader x1 x2 h = some q) : Ok yX3_isBehindLeader cX3_isBehindLeader 4 (some .boolean) (d + 2) [.ref 1, .int x1, .int x2] h (some (.int (b2i q))) h := by
  refine Ok_of (lst := kX3_isBehindLeader) (own := RX3) ⟨by decide, rfl⟩ ckX3_isBehindLeader (b2i_01 _) (Nat.le_of_ble_eq_true rfl) ?_
  unfold fX3_isBehindLeader at e
  change Ev kX3_isBehindLeader RX3 4 (d + 2) nox 0 [some (.ref 1), some (.int x1), some (.int x2), none] [] h (some (.int (b2i q))) h
  obtain ⟨g_1, e⟩ := grdS e
  refine s_aload_n 0 rfl rfl <| s_getr 1 rfl fl_X3_12 sh_1 rfl <| s_getr 2 rfl fl_X3_40 sh_2 rfl <| s_iconst 4 3 rfl (by decide) <| s_aald2 8 4 rfl sh_3 (by decide) (by decide) <| s_iload_n 5 rfl rfl <| s_iald (Int32.toNatClampNeg x1) 6 rfl sh_8 g_1 rfl <| s_istore_n [some (.ref 1), some (.int x1), some (.int x2), some (.int (h 8 (Int32.toNatClampNeg x1)))] 7 rfl (by decide) rfl <| s_iload_n 8 rfl rfl <| ?_
  rcases iteS e with ⟨g_2, e⟩ | ⟨g_2, e⟩
  · obtain rfl := Option.some.inj e
    exact s_if_lt_T 9 40 rfl (by decide) g_2 <| s_iconst 0 24 rfl (by decide) <| s_iret 25 rfl
  · obtain ⟨q_3, e_4, e⟩ := bndS e
    obtain ⟨q_5, e_6, e⟩ := bndS e
    refine s_if_lt_F 9 40 rfl (by decide) g_2 <| s_aload_n 10 rfl rfl <| s_getr 11 rfl fl_X3_21 sh_1 rfl <| s_iload_n 12 rfl rfl <| s_iconst 1 13 rfl (by decide) <| s_isub 14 rfl <| s_iload_n 15 rfl rfl <| s_iconst 1 16 rfl (by decide) <| s_isub 17 rfl <| s_callV (b := 10) (ci := 0) 18 [.int (x2 - 1), .int (x2 - 1)] [] rfl ml_X3_85 yw_X0_speakersBetween sh_10 rfl rfl (okX0_speakersBetween d _ _ _ _ e_4) rfl rfl (Nat.le_of_ble_eq_true rfl) <| s_iload_n 19 rfl rfl <| s_callSN 20 [.int q_3, .int (h 8 (Int32.toNatClampNeg x1))] [] rfl ml_X3_82 yw_X8_hasBit (okX8_hasBit (d + 1) _ _ _ _ e_6) rfl rfl (Nat.le_of_ble_eq_true rfl) <| ?_
    rcases iteS e with ⟨g_7, e⟩ | ⟨g_7, e⟩
    · obtain rfl := Option.some.inj e
      exact s_if_eq_F 21 40 rfl (by decide) (b2i_T g_7) <| s_iconst 1 22 rfl (by decide) <| s_goto 23 41 rfl (by decide) <| s_iret 25 rfl
    · obtain rfl := Option.some.inj e
      exact s_if_eq_T 21 40 rfl (by decide) (b2i_F g_7) <| s_iconst 0 24 rfl (by decide) <| s_iret 25 rfl
def fX8_dayOf (x0 : Int32) (h : Sto) : Option Int32 :=
  some (x0 / 1000)
set_option maxRecDepth 100000 in
set_option maxHeartbeats 4000000 in
theorem okX8_dayOf (d : Nat) (x0 : Int32) (h : Sto) (q : Int32) (e : fX8_dayOf x0 h = some q) : Ok yX8_dayOf cX8_dayOf 1 (some .int) d [.int x0] h (some (.int q)) h := by
  refine Ok_of (lst := kX8_dayOf) (own := RX8) ⟨by decide, rfl⟩ ckX8_dayOf trivial (Nat.le_of_ble_eq_true rfl) ?_
  unfold fX8_dayOf at e
  change Ev kX8_dayOf RX8 1 d nox 0 [some (.int x0)] [] h (some (.int q)) h
  obtain rfl := Option.some.inj e
  exact s_iload_n 0 rfl rfl <| s_sipush 1000 1 rfl (by decide) <| s_idiv 2 rfl (by decide) <| s_iret 3 rfl
def fX3_isAsHalf (x1 : Int32) (x2 : Int32) (h : Sto) : Option Bool :=
  (fX8_dayOf x2 h).bind fun q_1 => if ¬ (jrem q_1 7) = 6 then ((fX3_isAsName x1 x2 h).bind fun q_4 => some q_4) else ((fX3_isAsClock x1 x2 h).bind fun q_6 => some q_6)
set_option maxRecDepth 100000 in
set_option maxHeartbeats 4000000 in
theorem okX3_isAsHalf (d : Nat) (x1 : Int32) (x2 : Int32) (h : Sto) (q : Bool) (e : fX3_isAsHalf x1 x2 h = some q) : Ok yX3_isAsHalf cX3_isAsHalf 3 (some .boolean) (d + 2) [.ref 1, .int x1, .int x2] h (some (.int (b2i q))) h := by
  refine Ok_of (lst := kX3_isAsHalf) (own := RX3) ⟨by decide, rfl⟩ ckX3_isAsHalf (b2i_01 _) (Nat.le_of_ble_eq_true rfl) ?_
  unfold fX3_isAsHalf at e
  change Ev kX3_isAsHalf RX3 3 (d + 2) nox 0 [some (.ref 1), some (.int x1), some (.int x2)] [] h (some (.int (b2i q))) h
  obtain ⟨q_1, e_2, e⟩ := bndS e
  refine s_iload_n 0 rfl rfl <| s_callSN 1 [.int x2] [] rfl ml_X3_75 yw_X8_dayOf (okX8_dayOf (d + 1) _ _ _ e_2) rfl rfl (Nat.le_of_ble_eq_true rfl) <| s_bipush 7 2 rfl (by decide) <| s_irem 3 rfl (by decide) <| s_bipush 6 4 rfl (by decide) <| ?_
  rcases iteS e with ⟨g_3, e⟩ | ⟨g_3, e⟩
  · obtain ⟨q_4, e_5, e⟩ := bndS e
    obtain rfl := Option.some.inj e
    exact s_icmp_ne_T 5 21 rfl (by decide) g_3 <| s_aload_n 11 rfl rfl <| s_iload_n 12 rfl rfl <| s_iload_n 13 rfl rfl <| s_callV (b := 1) (ci := 3) 14 [.int x1, .int x2] [] rfl ml_X3_54 yw_X3_isAsName sh_1 rfl rfl (okX3_isAsName d _ _ _ _ e_5) rfl rfl (Nat.le_of_ble_eq_true rfl) <| s_iret 15 rfl
  · obtain ⟨q_6, e_7, e⟩ := bndS e
    obtain rfl := Option.some.inj e
    exact s_icmp_ne_F 5 21 rfl (by decide) (Decidable.not_not.mp g_3) <| s_aload_n 6 rfl rfl <| s_iload_n 7 rfl rfl <| s_iload_n 8 rfl rfl <| s_callV (b := 1) (ci := 3) 9 [.int x1, .int x2] [] rfl ml_X3_48 yw_X3_isAsClock sh_1 rfl rfl (okX3_isAsClock d _ _ _ _ e_7) rfl rfl (Nat.le_of_ble_eq_true rfl) <| s_goto 10 27 rfl (by decide) <| s_iret 15 rfl
def fX3_isSpeaking (x1 : Int32) (x2 : Int32) (h : Sto) : Option Bool :=
  grd (inb x1 14) <| if (h 4 (Int32.toNatClampNeg x1)) < 1 ∨ 7 < (h 4 (Int32.toNatClampNeg x1)) then ((fX3_isAsName x1 x2 h).bind fun q_3 => some q_3) else if (h 4 (Int32.toNatClampNeg x1)) = 1 then ((fX3_isAsPerson x1 x2 h).bind fun q_6 => some q_6) else if (h 4 (Int32.toNatClampNeg x1)) = 2 then ((fX3_isAsClock x1 x2 h).bind fun q_9 => some q_9) else if (h 4 (Int32.toNatClampNeg x1)) = 3 then ((fX3_isAsPerson x1 x2 h).bind fun q_12 => some q_12) else if (h 4 (Int32.toNatClampNeg x1)) = 4 then ((fX3_isAsClock x1 x2 h).bind fun q_15 => if q_15 = true then ((fX3_isInHours x1 x2 h).bind fun q_18 => if q_18 = true then (some true) else (some false)) else (some false)) else if (h 4 (Int32.toNatClampNeg x1)) = 5 then (if x2 < (2 * x1) then (some false) else ((fX3_isAsName x1 (x2 - (2 * x1)) h).bind fun q_23 => if q_23 = true then (some true) else (some false))) else if (h 4 (Int32.toNatClampNeg x1)) = 6 then ((fX3_isAsPerson x1 x2 h).bind fun q_27 => if q_27 = true then (some true) else ((fX3_isBehindLeader x1 x2 h).bind fun q_30 => if q_30 = true then (some true) else (some false))) else if (h 4 (Int32.toNatClampNeg x1)) = 7 then ((fX3_isAsHalf x1 x2 h).bind fun q_34 => if q_34 = true then ((fX3_isInHours x1 x2 h).bind fun q_37 => if q_37 = true then (some true) else (some false)) else (some false)) else none
set_option maxRecDepth 100000 in
set_option maxHeartbeats 4000000 in
theorem okX3_isSpeaking (d : Nat) (x1 : Int32) (x2 : Int32) (h : Sto) (q : Bool) (e : fX3_isSpeaking x1 x2 h = some q) : Ok yX3_isSpeaking cX3_isSpeaking 3 (some .boolean) (d + 3) [.ref 1, .int x1, .int x2] h (some (.int (b2i q))) h := by
  refine Ok_of (lst := kX3_isSpeaking) (own := RX3) ⟨by decide, rfl⟩ ckX3_isSpeaking (b2i_01 _) (Nat.le_of_ble_eq_true rfl) ?_
  unfold fX3_isSpeaking at e
  change Ev kX3_isSpeaking RX3 3 (d + 3) nox 0 [some (.ref 1), some (.int x1), some (.int x2)] [] h (some (.int (b2i q))) h
  obtain ⟨g_1, e⟩ := grdS e
  refine s_aload_n 0 rfl rfl <| s_getr 1 rfl fl_X3_12 sh_1 rfl <| s_getr 2 rfl fl_X3_40 sh_2 rfl <| s_iconst 0 3 rfl (by decide) <| s_aald2 4 4 rfl sh_3 (by decide) (by decide) <| s_iload_n 5 rfl rfl <| s_iald (Int32.toNatClampNeg x1) 6 rfl sh_4 g_1 rfl <| ?_
  rcases iteS e with ⟨g_2, e⟩ | ⟨g_2, e⟩
  · obtain ⟨q_3, e_4, e⟩ := bndS e
    obtain rfl := Option.some.inj e
    exact s_swOut 1 7 7 164 rfl g_2 (by decide) <| s_aload_n 78 rfl rfl <| s_iload_n 79 rfl rfl <| s_iload_n 80 rfl rfl <| s_callV (b := 1) (ci := 3) 81 [.int x1, .int x2] [] rfl ml_X3_54 yw_X3_isAsName sh_1 rfl rfl (okX3_isAsName (d + 1) _ _ _ _ e_4) rfl rfl (Nat.le_of_ble_eq_true rfl) <| s_iret 82 rfl
  rcases iteS e with ⟨g_5, e⟩ | ⟨g_5, e⟩
  · obtain ⟨q_6, e_7, e⟩ := bndS e
    obtain rfl := Option.some.inj e
    exact s_swIn (off := 41) 1 7 52 rfl g_5 (by decide) <| s_aload_n 8 rfl rfl <| s_iload_n 9 rfl rfl <| s_iload_n 10 rfl rfl <| s_callV (b := 1) (ci := 3) 11 [.int x1, .int x2] [] rfl ml_X3_44 yw_X3_isAsPerson sh_1 rfl rfl (okX3_isAsPerson d _ _ _ _ e_7) rfl rfl (Nat.le_of_ble_eq_true rfl) <| s_iret 12 rfl
  rcases iteS e with ⟨g_8, e⟩ | ⟨g_8, e⟩
  · obtain ⟨q_9, e_10, e⟩ := bndS e
    obtain rfl := Option.some.inj e
    exact s_swIn (off := 48) 2 7 59 rfl g_8 (by decide) <| s_aload_n 13 rfl rfl <| s_iload_n 14 rfl rfl <| s_iload_n 15 rfl rfl <| s_callV (b := 1) (ci := 3) 16 [.int x1, .int x2] [] rfl ml_X3_48 yw_X3_isAsClock sh_1 rfl rfl (okX3_isAsClock (d + 1) _ _ _ _ e_10) rfl rfl (Nat.le_of_ble_eq_true rfl) <| s_iret 17 rfl
  rcases iteS e with ⟨g_11, e⟩ | ⟨g_11, e⟩
  · obtain ⟨q_12, e_13, e⟩ := bndS e
    obtain rfl := Option.some.inj e
    exact s_swIn (off := 41) 3 7 52 rfl g_11 (by decide) <| s_aload_n 8 rfl rfl <| s_iload_n 9 rfl rfl <| s_iload_n 10 rfl rfl <| s_callV (b := 1) (ci := 3) 11 [.int x1, .int x2] [] rfl ml_X3_44 yw_X3_isAsPerson sh_1 rfl rfl (okX3_isAsPerson d _ _ _ _ e_13) rfl rfl (Nat.le_of_ble_eq_true rfl) <| s_iret 12 rfl
  rcases iteS e with ⟨g_14, e⟩ | ⟨g_14, e⟩
  · obtain ⟨q_15, e_16, e⟩ := bndS e
    refine s_swIn (off := 55) 4 7 66 rfl g_14 (by decide) <| s_aload_n 18 rfl rfl <| s_iload_n 19 rfl rfl <| s_iload_n 20 rfl rfl <| s_callV (b := 1) (ci := 3) 21 [.int x1, .int x2] [] rfl ml_X3_48 yw_X3_isAsClock sh_1 rfl rfl (okX3_isAsClock (d + 1) _ _ _ _ e_16) rfl rfl (Nat.le_of_ble_eq_true rfl) <| ?_
    rcases iteS e with ⟨g_17, e⟩ | ⟨g_17, e⟩
    · obtain ⟨q_18, e_19, e⟩ := bndS e
      refine s_if_eq_F 22 88 rfl (by decide) (b2i_T g_17) <| s_aload_n 23 rfl rfl <| s_iload_n 24 rfl rfl <| s_iload_n 25 rfl rfl <| s_callV (b := 1) (ci := 3) 26 [.int x1, .int x2] [] rfl ml_X3_51 yw_X3_isInHours sh_1 rfl rfl (okX3_isInHours (d + 1) _ _ _ _ e_19) rfl rfl (Nat.le_of_ble_eq_true rfl) <| ?_
      rcases iteS e with ⟨g_20, e⟩ | ⟨g_20, e⟩
      · obtain rfl := Option.some.inj e
        exact s_if_eq_F 27 88 rfl (by decide) (b2i_T g_20) <| s_iconst 1 28 rfl (by decide) <| s_goto 29 89 rfl (by decide) <| s_iret 31 rfl
      · obtain rfl := Option.some.inj e
        exact s_if_eq_T 27 88 rfl (by decide) (b2i_F g_20) <| s_iconst 0 30 rfl (by decide) <| s_iret 31 rfl
    · obtain rfl := Option.some.inj e
      exact s_if_eq_T 22 88 rfl (by decide) (b2i_F g_17) <| s_iconst 0 30 rfl (by decide) <| s_iret 31 rfl
  rcases iteS e with ⟨g_21, e⟩ | ⟨g_21, e⟩
  · refine s_swIn (off := 79) 5 7 90 rfl g_21 (by decide) <| s_iload_n 32 rfl rfl <| s_iconst 2 33 rfl (by decide) <| s_iload_n 34 rfl rfl <| s_imul 35 rfl <| ?_
    rcases iteS e with ⟨g_22, e⟩ | ⟨g_22, e⟩
    · obtain rfl := Option.some.inj e
      exact s_icmp_lt_T 36 114 rfl (by decide) g_22 <| s_iconst 0 48 rfl (by decide) <| s_iret 49 rfl
    · obtain ⟨q_23, e_24, e⟩ := bndS e
      refine s_icmp_lt_F 36 114 rfl (by decide) g_22 <| s_aload_n 37 rfl rfl <| s_iload_n 38 rfl rfl <| s_iload_n 39 rfl rfl <| s_iconst 2 40 rfl (by decide) <| s_iload_n 41 rfl rfl <| s_imul 42 rfl <| s_isub 43 rfl <| s_callV (b := 1) (ci := 3) 44 [.int x1, .int (x2 - (2 * x1))] [] rfl ml_X3_54 yw_X3_isAsName sh_1 rfl rfl (okX3_isAsName (d + 1) _ _ _ _ e_24) rfl rfl (Nat.le_of_ble_eq_true rfl) <| ?_
      rcases iteS e with ⟨g_25, e⟩ | ⟨g_25, e⟩
      · obtain rfl := Option.some.inj e
        exact s_if_eq_F 45 114 rfl (by decide) (b2i_T g_25) <| s_iconst 1 46 rfl (by decide) <| s_goto 47 115 rfl (by decide) <| s_iret 49 rfl
      · obtain rfl := Option.some.inj e
        exact s_if_eq_T 45 114 rfl (by decide) (b2i_F g_25) <| s_iconst 0 48 rfl (by decide) <| s_iret 49 rfl
  rcases iteS e with ⟨g_26, e⟩ | ⟨g_26, e⟩
  · obtain ⟨q_27, e_28, e⟩ := bndS e
    refine s_swIn (off := 105) 6 7 116 rfl g_26 (by decide) <| s_aload_n 50 rfl rfl <| s_iload_n 51 rfl rfl <| s_iload_n 52 rfl rfl <| s_callV (b := 1) (ci := 3) 53 [.int x1, .int x2] [] rfl ml_X3_44 yw_X3_isAsPerson sh_1 rfl rfl (okX3_isAsPerson d _ _ _ _ e_28) rfl rfl (Nat.le_of_ble_eq_true rfl) <| ?_
    rcases iteS e with ⟨g_29, e⟩ | ⟨g_29, e⟩
    · obtain rfl := Option.some.inj e
      exact s_if_ne_T 54 134 rfl (by decide) (b2i_T g_29) <| s_iconst 1 60 rfl (by decide) <| s_goto 61 139 rfl (by decide) <| s_iret 63 rfl
    · obtain ⟨q_30, e_31, e⟩ := bndS e
      refine s_if_ne_F 54 134 rfl (by decide) (b2i_F g_29) <| s_aload_n 55 rfl rfl <| s_iload_n 56 rfl rfl <| s_iload_n 57 rfl rfl <| s_callV (b := 1) (ci := 3) 58 [.int x1, .int x2] [] rfl ml_X3_57 yw_X3_isBehindLeader sh_1 rfl rfl (okX3_isBehindLeader d _ _ _ _ e_31) rfl rfl (Nat.le_of_ble_eq_true rfl) <| ?_
      rcases iteS e with ⟨g_32, e⟩ | ⟨g_32, e⟩
      · obtain rfl := Option.some.inj e
        exact s_if_eq_F 59 138 rfl (by decide) (b2i_T g_32) <| s_iconst 1 60 rfl (by decide) <| s_goto 61 139 rfl (by decide) <| s_iret 63 rfl
      · obtain rfl := Option.some.inj e
        exact s_if_eq_T 59 138 rfl (by decide) (b2i_F g_32) <| s_iconst 0 62 rfl (by decide) <| s_iret 63 rfl
  rcases iteS e with ⟨g_33, e⟩ | ⟨g_33, e⟩
  · obtain ⟨q_34, e_35, e⟩ := bndS e
    refine s_swIn (off := 129) 7 7 140 rfl g_33 (by decide) <| s_aload_n 64 rfl rfl <| s_iload_n 65 rfl rfl <| s_iload_n 66 rfl rfl <| s_callV (b := 1) (ci := 3) 67 [.int x1, .int x2] [] rfl ml_X3_60 yw_X3_isAsHalf sh_1 rfl rfl (okX3_isAsHalf d _ _ _ _ e_35) rfl rfl (Nat.le_of_ble_eq_true rfl) <| ?_
    rcases iteS e with ⟨g_36, e⟩ | ⟨g_36, e⟩
    · obtain ⟨q_37, e_38, e⟩ := bndS e
      refine s_if_eq_F 68 162 rfl (by decide) (b2i_T g_36) <| s_aload_n 69 rfl rfl <| s_iload_n 70 rfl rfl <| s_iload_n 71 rfl rfl <| s_callV (b := 1) (ci := 3) 72 [.int x1, .int x2] [] rfl ml_X3_51 yw_X3_isInHours sh_1 rfl rfl (okX3_isInHours (d + 1) _ _ _ _ e_38) rfl rfl (Nat.le_of_ble_eq_true rfl) <| ?_
      rcases iteS e with ⟨g_39, e⟩ | ⟨g_39, e⟩
      · obtain rfl := Option.some.inj e
        exact s_if_eq_F 73 162 rfl (by decide) (b2i_T g_39) <| s_iconst 1 74 rfl (by decide) <| s_goto 75 163 rfl (by decide) <| s_iret 77 rfl
      · obtain rfl := Option.some.inj e
        exact s_if_eq_T 73 162 rfl (by decide) (b2i_F g_39) <| s_iconst 0 76 rfl (by decide) <| s_iret 77 rfl
    · obtain rfl := Option.some.inj e
      exact s_if_eq_T 68 162 rfl (by decide) (b2i_F g_36) <| s_iconst 0 76 rfl (by decide) <| s_iret 77 rfl
  cases e
def fX8_speaks (x1 : Int32) (x2 : Int32) (h : Sto) : Option (Int32 × Sto) :=
  (fX1_has x1 h).bind fun q_1 => if q_1 = true then ((fX8_isSecond x2 h).bind fun q_4 => if q_4 = true then ((fX3_isSpeaking x1 x2 h).bind fun q_7 => (fX8_asInt (b2i q_7) h).bind fun q_9 => some (q_9, h)) else ((fX8_tellFinding (-1000001) h).bind fun q_11 => some (q_11.1, q_11.2))) else ((fX8_tellFinding (-1000001) h).bind fun q_13 => some (q_13.1, q_13.2))
set_option maxRecDepth 100000 in
set_option maxHeartbeats 4000000 in
theorem okX8_speaks (d : Nat) (x1 : Int32) (x2 : Int32) (h : Sto) (qv : Int32) (qh : Sto) (e : fX8_speaks x1 x2 h = some (qv, qh)) : Ok yX8_speaks cX8_speaks 3 (some .int) (d + 4) [.ref 0, .int x1, .int x2] h (some (.int qv)) qh := by
  refine Ok_of (lst := kX8_speaks) (own := RX8) ⟨by decide, rfl⟩ ckX8_speaks trivial (Nat.le_of_ble_eq_true rfl) ?_
  unfold fX8_speaks at e
  change Ev kX8_speaks RX8 3 (d + 4) nox 0 [some (.ref 0), some (.int x1), some (.int x2)] [] h (some (.int qv)) qh
  obtain ⟨q_1, e_2, e⟩ := bndS e
  refine s_aload_n 0 rfl rfl <| s_getr 1 rfl fl_X8_12 sh_0 rfl <| s_getr 2 rfl fl_X8_74 sh_1 rfl <| s_iload_n 3 rfl rfl <| s_callV (b := 2) (ci := 1) 4 [.int x1] [] rfl ml_X8_88 yw_X1_has sh_2 rfl rfl (okX1_has (d + 2) _ _ _ e_2) rfl rfl (Nat.le_of_ble_eq_true rfl) <| ?_
  rcases iteS e with ⟨g_3, e⟩ | ⟨g_3, e⟩
  · obtain ⟨q_4, e_5, e⟩ := bndS e
    refine s_if_eq_F 5 21 rfl (by decide) (b2i_T g_3) <| s_iload_n 6 rfl rfl <| s_callS 7 [.int x2] [] rfl ml_X8_122 yw_X8_isSecond (okX8_isSecond (d + 2) _ _ _ e_5) rfl rfl (Nat.le_of_ble_eq_true rfl) <| ?_
    rcases iteS e with ⟨g_6, e⟩ | ⟨g_6, e⟩
    · obtain ⟨q_7, e_8, e⟩ := bndS e
      obtain ⟨q_9, e_10, e⟩ := bndS e
      obtain ⟨rfl, rfl⟩ := some2 e
      exact s_if_ne_T 8 28 rfl (by decide) (b2i_T g_6) <| s_aload_n 13 rfl rfl <| s_getr 14 rfl fl_X8_12 sh_0 rfl <| s_iload_n 15 rfl rfl <| s_iload_n 16 rfl rfl <| s_callV (b := 1) (ci := 3) 17 [.int x1, .int x2] [] rfl ml_X8_125 yw_X3_isSpeaking sh_1 rfl rfl (okX3_isSpeaking d _ _ _ _ e_8) rfl rfl (Nat.le_of_ble_eq_true rfl) <| s_callS 18 [.int (b2i q_7)] [] rfl ml_X8_99 yw_X8_asInt (okX8_asInt (d + 3) _ _ _ e_10) rfl rfl (Nat.le_of_ble_eq_true rfl) <| s_iret 19 rfl
    · obtain ⟨q_11, e_12, e⟩ := bndS e
      obtain ⟨rfl, rfl⟩ := some2 e
      exact s_if_ne_F 8 28 rfl (by decide) (b2i_F g_6) <| s_aload_n 9 rfl rfl <| s_ldc 10 rfl wc_X8_69 <| s_callV (b := 0) (ci := 8) 11 [.int (-1000001)] [] rfl ml_X8_70 yw_X8_tellFinding sh_0 rfl rfl (okX8_tellFinding (d + 2) _ _ q_11.1 q_11.2 e_12) rfl rfl (Nat.le_of_ble_eq_true rfl) <| s_iret 12 rfl
  · obtain ⟨q_13, e_14, e⟩ := bndS e
    obtain ⟨rfl, rfl⟩ := some2 e
    exact s_if_eq_T 5 21 rfl (by decide) (b2i_F g_3) <| s_aload_n 9 rfl rfl <| s_ldc 10 rfl wc_X8_69 <| s_callV (b := 0) (ci := 8) 11 [.int (-1000001)] [] rfl ml_X8_70 yw_X8_tellFinding sh_0 rfl rfl (okX8_tellFinding (d + 2) _ _ q_13.1 q_13.2 e_14) rfl rfl (Nat.le_of_ble_eq_true rfl) <| s_iret 12 rfl
def fX9_isSecond (x0 : Int32) (h : Sto) : Option Bool :=
  (fX9_in x0.toInt64 0 29999 h).bind fun q_1 => some q_1
set_option maxRecDepth 100000 in
set_option maxHeartbeats 4000000 in
theorem okX9_isSecond (d : Nat) (x0 : Int32) (h : Sto) (q : Bool) (e : fX9_isSecond x0 h = some q) : Ok yX9_isSecond cX9_isSecond 1 (some .boolean) (d + 1) [.int x0] h (some (.int (b2i q))) h := by
  refine Ok_of (lst := kX9_isSecond) (own := RX9) ⟨by decide, rfl⟩ ckX9_isSecond (b2i_01 _) (Nat.le_of_ble_eq_true rfl) ?_
  unfold fX9_isSecond at e
  change Ev kX9_isSecond RX9 1 (d + 1) nox 0 [some (.int x0)] [] h (some (.int (b2i q))) h
  obtain ⟨q_1, e_2, e⟩ := bndS e
  obtain rfl := Option.some.inj e
  exact s_iload_n 0 rfl rfl <| s_i2l 1 rfl <| s_lconst 0 2 rfl (by decide) <| s_ldc2_w 3 rfl wc_X9_56 <| s_callS 4 [.long x0.toInt64, .long 0, .long 29999] [] rfl ml_X9_48 yw_X9_in (okX9_in d _ _ _ _ _ e_2) rfl rfl (Nat.le_of_ble_eq_true rfl) <| s_iret 5 rfl
def fX9_hourOf (x0 : Int32) (h : Sto) : Option Int32 :=
  some (jrem (x0 / 100) 10)
set_option maxRecDepth 100000 in
set_option maxHeartbeats 4000000 in
theorem okX9_hourOf (d : Nat) (x0 : Int32) (h : Sto) (q : Int32) (e : fX9_hourOf x0 h = some q) : Ok yX9_hourOf cX9_hourOf 1 (some .int) d [.int x0] h (some (.int q)) h := by
  refine Ok_of (lst := kX9_hourOf) (own := RX9) ⟨by decide, rfl⟩ ckX9_hourOf trivial (Nat.le_of_ble_eq_true rfl) ?_
  unfold fX9_hourOf at e
  change Ev kX9_hourOf RX9 1 d nox 0 [some (.int x0)] [] h (some (.int q)) h
  obtain rfl := Option.some.inj e
  exact s_iload_n 0 rfl rfl <| s_bipush 100 1 rfl (by decide) <| s_idiv 2 rfl (by decide) <| s_bipush 10 3 rfl (by decide) <| s_irem 4 rfl (by decide) <| s_iret 5 rfl
def fX9_has (x0 : Int32) (x1 : Int32) (h : Sto) : Option Bool :=
  if ¬ ((jshr x0 x1) &&& 1) = 1 then (some false) else (some true)
set_option maxRecDepth 100000 in
set_option maxHeartbeats 4000000 in
theorem okX9_has (d : Nat) (x0 : Int32) (x1 : Int32) (h : Sto) (q : Bool) (e : fX9_has x0 x1 h = some q) : Ok yX9_has cX9_has 2 (some .boolean) d [.int x0, .int x1] h (some (.int (b2i q))) h := by
  refine Ok_of (lst := kX9_has) (own := RX9) ⟨by decide, rfl⟩ ckX9_has (b2i_01 _) (Nat.le_of_ble_eq_true rfl) ?_
  unfold fX9_has at e
  change Ev kX9_has RX9 2 d nox 0 [some (.int x0), some (.int x1)] [] h (some (.int (b2i q))) h
  refine s_iload_n 0 rfl rfl <| s_iload_n 1 rfl rfl <| s_ishr 2 rfl <| s_iconst 1 3 rfl (by decide) <| s_iand 4 rfl <| s_iconst 1 5 rfl (by decide) <| ?_
  rcases iteS e with ⟨g_1, e⟩ | ⟨g_1, e⟩
  · obtain rfl := Option.some.inj e
    exact s_icmp_ne_T 6 13 rfl (by decide) g_1 <| s_iconst 0 9 rfl (by decide) <| s_iret 10 rfl
  · obtain rfl := Option.some.inj e
    exact s_icmp_ne_F 6 13 rfl (by decide) (Decidable.not_not.mp g_1) <| s_iconst 1 7 rfl (by decide) <| s_goto 8 14 rfl (by decide) <| s_iret 10 rfl
def fX9_isAwake (x1 : Int32) (x2 : Int32) (h : Sto) : Option Bool :=
  (fX9_of x1 2 h).bind fun q_1 => (fX9_hourOf x2 h).bind fun q_3 => (fX9_has q_1 q_3 h).bind fun q_5 => some q_5
set_option maxRecDepth 100000 in
set_option maxHeartbeats 4000000 in
theorem okX9_isAwake (d : Nat) (x1 : Int32) (x2 : Int32) (h : Sto) (q : Bool) (e : fX9_isAwake x1 x2 h = some q) : Ok yX9_isAwake cX9_isAwake 3 (some .boolean) (d + 1) [.ref 83, .int x1, .int x2] h (some (.int (b2i q))) h := by
  refine Ok_of (lst := kX9_isAwake) (own := RX9) ⟨by decide, rfl⟩ ckX9_isAwake (b2i_01 _) (Nat.le_of_ble_eq_true rfl) ?_
  unfold fX9_isAwake at e
  change Ev kX9_isAwake RX9 3 (d + 1) nox 0 [some (.ref 83), some (.int x1), some (.int x2)] [] h (some (.int (b2i q))) h
  obtain ⟨q_1, e_2, e⟩ := bndS e
  obtain ⟨q_3, e_4, e⟩ := bndS e
  obtain ⟨q_5, e_6, e⟩ := bndS e
  obtain rfl := Option.some.inj e
  exact s_aload_n 0 rfl rfl <| s_iload_n 1 rfl rfl <| s_iconst 2 2 rfl (by decide) <| s_callV (b := 83) (ci := 9) 3 [.int x1, .int 2] [] rfl ml_X9_69 yw_X9_of sh_83 rfl rfl (okX9_of d _ _ _ _ e_2) rfl rfl (Nat.le_of_ble_eq_true rfl) <| s_iload_n 4 rfl rfl <| s_callS 5 [.int x2] [.int q_1] rfl ml_X9_94 yw_X9_hourOf (okX9_hourOf d _ _ _ e_4) rfl rfl (Nat.le_of_ble_eq_true rfl) <| s_callS 6 [.int q_1, .int q_3] [] rfl ml_X9_97 yw_X9_has (okX9_has d _ _ _ _ e_6) rfl rfl (Nat.le_of_ble_eq_true rfl) <| s_iret 7 rfl
