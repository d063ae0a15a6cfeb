/-! 15 methods (written by wip/whole/gen_m.py) -/
def fX7_groupSet_b4 (x1 : Int32) (h : Sto) (c2 : Int32) (c3 : Int32) : Option ((Int32 × Int32) ⊕ Int32) :=
  if (h 65 0) ≤ c3 then (some (.inr c2)) else (grd (inb c3 14) <| if ¬ (h 66 (Int32.toNatClampNeg c3)) = x1 then (some (.inl (c2, (c3 + 1)))) else (some (.inl ((c2 ||| (jshl 1 c3)), (c3 + 1)))))
def fX7_groupSet (x1 : Int32) (h : Sto) : Option Int32 :=
  (lp (fun s => fX7_groupSet_b4 x1 h s.1 s.2) FUEL (0, 0)).bind fun v_12 => some v_12
set_option maxRecDepth 100000 in
set_option maxHeartbeats 4000000 in
theorem okX7_groupSet (d : Nat) (x1 : Int32) (h : Sto) (q : Int32) (e : fX7_groupSet x1 h = some q) : Ok yX7_groupSet cX7_groupSet 4 (some .int) d [.ref 65, .int x1] h (some (.int q)) h := by
  refine Ok_of (lst := kX7_groupSet) (own := RX7) ⟨by decide, rfl⟩ ckX7_groupSet trivial (Nat.le_of_ble_eq_true rfl) ?_
  unfold fX7_groupSet at e
  change Ev kX7_groupSet RX7 4 d nox 0 [some (.ref 65), some (.int x1), none, none] [] h (some (.int q)) h
  obtain ⟨y_4, e_5, e⟩ := bndS e
  have kx_8 : ∀ v_12 : Int32, v_12 = y_4 → Ev kX7_groupSet RX7 4 d nox 34 [none, none, some (.int v_12), none] [] h (some (.int q)) h := by
    intro v_12 hy
    subst hy
    obtain rfl := Option.some.inj e
    exact s_iload_n 22 rfl rfl <| s_iret 23 rfl
  refine s_iconst 0 0 rfl (by decide) <| s_istore_n [some (.ref 65), some (.int x1), some (.int 0), none] 1 rfl (by decide) rfl <| s_iconst 0 2 rfl (by decide) <| s_istore_n [some (.ref 65), some (.int x1), some (.int 0), some (.int 0)] 3 rfl (by decide) rfl <| lpS (P := fun (s_11 : (Int32 × Int32)) => Ev kX7_groupSet RX7 4 d nox 4 [some (.ref 65), some (.int x1), some (.int s_11.1), some (.int s_11.2)] [] h (some (.int q)) h) ?_ FUEL _ e_5
  intro s_11 o_10 e hk_6 hx_7
  unfold fX7_groupSet_b4 at e
  refine s_iload_n 4 rfl rfl <| s_aload_n 5 rfl rfl <| s_geti 6 rfl fl_X7_20 sh_65 rfl <| ?_
  rcases iteS e with ⟨g_14, e⟩ | ⟨g_14, e⟩
  · cases e
    exact s_icmp_ge_T 7 34 rfl (by decide) g_14 <| s_fgt [true, true, false, true] rfl <| (kx_8 s_11.1 (hx_7 _ rfl))
  · obtain ⟨g_15, e⟩ := grdS e
    refine s_icmp_ge_F 7 34 rfl (by decide) g_14 <| s_aload_n 8 rfl rfl <| s_getr 9 rfl fl_X7_9 sh_65 rfl <| s_iload_n 10 rfl rfl <| s_iald (Int32.toNatClampNeg s_11.2) 11 rfl sh_66 g_15 rfl <| s_iload_n 12 rfl rfl <| ?_
    rcases iteS e with ⟨g_16, e⟩ | ⟨g_16, e⟩
    · cases e
      exact s_icmp_ne_T 13 28 rfl (by decide) g_16 <| s_iinc 1 [some (.ref 65), some (.int x1), some (.int s_11.1), some (.int (s_11.2 + 1))] 20 rfl (by decide) rfl (by decide) rfl <| s_goto 21 4 rfl (by decide) <| (hk_6 (s_11.1, (s_11.2 + 1)) rfl)
    · cases e
      exact s_icmp_ne_F 13 28 rfl (by decide) (Decidable.not_not.mp g_16) <| s_iload_n 14 rfl rfl <| s_iconst 1 15 rfl (by decide) <| s_iload_n 16 rfl rfl <| s_ishl 17 rfl <| s_ior 18 rfl <| s_istore_n [some (.ref 65), some (.int x1), some (.int (s_11.1 ||| (jshl 1 s_11.2))), some (.int s_11.2)] 19 rfl (by decide) rfl <| s_iinc 1 [some (.ref 65), some (.int x1), some (.int (s_11.1 ||| (jshl 1 s_11.2))), some (.int (s_11.2 + 1))] 20 rfl (by decide) rfl (by decide) rfl <| s_goto 21 4 rfl (by decide) <| (hk_6 ((s_11.1 ||| (jshl 1 s_11.2)), (s_11.2 + 1)) rfl)
def fX8_group (x1 : Int32) (x2 : Int32) (x3 : Int32) (x4 : Int32) (h : Sto) : Option (Int32 × Sto) :=
  (fX1_has x1 h).bind fun q_1 => (if q_1 = true then ((fX8_isSpan x2 h).bind fun q_6 => if q_6 = true then ((fX8_isWithin x3 1 99 h).bind fun q_9 => if q_9 = true then (some true) else (some false)) else (some false)) else (some false)).bind fun q_3 => if q_3 = true then ((fX8_isWithin x4 0 2 h).bind fun q_13 => if q_13 = true then ((fX7_gather (h 2 0) x2 x3 h).bind fun q_16 => if ¬ x4 = 0 then (grd (inb x1 14) <| (fX7_groupSet (q_16 66 (Int32.toNatClampNeg x1)) q_16).bind fun q_20 => if ¬ x4 = 1 then (some (q_20, q_16)) else ((fJ6_bitCount_0f7a4 q_20 q_16).bind fun q_23 => some (q_23, q_16))) else (grd (inb x1 14) <| some ((q_16 66 (Int32.toNatClampNeg x1)), q_16))) else ((fX8_tellFinding (-1000001) h).bind fun q_26 => some (q_26.1, q_26.2))) else ((fX8_tellFinding (-1000001) h).bind fun q_28 => some (q_28.1, q_28.2))
set_option maxRecDepth 100000 in
set_option maxHeartbeats 4000000 in
theorem okX8_group (d : Nat) (x1 : Int32) (x2 : Int32) (x3 : Int32) (x4 : Int32) (h : Sto) (qv : Int32) (qh : Sto) (e : fX8_group x1 x2 x3 x4 h = some (qv, qh)) : Ok yX8_group cX8_group 7 (some .int) (d + 5) [.ref 0, .int x1, .int x2, .int x3, .int x4] h (some (.int qv)) qh := by
  refine Ok_of (lst := kX8_group) (own := RX8) ⟨by decide, rfl⟩ ckX8_group trivial (Nat.le_of_ble_eq_true rfl) ?_
  unfold fX8_group at e
  change Ev kX8_group RX8 7 (d + 5) nox 0 [some (.ref 0), some (.int x1), some (.int x2), some (.int x3), some (.int x4), none, none] [] h (some (.int qv)) qh
  obtain ⟨q_1, e_2, e⟩ := bndS e
  obtain ⟨q_3, e1, e⟩ := bndS e
  have k_4 : Ev kX8_group RX8 7 (d + 5) nox 36 [some (.ref 0), some (.int x1), some (.int x2), some (.int x3), some (.int x4), none, none] [.int (b2i q_3)] h (some (.int qv)) qh := by
    refine s_istore [some (.ref 0), some (.int x1), some (.int x2), some (.int x3), some (.int x4), some (.int (b2i q_3)), none] 17 rfl (by decide) rfl <| s_iload 18 rfl rfl <| ?_
    rcases iteS e with ⟨g_12, e⟩ | ⟨g_12, e⟩
    · obtain ⟨q_13, e_14, e⟩ := bndS e
      refine s_if_eq_F 19 53 rfl (by decide) (b2i_T g_12) <| s_iload 20 rfl rfl <| s_iconst 0 21 rfl (by decide) <| s_iconst 2 22 rfl (by decide) <| s_callS 23 [.int x4, .int 0, .int 2] [] rfl ml_X8_65 yw_X8_isWithin (okX8_isWithin (d + 4) _ _ _ _ _ e_14) rfl rfl (Nat.le_of_ble_eq_true rfl) <| ?_
      rcases iteS e with ⟨g_15, e⟩ | ⟨g_15, e⟩
      · obtain ⟨q_16, e_17, e⟩ := bndS e
        refine s_if_ne_T 24 60 rfl (by decide) (b2i_T g_15) <| s_aload_n 29 rfl rfl <| s_getr 30 rfl fl_X8_58 sh_0 rfl <| s_aload_n 31 rfl rfl <| s_getr 32 rfl fl_X8_12 sh_0 rfl <| s_getr 33 rfl fl_X8_134 sh_1 rfl <| s_aload_n 34 rfl rfl <| s_getr 35 rfl fl_X8_12 sh_0 rfl <| s_getr 36 rfl fl_X8_74 sh_1 rfl <| s_geti 37 rfl fl_X8_78 sh_2 rfl <| s_iload_n 38 rfl rfl <| s_iload_n 39 rfl rfl <| s_callV (b := 65) (ci := 7) 40 [.ref 10, .int (h 2 0), .int x2, .int x3] [] rfl ml_X8_235 yw_X7_gather sh_65 rfl rfl (okX7_gather d _ _ _ _ _ e_17) rfl rfl (Nat.le_of_ble_eq_true rfl) <| s_iload 41 rfl rfl <| ?_
        rcases iteS e with ⟨g_18, e⟩ | ⟨g_18, e⟩
        · obtain ⟨g_19, e⟩ := grdS e
          obtain ⟨q_20, e_21, e⟩ := bndS e
          refine s_if_ne_T 42 101 rfl (by decide) g_18 <| s_aload_n 49 rfl rfl <| s_getr 50 rfl fl_X8_58 sh_0 rfl <| s_aload_n 51 rfl rfl <| s_getr 52 rfl fl_X8_58 sh_0 rfl <| s_getr 53 rfl fl_X8_238 sh_65 rfl <| s_iload_n 54 rfl rfl <| s_iald (Int32.toNatClampNeg x1) 55 rfl sh_66 g_19 rfl <| s_callV (b := 65) (ci := 7) 56 [.int (q_16 66 (Int32.toNatClampNeg x1))] [] rfl ml_X8_241 yw_X7_groupSet sh_65 rfl rfl (okX7_groupSet (d + 4) _ _ _ e_21) rfl rfl (Nat.le_of_ble_eq_true rfl) <| s_istore [some (.ref 0), some (.int x1), some (.int x2), some (.int x3), some (.int x4), some (.int (b2i q_3)), some (.int q_20)] 57 rfl (by decide) rfl <| s_iload 58 rfl rfl <| s_iconst 1 59 rfl (by decide) <| ?_
          rcases iteS e with ⟨g_22, e⟩ | ⟨g_22, e⟩
          · obtain ⟨rfl, rfl⟩ := some2 e
            exact s_icmp_ne_T 60 133 rfl (by decide) g_22 <| s_iload 64 rfl rfl <| s_iret 65 rfl
          · obtain ⟨q_23, e_24, e⟩ := bndS e
            obtain ⟨rfl, rfl⟩ := some2 e
            exact s_icmp_ne_F 60 133 rfl (by decide) (Decidable.not_not.mp g_22) <| s_iload 61 rfl rfl <| s_callS 62 [.int q_20] [] rfl ml_X8_117 yw_J6_bitCount_0f7a4 (okJ6_bitCount_0f7a4 (d + 4) _ _ _ e_24) rfl rfl (Nat.le_of_ble_eq_true rfl) <| s_goto 63 135 rfl (by decide) <| s_iret 65 rfl
        · obtain ⟨g_25, e⟩ := grdS e
          obtain ⟨rfl, rfl⟩ := some2 e
          exact s_if_ne_F 42 101 rfl (by decide) (Decidable.not_not.mp g_18) <| s_aload_n 43 rfl rfl <| s_getr 44 rfl fl_X8_58 sh_0 rfl <| s_getr 45 rfl fl_X8_238 sh_65 rfl <| s_iload_n 46 rfl rfl <| s_iald (Int32.toNatClampNeg x1) 47 rfl sh_66 g_25 rfl <| s_iret 48 rfl
      · obtain ⟨q_26, e_27, e⟩ := bndS e
        obtain ⟨rfl, rfl⟩ := some2 e
        exact s_if_ne_F 24 60 rfl (by decide) (b2i_F g_15) <| s_aload_n 25 rfl rfl <| s_ldc 26 rfl wc_X8_69 <| s_callV (b := 0) (ci := 8) 27 [.int (-1000001)] [] rfl ml_X8_70 yw_X8_tellFinding sh_0 rfl rfl (okX8_tellFinding (d + 3) _ _ q_26.1 q_26.2 e_27) rfl rfl (Nat.le_of_ble_eq_true rfl) <| s_iret 28 rfl
    · obtain ⟨q_28, e_29, e⟩ := bndS e
      obtain ⟨rfl, rfl⟩ := some2 e
      exact s_if_eq_T 19 53 rfl (by decide) (b2i_F g_12) <| s_aload_n 25 rfl rfl <| s_ldc 26 rfl wc_X8_69 <| s_callV (b := 0) (ci := 8) 27 [.int (-1000001)] [] rfl ml_X8_70 yw_X8_tellFinding sh_0 rfl rfl (okX8_tellFinding (d + 3) _ _ q_28.1 q_28.2 e_29) rfl rfl (Nat.le_of_ble_eq_true rfl) <| s_iret 28 rfl
  clear e
  have e := e1
  clear e1
  refine s_aload_n 0 rfl rfl <| s_getr 1 rfl fl_X8_12 sh_0 rfl <| s_getr 2 rfl fl_X8_74 sh_1 rfl <| s_iload_n 3 rfl rfl <| s_callV (b := 2) (ci := 1) 4 [.int x1] [] rfl ml_X8_88 yw_X1_has sh_2 rfl rfl (okX1_has (d + 3) _ _ _ e_2) rfl rfl (Nat.le_of_ble_eq_true rfl) <| ?_
  rcases iteS e with ⟨g_5, e⟩ | ⟨g_5, e⟩
  · obtain ⟨q_6, e_7, e⟩ := bndS e
    refine s_if_eq_F 5 35 rfl (by decide) (b2i_T g_5) <| s_iload_n 6 rfl rfl <| s_callS 7 [.int x2] [] rfl ml_X8_229 yw_X8_isSpan (okX8_isSpan (d + 3) _ _ _ e_7) rfl rfl (Nat.le_of_ble_eq_true rfl) <| ?_
    rcases iteS e with ⟨g_8, e⟩ | ⟨g_8, e⟩
    · obtain ⟨q_9, e_10, e⟩ := bndS e
      refine s_if_eq_F 8 35 rfl (by decide) (b2i_T g_8) <| s_iload_n 9 rfl rfl <| s_iconst 1 10 rfl (by decide) <| s_bipush 99 11 rfl (by decide) <| s_callS 12 [.int x3, .int 1, .int 99] [] rfl ml_X8_65 yw_X8_isWithin (okX8_isWithin (d + 4) _ _ _ _ _ e_10) rfl rfl (Nat.le_of_ble_eq_true rfl) <| ?_
      rcases iteS e with ⟨g_11, e⟩ | ⟨g_11, e⟩
      · cases e
        exact s_if_eq_F 13 35 rfl (by decide) (b2i_T g_11) <| s_iconst 1 14 rfl (by decide) <| s_goto 15 36 rfl (by decide) <| k_4
      · cases e
        exact s_if_eq_T 13 35 rfl (by decide) (b2i_F g_11) <| s_iconst 0 16 rfl (by decide) <| k_4
    · cases e
      exact s_if_eq_T 8 35 rfl (by decide) (b2i_F g_8) <| s_iconst 0 16 rfl (by decide) <| k_4
  · cases e
    exact s_if_eq_T 5 35 rfl (by decide) (b2i_F g_5) <| s_iconst 0 16 rfl (by decide) <| k_4
def fX9_isGroup (x0 : Int32) (x1 : Int32) (h : Sto) : Option Bool :=
  (fX9_in x0.toInt64 0 99 h).bind fun q_1 => if q_1 = true then ((fX9_in x1.toInt64 1 99 h).bind fun q_4 => if q_4 = true then (some true) else (some false)) else (some false)
set_option maxRecDepth 100000 in
set_option maxHeartbeats 4000000 in
theorem okX9_isGroup (d : Nat) (x0 : Int32) (x1 : Int32) (h : Sto) (q : Bool) (e : fX9_isGroup x0 x1 h = some q) : Ok yX9_isGroup cX9_isGroup 2 (some .boolean) (d + 1) [.int x0, .int x1] h (some (.int (b2i q))) h := by
  refine Ok_of (lst := kX9_isGroup) (own := RX9) ⟨by decide, rfl⟩ ckX9_isGroup (b2i_01 _) (Nat.le_of_ble_eq_true rfl) ?_
  unfold fX9_isGroup at e
  change Ev kX9_isGroup RX9 2 (d + 1) nox 0 [some (.int x0), some (.int x1)] [] h (some (.int (b2i q))) h
  obtain ⟨q_1, e_2, e⟩ := bndS e
  refine s_iload_n 0 rfl rfl <| s_i2l 1 rfl <| s_lconst 0 2 rfl (by decide) <| s_ldc2_w 3 rfl wc_X9_82 <| s_callS 4 [.long x0.toInt64, .long 0, .long 99] [] rfl ml_X9_48 yw_X9_in (okX9_in d _ _ _ _ _ e_2) rfl rfl (Nat.le_of_ble_eq_true rfl) <| ?_
  rcases iteS e with ⟨g_3, e⟩ | ⟨g_3, e⟩
  · obtain ⟨q_4, e_5, e⟩ := bndS e
    refine s_if_eq_F 5 28 rfl (by decide) (b2i_T g_3) <| s_iload_n 6 rfl rfl <| s_i2l 7 rfl <| s_lconst 1 8 rfl (by decide) <| s_ldc2_w 9 rfl wc_X9_82 <| s_callS 10 [.long x1.toInt64, .long 1, .long 99] [] rfl ml_X9_48 yw_X9_in (okX9_in d _ _ _ _ _ e_5) rfl rfl (Nat.le_of_ble_eq_true rfl) <| ?_
    rcases iteS e with ⟨g_6, e⟩ | ⟨g_6, e⟩
    · obtain rfl := Option.some.inj e
      exact s_if_eq_F 11 28 rfl (by decide) (b2i_T g_6) <| s_iconst 1 12 rfl (by decide) <| s_goto 13 29 rfl (by decide) <| s_iret 15 rfl
    · obtain rfl := Option.some.inj e
      exact s_if_eq_T 11 28 rfl (by decide) (b2i_F g_6) <| s_iconst 0 14 rfl (by decide) <| s_iret 15 rfl
  · obtain rfl := Option.some.inj e
    exact s_if_eq_T 5 28 rfl (by decide) (b2i_F g_3) <| s_iconst 0 14 rfl (by decide) <| s_iret 15 rfl
def fX9_findGroups_b2 (x1 : Int32) (x2 : Int32) (c3 : Int32) (h : Sto) : Option ((Int32 × Sto) ⊕ Sto) :=
  if (h 84 0) ≤ c3 then (some (.inr h)) else (grd (inb c3 14) <| (some (su h 92 (Int32.toNatClampNeg c3) c3)).bind fun h_3 => some (.inl ((c3 + 1), h_3)))
def fX9_findGroups_b160 (x1 : Int32) (x2 : Int32) (x3 : Int32) (x4 : Int32) (x5 : Int32) (x6 : Int32) (c7 : Int32) (h : Sto) : Option ((Int32 × Sto) ⊕ Sto) :=
  if (h 84 0) ≤ c7 then (some (.inr h)) else (grd (inb c7 14) <| if ¬ (h 92 (Int32.toNatClampNeg c7)) = x6 then (grd (inb c7 14) <| grd (inb c7 14) <| (some (su h 92 (Int32.toNatClampNeg c7) (h 92 (Int32.toNatClampNeg c7)))).bind fun h_41 => some (.inl ((c7 + 1), h_41))) else (grd (inb c7 14) <| (some (su h 92 (Int32.toNatClampNeg c7) x5)).bind fun h_43 => some (.inl ((c7 + 1), h_43))))
def fX9_findGroups_b40 (x1 : Int32) (x2 : Int32) (x3 : Int32) (c4 : Int32) (h : Sto) : Option ((Int32 × Sto) ⊕ Sto) :=
  if x3 ≤ c4 then (some (.inr h)) else (grd (inb x3 14) <| grd (inb c4 14) <| if (h 92 (Int32.toNatClampNeg x3)) = (h 92 (Int32.toNatClampNeg c4)) then (some (.inl ((c4 + 1), h))) else ((fX9_togetherOf x3 c4 x1 h).bind fun q_19 => if x2 ≤ q_19 then (grd (inb x3 14) <| grd (inb c4 14) <| (if (h 92 (Int32.toNatClampNeg c4)) ≤ (h 92 (Int32.toNatClampNeg x3)) then (grd (inb c4 14) <| some (h 92 (Int32.toNatClampNeg c4))) else (grd (inb x3 14) <| some (h 92 (Int32.toNatClampNeg x3)))).bind fun q_24 => grd (inb x3 14) <| grd (inb c4 14) <| (if (h 92 (Int32.toNatClampNeg c4)) ≤ (h 92 (Int32.toNatClampNeg x3)) then (grd (inb x3 14) <| some (h 92 (Int32.toNatClampNeg x3))) else (grd (inb c4 14) <| some (h 92 (Int32.toNatClampNeg c4)))).bind fun q_31 => (lp (fun s => fX9_findGroups_b160 x1 x2 x3 c4 q_24 q_31 s.1 s.2) FUEL (0, h)).bind fun v_52 => some (.inl ((c4 + 1), v_52))) else ((fX9_togetherOf c4 x3 x1 h).bind fun q_62 => if x2 ≤ q_62 then (grd (inb x3 14) <| grd (inb c4 14) <| (if (h 92 (Int32.toNatClampNeg c4)) ≤ (h 92 (Int32.toNatClampNeg x3)) then (grd (inb c4 14) <| some (h 92 (Int32.toNatClampNeg c4))) else (grd (inb x3 14) <| some (h 92 (Int32.toNatClampNeg x3)))).bind fun q_67 => grd (inb x3 14) <| grd (inb c4 14) <| (if (h 92 (Int32.toNatClampNeg c4)) ≤ (h 92 (Int32.toNatClampNeg x3)) then (grd (inb x3 14) <| some (h 92 (Int32.toNatClampNeg x3))) else (grd (inb c4 14) <| some (h 92 (Int32.toNatClampNeg c4)))).bind fun q_74 => (lp (fun s => fX9_findGroups_b160 x1 x2 x3 c4 q_67 q_74 s.1 s.2) FUEL (0, h)).bind fun v_95 => some (.inl ((c4 + 1), v_95))) else (some (.inl ((c4 + 1), h))))))
def fX9_findGroups_b27 (x1 : Int32) (x2 : Int32) (c3 : Int32) (h : Sto) : Option ((Int32 × Sto) ⊕ Sto) :=
  if (h 84 0) ≤ c3 then (some (.inr h)) else ((lp (fun s => fX9_findGroups_b40 x1 x2 c3 s.1 s.2) FUEL (0, h)).bind fun v_113 => some (.inl ((c3 + 1), v_113)))
def fX9_findGroups (x1 : Int32) (x2 : Int32) (h : Sto) : Option Sto :=
  (lp (fun s => fX9_findGroups_b2 x1 x2 s.1 s.2) FUEL (0, h)).bind fun v_12 => (lp (fun s => fX9_findGroups_b27 x1 x2 s.1 s.2) FUEL (0, v_12)).bind fun v_213 => some v_213
set_option maxRecDepth 100000 in
set_option maxHeartbeats 4000000 in
theorem okX9_findGroups (d : Nat) (x1 : Int32) (x2 : Int32) (h : Sto) (q : Sto) (e : fX9_findGroups x1 x2 h = some q) : Ok yX9_findGroups cX9_findGroups 8 none (d + 3) [.ref 83, .int x1, .int x2] h none q := by
  refine Ok_of (lst := kX9_findGroups) (own := RX9) ⟨by decide, rfl⟩ ckX9_findGroups trivial (Nat.le_of_ble_eq_true rfl) ?_
  unfold fX9_findGroups at e
  change Ev kX9_findGroups RX9 8 (d + 3) nox 0 [some (.ref 83), some (.int x1), some (.int x2), none, none, none, none, none] [] h none q
  obtain ⟨y_4, e_5, e⟩ := bndS e
  have kx_8 : ∀ v_12 : Sto, v_12 = y_4 → Ev kX9_findGroups RX9 8 (d + 3) nox 25 [some (.ref 83), some (.int x1), some (.int x2), none, none, none, none, none] [] v_12 none q := by
    intro v_12 hy
    subst hy
    obtain ⟨y_205, e_206, e⟩ := bndS e
    have kx_209 : ∀ v_213 : Sto, v_213 = y_205 → Ev kX9_findGroups RX9 8 (d + 3) nox 220 [none, none, none, none, none, none, none, none] [] v_213 none q := by
      intro v_213 hy
      subst hy
      obtain rfl := Option.some.inj e
      exact s_vret 120 rfl
    refine s_iconst 0 15 rfl (by decide) <| s_istore_n [some (.ref 83), some (.int x1), some (.int x2), some (.int 0), none, none, none, none] 16 rfl (by decide) rfl <| lpS (P := fun (s_212 : (Int32 × Sto)) => Ev kX9_findGroups RX9 8 (d + 3) nox 27 [some (.ref 83), some (.int x1), some (.int x2), some (.int s_212.1), none, none, none, none] [] s_212.2 none q) ?_ FUEL _ e_206
    intro s_212 o_211 e hk_207 hx_208
    unfold fX9_findGroups_b27 at e
    refine s_iload_n 17 rfl rfl <| s_aload_n 18 rfl rfl <| s_getr 19 rfl fl_X9_9 sh_83 rfl <| s_iconst 0 20 rfl (by decide) <| s_iald 0 21 rfl sh_84 (by decide) (by decide) <| ?_
    rcases iteS e with ⟨g_215, e⟩ | ⟨g_215, e⟩
    · cases e
      exact s_icmp_ge_T 22 220 rfl (by decide) g_215 <| s_fgt [true, true, true, true] rfl <| (kx_209 s_212.2 (hx_208 _ rfl))
    · obtain ⟨y_306, e_307, e⟩ := bndS e
      have kx_310 : ∀ v_314 : Sto, v_314 = y_306 → Ev kX9_findGroups RX9 8 (d + 3) nox 214 [some (.ref 83), some (.int x1), some (.int x2), some (.int s_212.1), none, none, none, none] [] v_314 none q := by
        intro v_314 hy
        subst hy
        cases e
        exact s_iinc 1 [some (.ref 83), some (.int x1), some (.int x2), some (.int (s_212.1 + 1)), none, none, none, none] 118 rfl (by decide) rfl (by decide) rfl <| s_goto 119 27 rfl (by decide) <| (hk_207 ((s_212.1 + 1), v_314) rfl)
      refine s_icmp_ge_F 22 220 rfl (by decide) g_215 <| s_iconst 0 23 rfl (by decide) <| s_istore [some (.ref 83), some (.int x1), some (.int x2), some (.int s_212.1), some (.int 0), none, none, none] 24 rfl (by decide) rfl <| lpS (P := fun (s_313 : (Int32 × Sto)) => Ev kX9_findGroups RX9 8 (d + 3) nox 40 [some (.ref 83), some (.int x1), some (.int x2), some (.int s_212.1), some (.int s_313.1), none, none, none] [] s_313.2 none q) ?_ FUEL _ e_307
      intro s_313 o_312 e hk_308 hx_309
      unfold fX9_findGroups_b40 at e
      refine s_iload 25 rfl rfl <| s_iload_n 26 rfl rfl <| ?_
      rcases iteS e with ⟨g_316, e⟩ | ⟨g_316, e⟩
      · cases e
        exact s_icmp_ge_T 27 214 rfl (by decide) g_316 <| s_fgt [false, false, false, false, true] rfl <| (kx_310 s_313.2 (hx_309 _ rfl))
      · obtain ⟨g_317, e⟩ := grdS e
        obtain ⟨g_318, e⟩ := grdS e
        refine s_icmp_ge_F 27 214 rfl (by decide) g_316 <| s_aload_n 28 rfl rfl <| s_getr 29 rfl fl_X9_35 sh_83 rfl <| s_iload_n 30 rfl rfl <| s_iald (Int32.toNatClampNeg s_212.1) 31 rfl sh_92 g_317 rfl <| s_aload_n 32 rfl rfl <| s_getr 33 rfl fl_X9_35 sh_83 rfl <| s_iload 34 rfl rfl <| s_iald (Int32.toNatClampNeg s_313.1) 35 rfl sh_92 g_318 rfl <| ?_
        rcases iteS e with ⟨g_319, e⟩ | ⟨g_319, e⟩
        · cases e
          exact s_icmp_eq_T 36 208 rfl (by decide) g_319 <| s_iinc 1 [some (.ref 83), some (.int x1), some (.int x2), some (.int s_212.1), some (.int (s_313.1 + 1)), none, none, none] 116 rfl (by decide) rfl (by decide) rfl <| s_goto 117 40 rfl (by decide) <| (hk_308 ((s_313.1 + 1), s_313.2) rfl)
        · obtain ⟨q_320, e_321, e⟩ := bndS e
          refine s_icmp_eq_F 36 208 rfl (by decide) g_319 <| s_aload_n 37 rfl rfl <| s_iload_n 38 rfl rfl <| s_iload 39 rfl rfl <| s_iload_n 40 rfl rfl <| s_callV (b := 83) (ci := 9) 41 [.int s_212.1, .int s_313.1, .int x1] [] rfl ml_X9_253 yw_X9_togetherOf sh_83 rfl rfl (okX9_togetherOf d _ _ _ _ _ e_321) rfl rfl (Nat.le_of_ble_eq_true rfl) <| s_iload_n 42 rfl rfl <| ?_
          rcases iteS e with ⟨g_322, e⟩ | ⟨g_322, e⟩
          · obtain ⟨g_323, e⟩ := grdS e
            obtain ⟨g_324, e⟩ := grdS e
            obtain ⟨q_325, e1, e⟩ := bndS e
            have k_326 : Ev kX9_findGroups RX9 8 (d + 3) nox 121 [some (.ref 83), some (.int x1), some (.int x2), some (.int s_212.1), some (.int s_313.1), none, none, none] [.int q_325] s_313.2 none q := by
              obtain ⟨g_330, e⟩ := grdS e
              obtain ⟨g_331, e⟩ := grdS e
              obtain ⟨q_332, e1, e⟩ := bndS e
              have k_333 : Ev kX9_findGroups RX9 8 (d + 3) nox 155 [some (.ref 83), some (.int x1), some (.int x2), some (.int s_212.1), some (.int s_313.1), some (.int q_325), none, none] [.int q_332] s_313.2 none q := by
                obtain ⟨y_345, e_346, e⟩ := bndS e
                have kx_349 : ∀ v_353 : Sto, v_353 = y_345 → Ev kX9_findGroups RX9 8 (d + 3) nox 208 [some (.ref 83), some (.int x1), some (.int x2), some (.int s_212.1), some (.int s_313.1), none, none, none] [] v_353 none q := by
                  intro v_353 hy
                  subst hy
                  cases e
                  exact s_iinc 1 [some (.ref 83), some (.int x1), some (.int x2), some (.int s_212.1), some (.int (s_313.1 + 1)), none, none, none] 116 rfl (by decide) rfl (by decide) rfl <| s_goto 117 40 rfl (by decide) <| (hk_308 ((s_313.1 + 1), v_353) rfl)
                refine s_istore [some (.ref 83), some (.int x1), some (.int x2), some (.int s_212.1), some (.int s_313.1), some (.int q_325), some (.int q_332), none] 89 rfl (by decide) rfl <| s_iconst 0 90 rfl (by decide) <| s_istore [some (.ref 83), some (.int x1), some (.int x2), some (.int s_212.1), some (.int s_313.1), some (.int q_325), some (.int q_332), some (.int 0)] 91 rfl (by decide) rfl <| lpS (P := fun (s_352 : (Int32 × Sto)) => Ev kX9_findGroups RX9 8 (d + 3) nox 160 [some (.ref 83), some (.int x1), some (.int x2), some (.int s_212.1), some (.int s_313.1), some (.int q_325), some (.int q_332), some (.int s_352.1)] [] s_352.2 none q) ?_ FUEL _ e_346
                intro s_352 o_351 e hk_347 hx_348
                unfold fX9_findGroups_b160 at e
                refine s_iload 92 rfl rfl <| s_aload_n 93 rfl rfl <| s_getr 94 rfl fl_X9_9 sh_83 rfl <| s_iconst 0 95 rfl (by decide) <| s_iald 0 96 rfl sh_84 (by decide) (by decide) <| ?_
                rcases iteS e with ⟨g_355, e⟩ | ⟨g_355, e⟩
                · cases e
                  exact s_icmp_ge_T 97 208 rfl (by decide) g_355 <| s_fgt [false, false, false, false, false, true, true, true] rfl <| (kx_349 s_352.2 (hx_348 _ rfl))
                · obtain ⟨g_356, e⟩ := grdS e
                  refine s_icmp_ge_F 97 208 rfl (by decide) g_355 <| s_aload_n 98 rfl rfl <| s_getr 99 rfl fl_X9_35 sh_83 rfl <| s_iload 100 rfl rfl <| s_aload_n 101 rfl rfl <| s_getr 102 rfl fl_X9_35 sh_83 rfl <| s_iload 103 rfl rfl <| s_iald (Int32.toNatClampNeg s_352.1) 104 rfl sh_92 g_356 rfl <| s_iload 105 rfl rfl <| ?_
                  rcases iteS e with ⟨g_357, e⟩ | ⟨g_357, e⟩
                  · obtain ⟨g_358, e⟩ := grdS e
                    obtain ⟨g_359, e⟩ := grdS e
                    obtain ⟨h_360, eh_360, e⟩ := bndS e
                    cases e
                    exact s_icmp_ne_T 106 194 rfl (by decide) g_357 <| s_aload_n 109 rfl rfl <| s_getr 110 rfl fl_X9_35 sh_83 rfl <| s_iload 111 rfl rfl <| s_iald (Int32.toNatClampNeg s_352.1) 112 rfl sh_92 g_358 rfl <| s_iast (Int32.toNatClampNeg s_352.1) 113 rfl sh_92 g_359 rfl <| s_nmH (Option.some.inj eh_360) <| s_iinc 1 [some (.ref 83), some (.int x1), some (.int x2), some (.int s_212.1), some (.int s_313.1), some (.int q_325), some (.int q_332), some (.int (s_352.1 + 1))] 114 rfl (by decide) rfl (by decide) rfl <| s_goto 115 160 rfl (by decide) <| (hk_347 ((s_352.1 + 1), h_360) rfl)
                  · obtain ⟨g_361, e⟩ := grdS e
                    obtain ⟨h_362, eh_362, e⟩ := bndS e
                    cases e
                    exact s_icmp_ne_F 106 194 rfl (by decide) (Decidable.not_not.mp g_357) <| s_iload 107 rfl rfl <| s_goto 108 201 rfl (by decide) <| s_iast (Int32.toNatClampNeg s_352.1) 113 rfl sh_92 g_361 rfl <| s_nmH (Option.some.inj eh_362) <| s_iinc 1 [some (.ref 83), some (.int x1), some (.int x2), some (.int s_212.1), some (.int s_313.1), some (.int q_325), some (.int q_332), some (.int (s_352.1 + 1))] 114 rfl (by decide) rfl (by decide) rfl <| s_goto 115 160 rfl (by decide) <| (hk_347 ((s_352.1 + 1), h_362) rfl)
              clear e
              have e := e1
              clear e1
              refine s_istore [some (.ref 83), some (.int x1), some (.int x2), some (.int s_212.1), some (.int s_313.1), some (.int q_325), none, none] 70 rfl (by decide) rfl <| s_aload_n 71 rfl rfl <| s_getr 72 rfl fl_X9_35 sh_83 rfl <| s_iload_n 73 rfl rfl <| s_iald (Int32.toNatClampNeg s_212.1) 74 rfl sh_92 g_330 rfl <| s_aload_n 75 rfl rfl <| s_getr 76 rfl fl_X9_35 sh_83 rfl <| s_iload 77 rfl rfl <| s_iald (Int32.toNatClampNeg s_313.1) 78 rfl sh_92 g_331 rfl <| ?_
              rcases iteS e with ⟨g_334, e⟩ | ⟨g_334, e⟩
              · obtain ⟨g_335, e⟩ := grdS e
                cases e
                exact s_icmp_ge_T 79 149 rfl (by decide) g_334 <| s_aload_n 85 rfl rfl <| s_getr 86 rfl fl_X9_35 sh_83 rfl <| s_iload_n 87 rfl rfl <| s_iald (Int32.toNatClampNeg s_212.1) 88 rfl sh_92 g_335 rfl <| k_333
              · obtain ⟨g_336, e⟩ := grdS e
                cases e
                exact s_icmp_ge_F 79 149 rfl (by decide) g_334 <| s_aload_n 80 rfl rfl <| s_getr 81 rfl fl_X9_35 sh_83 rfl <| s_iload 82 rfl rfl <| s_iald (Int32.toNatClampNeg s_313.1) 83 rfl sh_92 g_336 rfl <| s_goto 84 155 rfl (by decide) <| k_333
            clear e
            have e := e1
            clear e1
            refine s_icmp_ge_T 43 89 rfl (by decide) g_322 <| s_aload_n 52 rfl rfl <| s_getr 53 rfl fl_X9_35 sh_83 rfl <| s_iload_n 54 rfl rfl <| s_iald (Int32.toNatClampNeg s_212.1) 55 rfl sh_92 g_323 rfl <| s_aload_n 56 rfl rfl <| s_getr 57 rfl fl_X9_35 sh_83 rfl <| s_iload 58 rfl rfl <| s_iald (Int32.toNatClampNeg s_313.1) 59 rfl sh_92 g_324 rfl <| ?_
            rcases iteS e with ⟨g_327, e⟩ | ⟨g_327, e⟩
            · obtain ⟨g_328, e⟩ := grdS e
              cases e
              exact s_icmp_ge_T 60 114 rfl (by decide) g_327 <| s_aload_n 66 rfl rfl <| s_getr 67 rfl fl_X9_35 sh_83 rfl <| s_iload 68 rfl rfl <| s_iald (Int32.toNatClampNeg s_313.1) 69 rfl sh_92 g_328 rfl <| k_326
            · obtain ⟨g_329, e⟩ := grdS e
              cases e
              exact s_icmp_ge_F 60 114 rfl (by decide) g_327 <| s_aload_n 61 rfl rfl <| s_getr 62 rfl fl_X9_35 sh_83 rfl <| s_iload_n 63 rfl rfl <| s_iald (Int32.toNatClampNeg s_212.1) 64 rfl sh_92 g_329 rfl <| s_goto 65 121 rfl (by decide) <| k_326
          · obtain ⟨q_363, e_364, e⟩ := bndS e
            refine s_icmp_ge_F 43 89 rfl (by decide) g_322 <| s_aload_n 44 rfl rfl <| s_iload 45 rfl rfl <| s_iload_n 46 rfl rfl <| s_iload_n 47 rfl rfl <| s_callV (b := 83) (ci := 9) 48 [.int s_313.1, .int s_212.1, .int x1] [] rfl ml_X9_253 yw_X9_togetherOf sh_83 rfl rfl (okX9_togetherOf d _ _ _ _ _ e_364) rfl rfl (Nat.le_of_ble_eq_true rfl) <| s_iload_n 49 rfl rfl <| ?_
            rcases iteS e with ⟨g_365, e⟩ | ⟨g_365, e⟩
            · obtain ⟨g_366, e⟩ := grdS e
              obtain ⟨g_367, e⟩ := grdS e
              obtain ⟨q_368, e1, e⟩ := bndS e
              have k_369 : Ev kX9_findGroups RX9 8 (d + 3) nox 121 [some (.ref 83), some (.int x1), some (.int x2), some (.int s_212.1), some (.int s_313.1), none, none, none] [.int q_368] s_313.2 none q := by
                obtain ⟨g_373, e⟩ := grdS e
                obtain ⟨g_374, e⟩ := grdS e
                obtain ⟨q_375, e1, e⟩ := bndS e
                have k_376 : Ev kX9_findGroups RX9 8 (d + 3) nox 155 [some (.ref 83), some (.int x1), some (.int x2), some (.int s_212.1), some (.int s_313.1), some (.int q_368), none, none] [.int q_375] s_313.2 none q := by
                  obtain ⟨y_388, e_389, e⟩ := bndS e
                  have kx_392 : ∀ v_396 : Sto, v_396 = y_388 → Ev kX9_findGroups RX9 8 (d + 3) nox 208 [some (.ref 83), some (.int x1), some (.int x2), some (.int s_212.1), some (.int s_313.1), none, none, none] [] v_396 none q := by
                    intro v_396 hy
                    subst hy
                    cases e
                    exact s_iinc 1 [some (.ref 83), some (.int x1), some (.int x2), some (.int s_212.1), some (.int (s_313.1 + 1)), none, none, none] 116 rfl (by decide) rfl (by decide) rfl <| s_goto 117 40 rfl (by decide) <| (hk_308 ((s_313.1 + 1), v_396) rfl)
                  refine s_istore [some (.ref 83), some (.int x1), some (.int x2), some (.int s_212.1), some (.int s_313.1), some (.int q_368), some (.int q_375), none] 89 rfl (by decide) rfl <| s_iconst 0 90 rfl (by decide) <| s_istore [some (.ref 83), some (.int x1), some (.int x2), some (.int s_212.1), some (.int s_313.1), some (.int q_368), some (.int q_375), some (.int 0)] 91 rfl (by decide) rfl <| lpS (P := fun (s_395 : (Int32 × Sto)) => Ev kX9_findGroups RX9 8 (d + 3) nox 160 [some (.ref 83), some (.int x1), some (.int x2), some (.int s_212.1), some (.int s_313.1), some (.int q_368), some (.int q_375), some (.int s_395.1)] [] s_395.2 none q) ?_ FUEL _ e_389
                  intro s_395 o_394 e hk_390 hx_391
                  unfold fX9_findGroups_b160 at e
                  refine s_iload 92 rfl rfl <| s_aload_n 93 rfl rfl <| s_getr 94 rfl fl_X9_9 sh_83 rfl <| s_iconst 0 95 rfl (by decide) <| s_iald 0 96 rfl sh_84 (by decide) (by decide) <| ?_
                  rcases iteS e with ⟨g_398, e⟩ | ⟨g_398, e⟩
                  · cases e
                    exact s_icmp_ge_T 97 208 rfl (by decide) g_398 <| s_fgt [false, false, false, false, false, true, true, true] rfl <| (kx_392 s_395.2 (hx_391 _ rfl))
                  · obtain ⟨g_399, e⟩ := grdS e
                    refine s_icmp_ge_F 97 208 rfl (by decide) g_398 <| s_aload_n 98 rfl rfl <| s_getr 99 rfl fl_X9_35 sh_83 rfl <| s_iload 100 rfl rfl <| s_aload_n 101 rfl rfl <| s_getr 102 rfl fl_X9_35 sh_83 rfl <| s_iload 103 rfl rfl <| s_iald (Int32.toNatClampNeg s_395.1) 104 rfl sh_92 g_399 rfl <| s_iload 105 rfl rfl <| ?_
                    rcases iteS e with ⟨g_400, e⟩ | ⟨g_400, e⟩
                    · obtain ⟨g_401, e⟩ := grdS e
                      obtain ⟨g_402, e⟩ := grdS e
                      obtain ⟨h_403, eh_403, e⟩ := bndS e
                      cases e
                      exact s_icmp_ne_T 106 194 rfl (by decide) g_400 <| s_aload_n 109 rfl rfl <| s_getr 110 rfl fl_X9_35 sh_83 rfl <| s_iload 111 rfl rfl <| s_iald (Int32.toNatClampNeg s_395.1) 112 rfl sh_92 g_401 rfl <| s_iast (Int32.toNatClampNeg s_395.1) 113 rfl sh_92 g_402 rfl <| s_nmH (Option.some.inj eh_403) <| s_iinc 1 [some (.ref 83), some (.int x1), some (.int x2), some (.int s_212.1), some (.int s_313.1), some (.int q_368), some (.int q_375), some (.int (s_395.1 + 1))] 114 rfl (by decide) rfl (by decide) rfl <| s_goto 115 160 rfl (by decide) <| (hk_390 ((s_395.1 + 1), h_403) rfl)
                    · obtain ⟨g_404, e⟩ := grdS e
                      obtain ⟨h_405, eh_405, e⟩ := bndS e
                      cases e
                      exact s_icmp_ne_F 106 194 rfl (by decide) (Decidable.not_not.mp g_400) <| s_iload 107 rfl rfl <| s_goto 108 201 rfl (by decide) <| s_iast (Int32.toNatClampNeg s_395.1) 113 rfl sh_92 g_404 rfl <| s_nmH (Option.some.inj eh_405) <| s_iinc 1 [some (.ref 83), some (.int x1), some (.int x2), some (.int s_212.1), some (.int s_313.1), some (.int q_368), some (.int q_375), some (.int (s_395.1 + 1))] 114 rfl (by decide) rfl (by decide) rfl <| s_goto 115 160 rfl (by decide) <| (hk_390 ((s_395.1 + 1), h_405) rfl)
                clear e
                have e := e1
                clear e1
                refine s_istore [some (.ref 83), some (.int x1), some (.int x2), some (.int s_212.1), some (.int s_313.1), some (.int q_368), none, none] 70 rfl (by decide) rfl <| s_aload_n 71 rfl rfl <| s_getr 72 rfl fl_X9_35 sh_83 rfl <| s_iload_n 73 rfl rfl <| s_iald (Int32.toNatClampNeg s_212.1) 74 rfl sh_92 g_373 rfl <| s_aload_n 75 rfl rfl <| s_getr 76 rfl fl_X9_35 sh_83 rfl <| s_iload 77 rfl rfl <| s_iald (Int32.toNatClampNeg s_313.1) 78 rfl sh_92 g_374 rfl <| ?_
                rcases iteS e with ⟨g_377, e⟩ | ⟨g_377, e⟩
                · obtain ⟨g_378, e⟩ := grdS e
                  cases e
                  exact s_icmp_ge_T 79 149 rfl (by decide) g_377 <| s_aload_n 85 rfl rfl <| s_getr 86 rfl fl_X9_35 sh_83 rfl <| s_iload_n 87 rfl rfl <| s_iald (Int32.toNatClampNeg s_212.1) 88 rfl sh_92 g_378 rfl <| k_376
                · obtain ⟨g_379, e⟩ := grdS e
                  cases e
                  exact s_icmp_ge_F 79 149 rfl (by decide) g_377 <| s_aload_n 80 rfl rfl <| s_getr 81 rfl fl_X9_35 sh_83 rfl <| s_iload 82 rfl rfl <| s_iald (Int32.toNatClampNeg s_313.1) 83 rfl sh_92 g_379 rfl <| s_goto 84 155 rfl (by decide) <| k_376
              clear e
              have e := e1
              clear e1
              refine s_icmp_ge_T 50 89 rfl (by decide) g_365 <| s_aload_n 52 rfl rfl <| s_getr 53 rfl fl_X9_35 sh_83 rfl <| s_iload_n 54 rfl rfl <| s_iald (Int32.toNatClampNeg s_212.1) 55 rfl sh_92 g_366 rfl <| s_aload_n 56 rfl rfl <| s_getr 57 rfl fl_X9_35 sh_83 rfl <| s_iload 58 rfl rfl <| s_iald (Int32.toNatClampNeg s_313.1) 59 rfl sh_92 g_367 rfl <| ?_
              rcases iteS e with ⟨g_370, e⟩ | ⟨g_370, e⟩
              · obtain ⟨g_371, e⟩ := grdS e
                cases e
                exact s_icmp_ge_T 60 114 rfl (by decide) g_370 <| s_aload_n 66 rfl rfl <| s_getr 67 rfl fl_X9_35 sh_83 rfl <| s_iload 68 rfl rfl <| s_iald (Int32.toNatClampNeg s_313.1) 69 rfl sh_92 g_371 rfl <| k_369
              · obtain ⟨g_372, e⟩ := grdS e
                cases e
                exact s_icmp_ge_F 60 114 rfl (by decide) g_370 <| s_aload_n 61 rfl rfl <| s_getr 62 rfl fl_X9_35 sh_83 rfl <| s_iload_n 63 rfl rfl <| s_iald (Int32.toNatClampNeg s_212.1) 64 rfl sh_92 g_372 rfl <| s_goto 65 121 rfl (by decide) <| k_369
            · cases e
              exact s_icmp_ge_F 50 89 rfl (by decide) g_365 <| s_goto 51 208 rfl (by decide) <| s_iinc 1 [some (.ref 83), some (.int x1), some (.int x2), some (.int s_212.1), some (.int (s_313.1 + 1)), none, none, none] 116 rfl (by decide) rfl (by decide) rfl <| s_goto 117 40 rfl (by decide) <| (hk_308 ((s_313.1 + 1), s_313.2) rfl)
  refine s_iconst 0 0 rfl (by decide) <| s_istore_n [some (.ref 83), some (.int x1), some (.int x2), some (.int 0), none, none, none, none] 1 rfl (by decide) rfl <| lpS (P := fun (s_11 : (Int32 × Sto)) => Ev kX9_findGroups RX9 8 (d + 3) nox 2 [some (.ref 83), some (.int x1), some (.int x2), some (.int s_11.1), none, none, none, none] [] s_11.2 none q) ?_ FUEL _ e_5
  intro s_11 o_10 e hk_6 hx_7
  unfold fX9_findGroups_b2 at e
  refine s_iload_n 2 rfl rfl <| s_aload_n 3 rfl rfl <| s_getr 4 rfl fl_X9_9 sh_83 rfl <| s_iconst 0 5 rfl (by decide) <| s_iald 0 6 rfl sh_84 (by decide) (by decide) <| ?_
  rcases iteS e with ⟨g_406, e⟩ | ⟨g_406, e⟩
  · cases e
    exact s_icmp_ge_T 7 25 rfl (by decide) g_406 <| s_fgt [false, false, false, true] rfl <| (kx_8 s_11.2 (hx_7 _ rfl))
  · obtain ⟨g_407, e⟩ := grdS e
    obtain ⟨h_408, eh_408, e⟩ := bndS e
    cases e
    exact s_icmp_ge_F 7 25 rfl (by decide) g_406 <| s_aload_n 8 rfl rfl <| s_getr 9 rfl fl_X9_35 sh_83 rfl <| s_iload_n 10 rfl rfl <| s_iload_n 11 rfl rfl <| s_iast (Int32.toNatClampNeg s_11.1) 12 rfl sh_92 g_407 rfl <| s_nmH (Option.some.inj eh_408) <| s_iinc 1 [some (.ref 83), some (.int x1), some (.int x2), some (.int (s_11.1 + 1)), none, none, none, none] 13 rfl (by decide) rfl (by decide) rfl <| s_goto 14 2 rfl (by decide) <| (hk_6 ((s_11.1 + 1), h_408) rfl)
def fX9_group_b48 (x1 : Int32) (x4 : Int32) (h : Sto) (c5 : Int32) (c6 : Int32) : Option ((Int32 × Int32) ⊕ Int32) :=
  if (h 84 0) ≤ c6 then (some (.inr c5)) else (grd (inb c6 14) <| grd (inb x1 14) <| if ¬ (h 92 (Int32.toNatClampNeg c6)) = (h 92 (Int32.toNatClampNeg x1)) then (some (.inl ((c5 ||| 0), (c6 + 1)))) else (some (.inl ((c5 ||| (jshl 1 c6)), (c6 + 1)))))
def fX9_group (x1 : Int32) (x2 : Int32) (x3 : Int32) (x4 : Int32) (h : Sto) : Option (Int32 × Sto) :=
  (fX9_isName x1 h).bind fun q_1 => if q_1 = true then ((fX9_isGroup x2 x3 h).bind fun q_4 => if q_4 = true then ((fX9_in x4.toInt64 0 2 h).bind fun q_7 => if q_7 = true then ((fX9_findGroups x2 x3 h).bind fun q_10 => (lp (fun s => fX9_group_b48 x1 x4 q_10 s.1 s.2) FUEL (0, 0)).bind fun v_24 => if ¬ x4 = 0 then (if ¬ x4 = 1 then (some (v_24, q_10)) else ((fX9_many v_24 q_10).bind fun q_28 => some (q_28, q_10))) else (grd (inb x1 14) <| some ((q_10 92 (Int32.toNatClampNeg x1)), q_10))) else ((fX9_finds (-1000001) h).bind fun q_35 => some (q_35.1, q_35.2))) else ((fX9_finds (-1000001) h).bind fun q_37 => some (q_37.1, q_37.2))) else ((fX9_finds (-1000001) h).bind fun q_39 => some (q_39.1, q_39.2))
set_option maxRecDepth 100000 in
set_option maxHeartbeats 4000000 in
theorem okX9_group (d : Nat) (x1 : Int32) (x2 : Int32) (x3 : Int32) (x4 : Int32) (h : Sto) (qv : Int32) (qh : Sto) (e : fX9_group x1 x2 x3 x4 h = some (qv, qh)) : Ok yX9_group cX9_group 7 (some .int) (d + 4) [.ref 83, .int x1, .int x2, .int x3, .int x4] h (some (.int qv)) qh := by
  refine Ok_of (lst := kX9_group) (own := RX9) ⟨by decide, rfl⟩ ckX9_group trivial (Nat.le_of_ble_eq_true rfl) ?_
  unfold fX9_group at e
  change Ev kX9_group RX9 7 (d + 4) nox 0 [some (.ref 83), some (.int x1), some (.int x2), some (.int x3), some (.int x4), none, none] [] h (some (.int qv)) qh
  obtain ⟨q_1, e_2, e⟩ := bndS e
  refine s_aload_n 0 rfl rfl <| s_iload_n 1 rfl rfl <| s_callV (b := 83) (ci := 9) 2 [.int x1] [] rfl ml_X9_73 yw_X9_isName sh_83 rfl rfl (okX9_isName (d + 2) _ _ _ e_2) rfl rfl (Nat.le_of_ble_eq_true rfl) <| ?_
  rcases iteS e with ⟨g_3, e⟩ | ⟨g_3, e⟩
  · obtain ⟨q_4, e_5, e⟩ := bndS e
    refine s_if_eq_F 3 29 rfl (by decide) (b2i_T g_3) <| s_iload_n 4 rfl rfl <| s_iload_n 5 rfl rfl <| s_callS 6 [.int x2, .int x3] [] rfl ml_X9_256 yw_X9_isGroup (okX9_isGroup (d + 2) _ _ _ _ e_5) rfl rfl (Nat.le_of_ble_eq_true rfl) <| ?_
    rcases iteS e with ⟨g_6, e⟩ | ⟨g_6, e⟩
    · obtain ⟨q_7, e_8, e⟩ := bndS e
      refine s_if_eq_F 7 29 rfl (by decide) (b2i_T g_6) <| s_iload 8 rfl rfl <| s_i2l 9 rfl <| s_lconst 0 10 rfl (by decide) <| s_ldc2_w 11 rfl wc_X9_229 <| s_callS 12 [.long x4.toInt64, .long 0, .long 2] [] rfl ml_X9_48 yw_X9_in (okX9_in (d + 3) _ _ _ _ _ e_8) rfl rfl (Nat.le_of_ble_eq_true rfl) <| ?_
      rcases iteS e with ⟨g_9, e⟩ | ⟨g_9, e⟩
      · obtain ⟨q_10, e_11, e⟩ := bndS e
        obtain ⟨y_16, e_17, e⟩ := bndS e
        have kx_20 : ∀ v_24 : Int32, v_24 = y_16 → Ev kX9_group RX9 7 (d + 4) nox 94 [some (.ref 83), some (.int x1), none, none, some (.int x4), some (.int v_24), none] [] q_10 (some (.int qv)) qh := by
          intro v_24 hy
          subst hy
          refine s_iload 51 rfl rfl <| ?_
          rcases iteS e with ⟨g_26, e⟩ | ⟨g_26, e⟩
          · refine s_if_ne_T 52 108 rfl (by decide) g_26 <| s_iload 58 rfl rfl <| s_iconst 1 59 rfl (by decide) <| ?_
            rcases iteS e with ⟨g_27, e⟩ | ⟨g_27, e⟩
            · obtain ⟨rfl, rfl⟩ := some2 e
              exact s_icmp_ne_T 60 122 rfl (by decide) g_27 <| s_iload 64 rfl rfl <| s_iret 65 rfl
            · obtain ⟨q_28, e_29, e⟩ := bndS e
              obtain ⟨rfl, rfl⟩ := some2 e
              exact s_icmp_ne_F 60 122 rfl (by decide) (Decidable.not_not.mp g_27) <| s_iload 61 rfl rfl <| s_callS 62 [.int v_24] [] rfl ml_X9_148 yw_X9_many (okX9_many (d + 3) _ _ _ e_29) rfl rfl (Nat.le_of_ble_eq_true rfl) <| s_goto 63 124 rfl (by decide) <| s_iret 65 rfl
          · obtain ⟨g_30, e⟩ := grdS e
            obtain ⟨rfl, rfl⟩ := some2 e
            exact s_if_ne_F 52 108 rfl (by decide) (Decidable.not_not.mp g_26) <| s_aload_n 53 rfl rfl <| s_getr 54 rfl fl_X9_35 sh_83 rfl <| s_iload_n 55 rfl rfl <| s_iald (Int32.toNatClampNeg x1) 56 rfl sh_92 g_30 rfl <| s_goto 57 124 rfl (by decide) <| s_iret 65 rfl
        refine s_if_ne_T 13 36 rfl (by decide) (b2i_T g_9) <| s_aload_n 18 rfl rfl <| s_iload_n 19 rfl rfl <| s_iload_n 20 rfl rfl <| s_callV (b := 83) (ci := 9) 21 [.int x2, .int x3] [] rfl ml_X9_259 yw_X9_findGroups sh_83 rfl rfl (okX9_findGroups d _ _ _ _ e_11) rfl rfl (Nat.le_of_ble_eq_true rfl) <| s_iconst 0 22 rfl (by decide) <| s_istore [some (.ref 83), some (.int x1), some (.int x2), some (.int x3), some (.int x4), some (.int 0), none] 23 rfl (by decide) rfl <| s_iconst 0 24 rfl (by decide) <| s_istore [some (.ref 83), some (.int x1), some (.int x2), some (.int x3), some (.int x4), some (.int 0), some (.int 0)] 25 rfl (by decide) rfl <| s_fgt [false, false, true, true] rfl <| lpS (P := fun (s_23 : (Int32 × Int32)) => Ev kX9_group RX9 7 (d + 4) nox 48 [some (.ref 83), some (.int x1), none, none, some (.int x4), some (.int s_23.1), some (.int s_23.2)] [] q_10 (some (.int qv)) qh) ?_ FUEL _ e_17
        intro s_23 o_22 e hk_18 hx_19
        unfold fX9_group_b48 at e
        refine s_iload 26 rfl rfl <| s_aload_n 27 rfl rfl <| s_getr 28 rfl fl_X9_9 sh_83 rfl <| s_iconst 0 29 rfl (by decide) <| s_iald 0 30 rfl sh_84 (by decide) (by decide) <| ?_
        rcases iteS e with ⟨g_31, e⟩ | ⟨g_31, e⟩
        · cases e
          exact s_icmp_ge_T 31 94 rfl (by decide) g_31 <| s_fgt [false, false, false, false, false, false, true] rfl <| (kx_20 s_23.1 (hx_19 _ rfl))
        · obtain ⟨g_32, e⟩ := grdS e
          obtain ⟨g_33, e⟩ := grdS e
          refine s_icmp_ge_F 31 94 rfl (by decide) g_31 <| s_iload 32 rfl rfl <| s_aload_n 33 rfl rfl <| s_getr 34 rfl fl_X9_35 sh_83 rfl <| s_iload 35 rfl rfl <| s_iald (Int32.toNatClampNeg s_23.2) 36 rfl sh_92 g_32 rfl <| s_aload_n 37 rfl rfl <| s_getr 38 rfl fl_X9_35 sh_83 rfl <| s_iload_n 39 rfl rfl <| s_iald (Int32.toNatClampNeg x1) 40 rfl sh_92 g_33 rfl <| ?_
          rcases iteS e with ⟨g_34, e⟩ | ⟨g_34, e⟩
          · cases e
            exact s_icmp_ne_T 41 84 rfl (by decide) g_34 <| s_iconst 0 46 rfl (by decide) <| s_ior 47 rfl <| s_istore [some (.ref 83), some (.int x1), none, none, some (.int x4), some (.int (s_23.1 ||| 0)), some (.int s_23.2)] 48 rfl (by decide) rfl <| s_iinc 1 [some (.ref 83), some (.int x1), none, none, some (.int x4), some (.int (s_23.1 ||| 0)), some (.int (s_23.2 + 1))] 49 rfl (by decide) rfl (by decide) rfl <| s_goto 50 48 rfl (by decide) <| (hk_18 ((s_23.1 ||| 0), (s_23.2 + 1)) rfl)
          · cases e
            exact s_icmp_ne_F 41 84 rfl (by decide) (Decidable.not_not.mp g_34) <| s_iconst 1 42 rfl (by decide) <| s_iload 43 rfl rfl <| s_ishl 44 rfl <| s_goto 45 85 rfl (by decide) <| s_ior 47 rfl <| s_istore [some (.ref 83), some (.int x1), none, none, some (.int x4), some (.int (s_23.1 ||| (jshl 1 s_23.2))), some (.int s_23.2)] 48 rfl (by decide) rfl <| s_iinc 1 [some (.ref 83), some (.int x1), none, none, some (.int x4), some (.int (s_23.1 ||| (jshl 1 s_23.2))), some (.int (s_23.2 + 1))] 49 rfl (by decide) rfl (by decide) rfl <| s_goto 50 48 rfl (by decide) <| (hk_18 ((s_23.1 ||| (jshl 1 s_23.2)), (s_23.2 + 1)) rfl)
      · obtain ⟨q_35, e_36, e⟩ := bndS e
        obtain ⟨rfl, rfl⟩ := some2 e
        exact s_if_ne_F 13 36 rfl (by decide) (b2i_F g_9) <| s_aload_n 14 rfl rfl <| s_ldc 15 rfl wc_X9_47 <| s_callV (b := 83) (ci := 9) 16 [.int (-1000001)] [] rfl ml_X9_64 yw_X9_finds sh_83 rfl rfl (okX9_finds (d + 3) _ _ q_35.1 q_35.2 e_36) rfl rfl (Nat.le_of_ble_eq_true rfl) <| s_iret 17 rfl
    · obtain ⟨q_37, e_38, e⟩ := bndS e
      obtain ⟨rfl, rfl⟩ := some2 e
      exact s_if_eq_T 7 29 rfl (by decide) (b2i_F g_6) <| s_aload_n 14 rfl rfl <| s_ldc 15 rfl wc_X9_47 <| s_callV (b := 83) (ci := 9) 16 [.int (-1000001)] [] rfl ml_X9_64 yw_X9_finds sh_83 rfl rfl (okX9_finds (d + 3) _ _ q_37.1 q_37.2 e_38) rfl rfl (Nat.le_of_ble_eq_true rfl) <| s_iret 17 rfl
  · obtain ⟨q_39, e_40, e⟩ := bndS e
    obtain ⟨rfl, rfl⟩ := some2 e
    exact s_if_eq_T 3 29 rfl (by decide) (b2i_F g_3) <| s_aload_n 14 rfl rfl <| s_ldc 15 rfl wc_X9_47 <| s_callV (b := 83) (ci := 9) 16 [.int (-1000001)] [] rfl ml_X9_64 yw_X9_finds sh_83 rfl rfl (okX9_finds (d + 3) _ _ q_39.1 q_39.2 e_40) rfl rfl (Nat.le_of_ble_eq_true rfl) <| s_iret 17 rfl
def fX7_countGroups_b4 (h : Sto) (c1 : Int32) (c2 : Int32) : Option ((Int32 × Int32) ⊕ Int32) :=
  if (h 65 0) ≤ c2 then (some (.inr c1)) else (grd (inb c2 14) <| (if ¬ (h 66 (Int32.toNatClampNeg c2)) = c2 then (some false) else (some true)).bind fun q_3 => (fX8_asInt (b2i q_3) h).bind fun q_6 => some (.inl ((c1 + q_6), (c2 + 1))))
def fX7_countGroups (h : Sto) : Option Int32 :=
  (lp (fun s => fX7_countGroups_b4 h s.1 s.2) FUEL (0, 0)).bind fun v_16 => some v_16
set_option maxRecDepth 100000 in
set_option maxHeartbeats 4000000 in
theorem okX7_countGroups (d : Nat) (h : Sto) (q : Int32) (e : fX7_countGroups h = some q) : Ok yX7_countGroups cX7_countGroups 3 (some .int) (d + 1) [.ref 65] h (some (.int q)) h := by
  refine Ok_of (lst := kX7_countGroups) (own := RX7) ⟨by decide, rfl⟩ ckX7_countGroups trivial (Nat.le_of_ble_eq_true rfl) ?_
  unfold fX7_countGroups at e
  change Ev kX7_countGroups RX7 3 (d + 1) nox 0 [some (.ref 65), none, none] [] h (some (.int q)) h
  obtain ⟨y_8, e_9, e⟩ := bndS e
  have kx_12 : ∀ v_16 : Int32, v_16 = y_8 → Ev kX7_countGroups RX7 3 (d + 1) nox 39 [none, some (.int v_16), none] [] h (some (.int q)) h := by
    intro v_16 hy
    subst hy
    obtain rfl := Option.some.inj e
    exact s_iload_n 23 rfl rfl <| s_iret 24 rfl
  refine s_iconst 0 0 rfl (by decide) <| s_istore_n [some (.ref 65), some (.int 0), none] 1 rfl (by decide) rfl <| s_iconst 0 2 rfl (by decide) <| s_istore_n [some (.ref 65), some (.int 0), some (.int 0)] 3 rfl (by decide) rfl <| lpS (P := fun (s_15 : (Int32 × Int32)) => Ev kX7_countGroups RX7 3 (d + 1) nox 4 [some (.ref 65), some (.int s_15.1), some (.int s_15.2)] [] h (some (.int q)) h) ?_ FUEL _ e_9
  intro s_15 o_14 e hk_10 hx_11
  unfold fX7_countGroups_b4 at e
  refine s_iload_n 4 rfl rfl <| s_aload_n 5 rfl rfl <| s_geti 6 rfl fl_X7_20 sh_65 rfl <| ?_
  rcases iteS e with ⟨g_18, e⟩ | ⟨g_18, e⟩
  · cases e
    exact s_icmp_ge_T 7 39 rfl (by decide) g_18 <| s_fgt [true, false, true] rfl <| (kx_12 s_15.1 (hx_11 _ rfl))
  · obtain ⟨g_19, e⟩ := grdS e
    obtain ⟨q_20, e1, e⟩ := bndS e
    have k_21 : Ev kX7_countGroups RX7 3 (d + 1) nox 28 [some (.ref 65), none, some (.int s_15.2)] [.int (b2i q_20), .int s_15.1] h (some (.int q)) h := by
      obtain ⟨q_23, e_24, e⟩ := bndS e
      cases e
      exact s_callSN 18 [.int (b2i q_20)] [.int s_15.1] rfl ml_X7_46 yw_X8_asInt (okX8_asInt d _ _ _ e_24) rfl rfl (Nat.le_of_ble_eq_true rfl) <| s_iadd 19 rfl <| s_istore_n [some (.ref 65), some (.int (s_15.1 + q_23)), some (.int s_15.2)] 20 rfl (by decide) rfl <| s_iinc 1 [some (.ref 65), some (.int (s_15.1 + q_23)), some (.int (s_15.2 + 1))] 21 rfl (by decide) rfl (by decide) rfl <| s_goto 22 4 rfl (by decide) <| (hk_10 ((s_15.1 + q_23), (s_15.2 + 1)) rfl)
    clear e
    have e := e1
    clear e1
    refine s_icmp_ge_F 7 39 rfl (by decide) g_18 <| s_iload_n 8 rfl rfl <| s_aload_n 9 rfl rfl <| s_getr 10 rfl fl_X7_9 sh_65 rfl <| s_iload_n 11 rfl rfl <| s_iald (Int32.toNatClampNeg s_15.2) 12 rfl sh_66 g_19 rfl <| s_iload_n 13 rfl rfl <| ?_
    rcases iteS e with ⟨g_22, e⟩ | ⟨g_22, e⟩
    · cases e
      exact s_icmp_ne_T 14 27 rfl (by decide) g_22 <| s_iconst 0 17 rfl (by decide) <| s_fgt [false, true] rfl <| k_21
    · cases e
      exact s_icmp_ne_F 14 27 rfl (by decide) (Decidable.not_not.mp g_22) <| s_iconst 1 15 rfl (by decide) <| s_goto 16 28 rfl (by decide) <| s_fgt [false, true] rfl <| k_21
def fX8_groups (x1 : Int32) (x2 : Int32) (h : Sto) : Option (Int32 × Sto) :=
  (fX8_isSpan x1 h).bind fun q_1 => if q_1 = true then ((fX8_isWithin x2 1 99 h).bind fun q_4 => if q_4 = true then ((fX7_gather (h 2 0) x1 x2 h).bind fun q_7 => (fX7_countGroups q_7).bind fun q_9 => some (q_9, q_7)) else ((fX8_tellFinding (-1000001) h).bind fun q_11 => some (q_11.1, q_11.2))) else ((fX8_tellFinding (-1000001) h).bind fun q_13 => some (q_13.1, q_13.2))
set_option maxRecDepth 100000 in
set_option maxHeartbeats 4000000 in
theorem okX8_groups (d : Nat) (x1 : Int32) (x2 : Int32) (h : Sto) (qv : Int32) (qh : Sto) (e : fX8_groups x1 x2 h = some (qv, qh)) : Ok yX8_groups cX8_groups 3 (some .int) (d + 5) [.ref 0, .int x1, .int x2] h (some (.int qv)) qh := by
  refine Ok_of (lst := kX8_groups) (own := RX8) ⟨by decide, rfl⟩ ckX8_groups trivial (Nat.le_of_ble_eq_true rfl) ?_
  unfold fX8_groups at e
  change Ev kX8_groups RX8 3 (d + 5) nox 0 [some (.ref 0), some (.int x1), some (.int x2)] [] h (some (.int qv)) qh
  obtain ⟨q_1, e_2, e⟩ := bndS e
  refine s_iload_n 0 rfl rfl <| s_callS 1 [.int x1] [] rfl ml_X8_229 yw_X8_isSpan (okX8_isSpan (d + 3) _ _ _ e_2) rfl rfl (Nat.le_of_ble_eq_true rfl) <| ?_
  rcases iteS e with ⟨g_3, e⟩ | ⟨g_3, e⟩
  · obtain ⟨q_4, e_5, e⟩ := bndS e
    refine s_if_eq_F 2 17 rfl (by decide) (b2i_T g_3) <| s_iload_n 3 rfl rfl <| s_iconst 1 4 rfl (by decide) <| s_bipush 99 5 rfl (by decide) <| s_callS 6 [.int x2, .int 1, .int 99] [] rfl ml_X8_65 yw_X8_isWithin (okX8_isWithin (d + 4) _ _ _ _ _ e_5) rfl rfl (Nat.le_of_ble_eq_true rfl) <| ?_
    rcases iteS e with ⟨g_6, e⟩ | ⟨g_6, e⟩
    · obtain ⟨q_7, e_8, e⟩ := bndS e
      obtain ⟨q_9, e_10, e⟩ := bndS e
      obtain ⟨rfl, rfl⟩ := some2 e
      exact s_if_ne_T 7 24 rfl (by decide) (b2i_T g_6) <| s_aload_n 12 rfl rfl <| s_getr 13 rfl fl_X8_58 sh_0 rfl <| s_aload_n 14 rfl rfl <| s_getr 15 rfl fl_X8_12 sh_0 rfl <| s_getr 16 rfl fl_X8_134 sh_1 rfl <| s_aload_n 17 rfl rfl <| s_getr 18 rfl fl_X8_12 sh_0 rfl <| s_getr 19 rfl fl_X8_74 sh_1 rfl <| s_geti 20 rfl fl_X8_78 sh_2 rfl <| s_iload_n 21 rfl rfl <| s_iload_n 22 rfl rfl <| s_callV (b := 65) (ci := 7) 23 [.ref 10, .int (h 2 0), .int x1, .int x2] [] rfl ml_X8_235 yw_X7_gather sh_65 rfl rfl (okX7_gather d _ _ _ _ _ e_8) rfl rfl (Nat.le_of_ble_eq_true rfl) <| s_aload_n 24 rfl rfl <| s_getr 25 rfl fl_X8_58 sh_0 rfl <| s_callV (b := 65) (ci := 7) 26 [] [] rfl ml_X8_244 yw_X7_countGroups sh_65 rfl rfl (okX7_countGroups (d + 3) _ _ e_10) rfl rfl (Nat.le_of_ble_eq_true rfl) <| s_iret 27 rfl
    · obtain ⟨q_11, e_12, e⟩ := bndS e
      obtain ⟨rfl, rfl⟩ := some2 e
      exact s_if_ne_F 7 24 rfl (by decide) (b2i_F g_6) <| s_aload_n 8 rfl rfl <| s_ldc 9 rfl wc_X8_69 <| s_callV (b := 0) (ci := 8) 10 [.int (-1000001)] [] rfl ml_X8_70 yw_X8_tellFinding sh_0 rfl rfl (okX8_tellFinding (d + 3) _ _ q_11.1 q_11.2 e_12) rfl rfl (Nat.le_of_ble_eq_true rfl) <| s_iret 11 rfl
  · obtain ⟨q_13, e_14, e⟩ := bndS e
    obtain ⟨rfl, rfl⟩ := some2 e
    exact s_if_eq_T 2 17 rfl (by decide) (b2i_F g_3) <| s_aload_n 8 rfl rfl <| s_ldc 9 rfl wc_X8_69 <| s_callV (b := 0) (ci := 8) 10 [.int (-1000001)] [] rfl ml_X8_70 yw_X8_tellFinding sh_0 rfl rfl (okX8_tellFinding (d + 3) _ _ q_13.1 q_13.2 e_14) rfl rfl (Nat.le_of_ble_eq_true rfl) <| s_iret 11 rfl
def fX9_groups_b26 (h : Sto) (c3 : Int32) (c4 : Int32) : Option ((Int32 × Int32) ⊕ Int32) :=
  if (h 84 0) ≤ c4 then (some (.inr c3)) else (grd (inb c4 14) <| if ¬ (h 92 (Int32.toNatClampNeg c4)) = c4 then (some (.inl ((c3 + 0), (c4 + 1)))) else (some (.inl ((c3 + 1), (c4 + 1)))))
def fX9_groups (x1 : Int32) (x2 : Int32) (h : Sto) : Option (Int32 × Sto) :=
  (fX9_isGroup x1 x2 h).bind fun q_1 => if q_1 = true then ((fX9_findGroups x1 x2 h).bind fun q_4 => (lp (fun s => fX9_groups_b26 q_4 s.1 s.2) FUEL (0, 0)).bind fun v_17 => some (v_17, q_4)) else ((fX9_finds (-1000001) h).bind fun q_22 => some (q_22.1, q_22.2))
set_option maxRecDepth 100000 in
set_option maxHeartbeats 4000000 in
theorem okX9_groups (d : Nat) (x1 : Int32) (x2 : Int32) (h : Sto) (qv : Int32) (qh : Sto) (e : fX9_groups x1 x2 h = some (qv, qh)) : Ok yX9_groups cX9_groups 5 (some .int) (d + 4) [.ref 83, .int x1, .int x2] h (some (.int qv)) qh := by
  refine Ok_of (lst := kX9_groups) (own := RX9) ⟨by decide, rfl⟩ ckX9_groups trivial (Nat.le_of_ble_eq_true rfl) ?_
  unfold fX9_groups at e
  change Ev kX9_groups RX9 5 (d + 4) nox 0 [some (.ref 83), some (.int x1), some (.int x2), none, none] [] h (some (.int qv)) qh
  obtain ⟨q_1, e_2, e⟩ := bndS e
  refine s_iload_n 0 rfl rfl <| s_iload_n 1 rfl rfl <| s_callS 2 [.int x1, .int x2] [] rfl ml_X9_256 yw_X9_isGroup (okX9_isGroup (d + 2) _ _ _ _ e_2) rfl rfl (Nat.le_of_ble_eq_true rfl) <| ?_
  rcases iteS e with ⟨g_3, e⟩ | ⟨g_3, e⟩
  · obtain ⟨q_4, e_5, e⟩ := bndS e
    obtain ⟨y_9, e_10, e⟩ := bndS e
    have kx_13 : ∀ v_17 : Int32, v_17 = y_9 → Ev kX9_groups RX9 5 (d + 4) nox 63 [none, none, none, some (.int v_17), none] [] q_4 (some (.int qv)) qh := by
      intro v_17 hy
      subst hy
      obtain ⟨rfl, rfl⟩ := some2 e
      exact s_iload_n 36 rfl rfl <| s_iret 37 rfl
    refine s_if_ne_T 3 15 rfl (by decide) (b2i_T g_3) <| s_aload_n 8 rfl rfl <| s_iload_n 9 rfl rfl <| s_iload_n 10 rfl rfl <| s_callV (b := 83) (ci := 9) 11 [.int x1, .int x2] [] rfl ml_X9_259 yw_X9_findGroups sh_83 rfl rfl (okX9_findGroups d _ _ _ _ e_5) rfl rfl (Nat.le_of_ble_eq_true rfl) <| s_iconst 0 12 rfl (by decide) <| s_istore_n [some (.ref 83), some (.int x1), some (.int x2), some (.int 0), none] 13 rfl (by decide) rfl <| s_iconst 0 14 rfl (by decide) <| s_istore [some (.ref 83), some (.int x1), some (.int x2), some (.int 0), some (.int 0)] 15 rfl (by decide) rfl <| s_fgt [false, true, true] rfl <| lpS (P := fun (s_16 : (Int32 × Int32)) => Ev kX9_groups RX9 5 (d + 4) nox 26 [some (.ref 83), none, none, some (.int s_16.1), some (.int s_16.2)] [] q_4 (some (.int qv)) qh) ?_ FUEL _ e_10
    intro s_16 o_15 e hk_11 hx_12
    unfold fX9_groups_b26 at e
    refine s_iload 16 rfl rfl <| s_aload_n 17 rfl rfl <| s_getr 18 rfl fl_X9_9 sh_83 rfl <| s_iconst 0 19 rfl (by decide) <| s_iald 0 20 rfl sh_84 (by decide) (by decide) <| ?_
    rcases iteS e with ⟨g_19, e⟩ | ⟨g_19, e⟩
    · cases e
      exact s_icmp_ge_T 21 63 rfl (by decide) g_19 <| s_fgt [true, false, false, false, true] rfl <| (kx_13 s_16.1 (hx_12 _ rfl))
    · obtain ⟨g_20, e⟩ := grdS e
      refine s_icmp_ge_F 21 63 rfl (by decide) g_19 <| s_iload_n 22 rfl rfl <| s_aload_n 23 rfl rfl <| s_getr 24 rfl fl_X9_35 sh_83 rfl <| s_iload 25 rfl rfl <| s_iald (Int32.toNatClampNeg s_16.2) 26 rfl sh_92 g_20 rfl <| s_iload 27 rfl rfl <| ?_
      rcases iteS e with ⟨g_21, e⟩ | ⟨g_21, e⟩
      · cases e
        exact s_icmp_ne_T 28 54 rfl (by decide) g_21 <| s_iconst 0 31 rfl (by decide) <| s_iadd 32 rfl <| s_istore_n [some (.ref 83), none, none, some (.int (s_16.1 + 0)), some (.int s_16.2)] 33 rfl (by decide) rfl <| s_iinc 1 [some (.ref 83), none, none, some (.int (s_16.1 + 0)), some (.int (s_16.2 + 1))] 34 rfl (by decide) rfl (by decide) rfl <| s_goto 35 26 rfl (by decide) <| (hk_11 ((s_16.1 + 0), (s_16.2 + 1)) rfl)
      · cases e
        exact s_icmp_ne_F 28 54 rfl (by decide) (Decidable.not_not.mp g_21) <| s_iconst 1 29 rfl (by decide) <| s_goto 30 55 rfl (by decide) <| s_iadd 32 rfl <| s_istore_n [some (.ref 83), none, none, some (.int (s_16.1 + 1)), some (.int s_16.2)] 33 rfl (by decide) rfl <| s_iinc 1 [some (.ref 83), none, none, some (.int (s_16.1 + 1)), some (.int (s_16.2 + 1))] 34 rfl (by decide) rfl (by decide) rfl <| s_goto 35 26 rfl (by decide) <| (hk_11 ((s_16.1 + 1), (s_16.2 + 1)) rfl)
  · obtain ⟨q_22, e_23, e⟩ := bndS e
    obtain ⟨rfl, rfl⟩ := some2 e
    exact s_if_ne_F 3 15 rfl (by decide) (b2i_F g_3) <| s_aload_n 4 rfl rfl <| s_ldc 5 rfl wc_X9_47 <| s_callV (b := 83) (ci := 9) 6 [.int (-1000001)] [] rfl ml_X9_64 yw_X9_finds sh_83 rfl rfl (okX9_finds (d + 3) _ _ q_22.1 q_22.2 e_23) rfl rfl (Nat.le_of_ble_eq_true rfl) <| s_iret 7 rfl
def fX8_club (x1 : Int32) (x2 : Int32) (h : Sto) : Option (Int32 × Sto) :=
  (fX8_isSecond x1 h).bind fun q_1 => if q_1 = true then ((fX8_isSpan x2 h).bind fun q_4 => if q_4 = true then ((fX0_speakersBetween x1 (x1 + x2) h).bind fun q_7 => some (q_7, h)) else ((fX8_tellFinding (-1000001) h).bind fun q_9 => some (q_9.1, q_9.2))) else ((fX8_tellFinding (-1000001) h).bind fun q_11 => some (q_11.1, q_11.2))
set_option maxRecDepth 100000 in
set_option maxHeartbeats 4000000 in
theorem okX8_club (d : Nat) (x1 : Int32) (x2 : Int32) (h : Sto) (qv : Int32) (qh : Sto) (e : fX8_club x1 x2 h = some (qv, qh)) : Ok yX8_club cX8_club 3 (some .int) (d + 2) [.ref 0, .int x1, .int x2] h (some (.int qv)) qh := by
  refine Ok_of (lst := kX8_club) (own := RX8) ⟨by decide, rfl⟩ ckX8_club trivial (Nat.le_of_ble_eq_true rfl) ?_
  unfold fX8_club at e
  change Ev kX8_club RX8 3 (d + 2) nox 0 [some (.ref 0), some (.int x1), some (.int x2)] [] h (some (.int qv)) qh
  obtain ⟨q_1, e_2, e⟩ := bndS e
  refine s_iload_n 0 rfl rfl <| s_callS 1 [.int x1] [] rfl ml_X8_122 yw_X8_isSecond (okX8_isSecond d _ _ _ e_2) rfl rfl (Nat.le_of_ble_eq_true rfl) <| ?_
  rcases iteS e with ⟨g_3, e⟩ | ⟨g_3, e⟩
  · obtain ⟨q_4, e_5, e⟩ := bndS e
    refine s_if_eq_F 2 14 rfl (by decide) (b2i_T g_3) <| s_iload_n 3 rfl rfl <| s_callS 4 [.int x2] [] rfl ml_X8_229 yw_X8_isSpan (okX8_isSpan d _ _ _ e_5) rfl rfl (Nat.le_of_ble_eq_true rfl) <| ?_
    rcases iteS e with ⟨g_6, e⟩ | ⟨g_6, e⟩
    · obtain ⟨q_7, e_8, e⟩ := bndS e
      obtain ⟨rfl, rfl⟩ := some2 e
      exact s_if_ne_T 5 21 rfl (by decide) (b2i_T g_6) <| s_aload_n 10 rfl rfl <| s_getr 11 rfl fl_X8_12 sh_0 rfl <| s_getr 12 rfl fl_X8_134 sh_1 rfl <| s_iload_n 13 rfl rfl <| s_iload_n 14 rfl rfl <| s_iload_n 15 rfl rfl <| s_iadd 16 rfl <| s_callV (b := 10) (ci := 0) 17 [.int x1, .int (x1 + x2)] [] rfl ml_X8_247 yw_X0_speakersBetween sh_10 rfl rfl (okX0_speakersBetween d _ _ _ _ e_8) rfl rfl (Nat.le_of_ble_eq_true rfl) <| s_iret 18 rfl
    · obtain ⟨q_9, e_10, e⟩ := bndS e
      obtain ⟨rfl, rfl⟩ := some2 e
      exact s_if_ne_F 5 21 rfl (by decide) (b2i_F g_6) <| s_aload_n 6 rfl rfl <| s_ldc 7 rfl wc_X8_69 <| s_callV (b := 0) (ci := 8) 8 [.int (-1000001)] [] rfl ml_X8_70 yw_X8_tellFinding sh_0 rfl rfl (okX8_tellFinding d _ _ q_9.1 q_9.2 e_10) rfl rfl (Nat.le_of_ble_eq_true rfl) <| s_iret 9 rfl
  · obtain ⟨q_11, e_12, e⟩ := bndS e
    obtain ⟨rfl, rfl⟩ := some2 e
    exact s_if_eq_T 2 14 rfl (by decide) (b2i_F g_3) <| s_aload_n 6 rfl rfl <| s_ldc 7 rfl wc_X8_69 <| s_callV (b := 0) (ci := 8) 8 [.int (-1000001)] [] rfl ml_X8_70 yw_X8_tellFinding sh_0 rfl rfl (okX8_tellFinding d _ _ q_11.1 q_11.2 e_12) rfl rfl (Nat.le_of_ble_eq_true rfl) <| s_iret 9 rfl
def fX9_club_b31 (x1 : Int32) (x2 : Int32) (h : Sto) (c3 : Int32) (c4 : Int32) : Option ((Int32 × Int32) ⊕ Int32) :=
  if (h 84 2) ≤ c4 then (some (.inr c3)) else ((fX9_word c4 0 h).bind fun q_8 => (fX9_in ((q_8 - x1).toInt64) 0 x2.toInt64 h).bind fun q_10 => if q_10 = true then ((fX9_word c4 1 h).bind fun q_13 => some (.inl ((c3 ||| (jshl 1 q_13)), (c4 + 1)))) else (some (.inl ((c3 ||| 0), (c4 + 1)))))
def fX9_club (x1 : Int32) (x2 : Int32) (h : Sto) : Option (Int32 × Sto) :=
  (fX9_isSecond x1 h).bind fun q_1 => if q_1 = true then ((fX9_in x2.toInt64 0 99 h).bind fun q_4 => if q_4 = true then ((lp (fun s => fX9_club_b31 x1 x2 h s.1 s.2) FUEL (0, 0)).bind fun v_23 => some (v_23, h)) else ((fX9_finds (-1000001) h).bind fun q_33 => some (q_33.1, q_33.2))) else ((fX9_finds (-1000001) h).bind fun q_35 => some (q_35.1, q_35.2))
set_option maxRecDepth 100000 in
set_option maxHeartbeats 4000000 in
theorem okX9_club (d : Nat) (x1 : Int32) (x2 : Int32) (h : Sto) (qv : Int32) (qh : Sto) (e : fX9_club x1 x2 h = some (qv, qh)) : Ok yX9_club cX9_club 5 (some .int) (d + 2) [.ref 83, .int x1, .int x2] h (some (.int qv)) qh := by
  refine Ok_of (lst := kX9_club) (own := RX9) ⟨by decide, rfl⟩ ckX9_club trivial (Nat.le_of_ble_eq_true rfl) ?_
  unfold fX9_club at e
  change Ev kX9_club RX9 5 (d + 2) nox 0 [some (.ref 83), some (.int x1), some (.int x2), none, none] [] h (some (.int qv)) qh
  obtain ⟨q_1, e_2, e⟩ := bndS e
  refine s_iload_n 0 rfl rfl <| s_callS 1 [.int x1] [] rfl ml_X9_116 yw_X9_isSecond (okX9_isSecond d _ _ _ e_2) rfl rfl (Nat.le_of_ble_eq_true rfl) <| ?_
  rcases iteS e with ⟨g_3, e⟩ | ⟨g_3, e⟩
  · obtain ⟨q_4, e_5, e⟩ := bndS e
    refine s_if_eq_F 2 19 rfl (by decide) (b2i_T g_3) <| s_iload_n 3 rfl rfl <| s_i2l 4 rfl <| s_lconst 0 5 rfl (by decide) <| s_ldc2_w 6 rfl wc_X9_82 <| s_callS 7 [.long x2.toInt64, .long 0, .long 99] [] rfl ml_X9_48 yw_X9_in (okX9_in (d + 1) _ _ _ _ _ e_5) rfl rfl (Nat.le_of_ble_eq_true rfl) <| ?_
    rcases iteS e with ⟨g_6, e⟩ | ⟨g_6, e⟩
    · obtain ⟨y_15, e_16, e⟩ := bndS e
      have kx_19 : ∀ v_23 : Int32, v_23 = y_15 → Ev kX9_club RX9 5 (d + 2) nox 83 [none, none, none, some (.int v_23), none] [] h (some (.int qv)) qh := by
        intro v_23 hy
        subst hy
        obtain ⟨rfl, rfl⟩ := some2 e
        exact s_iload_n 48 rfl rfl <| s_iret 49 rfl
      refine s_if_ne_T 8 26 rfl (by decide) (b2i_T g_6) <| s_iconst 0 13 rfl (by decide) <| s_istore_n [some (.ref 83), some (.int x1), some (.int x2), some (.int 0), none] 14 rfl (by decide) rfl <| s_iconst 0 15 rfl (by decide) <| s_istore [some (.ref 83), some (.int x1), some (.int x2), some (.int 0), some (.int 0)] 16 rfl (by decide) rfl <| lpS (P := fun (s_22 : (Int32 × Int32)) => Ev kX9_club RX9 5 (d + 2) nox 31 [some (.ref 83), some (.int x1), some (.int x2), some (.int s_22.1), some (.int s_22.2)] [] h (some (.int qv)) qh) ?_ FUEL _ e_16
      intro s_22 o_21 e hk_17 hx_18
      unfold fX9_club_b31 at e
      refine s_iload 17 rfl rfl <| s_aload_n 18 rfl rfl <| s_getr 19 rfl fl_X9_9 sh_83 rfl <| s_iconst 2 20 rfl (by decide) <| s_iald 2 21 rfl sh_84 (by decide) (by decide) <| ?_
      rcases iteS e with ⟨g_25, e⟩ | ⟨g_25, e⟩
      · cases e
        exact s_icmp_ge_T 22 83 rfl (by decide) g_25 <| s_fgt [true, true, true, false, true] rfl <| (kx_19 s_22.1 (hx_18 _ rfl))
      · obtain ⟨q_26, e_27, e⟩ := bndS e
        obtain ⟨q_28, e_29, e⟩ := bndS e
        refine s_icmp_ge_F 22 83 rfl (by decide) g_25 <| s_iload_n 23 rfl rfl <| s_aload_n 24 rfl rfl <| s_iload 25 rfl rfl <| s_iconst 0 26 rfl (by decide) <| s_callV (b := 83) (ci := 9) 27 [.int s_22.2, .int 0] [.int s_22.1] rfl ml_X9_101 yw_X9_word sh_83 rfl rfl (okX9_word (d + 1) _ _ _ _ e_27) rfl rfl (Nat.le_of_ble_eq_true rfl) <| s_iload_n 28 rfl rfl <| s_isub 29 rfl <| s_i2l 30 rfl <| s_lconst 0 31 rfl (by decide) <| s_iload_n 32 rfl rfl <| s_i2l 33 rfl <| s_callS 34 [.long ((q_26 - x1).toInt64), .long 0, .long x2.toInt64] [.int s_22.1] rfl ml_X9_48 yw_X9_in (okX9_in (d + 1) _ _ _ _ _ e_29) rfl rfl (Nat.le_of_ble_eq_true rfl) <| ?_
        rcases iteS e with ⟨g_30, e⟩ | ⟨g_30, e⟩
        · obtain ⟨q_31, e_32, e⟩ := bndS e
          cases e
          exact s_if_eq_F 35 74 rfl (by decide) (b2i_T g_30) <| s_iconst 1 36 rfl (by decide) <| s_aload_n 37 rfl rfl <| s_iload 38 rfl rfl <| s_iconst 1 39 rfl (by decide) <| s_callV (b := 83) (ci := 9) 40 [.int s_22.2, .int 1] [.int 1, .int s_22.1] rfl ml_X9_101 yw_X9_word sh_83 rfl rfl (okX9_word (d + 1) _ _ _ _ e_32) rfl rfl (Nat.le_of_ble_eq_true rfl) <| s_ishl 41 rfl <| s_goto 42 75 rfl (by decide) <| s_ior 44 rfl <| s_istore_n [some (.ref 83), some (.int x1), some (.int x2), some (.int (s_22.1 ||| (jshl 1 q_31))), some (.int s_22.2)] 45 rfl (by decide) rfl <| s_iinc 1 [some (.ref 83), some (.int x1), some (.int x2), some (.int (s_22.1 ||| (jshl 1 q_31))), some (.int (s_22.2 + 1))] 46 rfl (by decide) rfl (by decide) rfl <| s_goto 47 31 rfl (by decide) <| (hk_17 ((s_22.1 ||| (jshl 1 q_31)), (s_22.2 + 1)) rfl)
        · cases e
          exact s_if_eq_T 35 74 rfl (by decide) (b2i_F g_30) <| s_iconst 0 43 rfl (by decide) <| s_ior 44 rfl <| s_istore_n [some (.ref 83), some (.int x1), some (.int x2), some (.int (s_22.1 ||| 0)), some (.int s_22.2)] 45 rfl (by decide) rfl <| s_iinc 1 [some (.ref 83), some (.int x1), some (.int x2), some (.int (s_22.1 ||| 0)), some (.int (s_22.2 + 1))] 46 rfl (by decide) rfl (by decide) rfl <| s_goto 47 31 rfl (by decide) <| (hk_17 ((s_22.1 ||| 0), (s_22.2 + 1)) rfl)
    · obtain ⟨q_33, e_34, e⟩ := bndS e
      obtain ⟨rfl, rfl⟩ := some2 e
      exact s_if_ne_F 8 26 rfl (by decide) (b2i_F g_6) <| s_aload_n 9 rfl rfl <| s_ldc 10 rfl wc_X9_47 <| s_callV (b := 83) (ci := 9) 11 [.int (-1000001)] [] rfl ml_X9_64 yw_X9_finds sh_83 rfl rfl (okX9_finds (d + 1) _ _ q_33.1 q_33.2 e_34) rfl rfl (Nat.le_of_ble_eq_true rfl) <| s_iret 12 rfl
  · obtain ⟨q_35, e_36, e⟩ := bndS e
    obtain ⟨rfl, rfl⟩ := some2 e
    exact s_if_eq_T 2 19 rfl (by decide) (b2i_F g_3) <| s_aload_n 9 rfl rfl <| s_ldc 10 rfl wc_X9_47 <| s_callV (b := 83) (ci := 9) 11 [.int (-1000001)] [] rfl ml_X9_64 yw_X9_finds sh_83 rfl rfl (okX9_finds (d + 1) _ _ q_35.1 q_35.2 e_36) rfl rfl (Nat.le_of_ble_eq_true rfl) <| s_iret 12 rfl
def fX8_apart (x1 : Int32) (x2 : Int32) (h : Sto) : Option (Int32 × Sto) :=
  (fX8_areTwoNames x1 x2 h).bind fun q_1 => if q_1 = true then ((fX0_hourSet x1 h).bind fun q_4 => (fX0_hourSet x2 h).bind fun q_6 => (fJ6_bitCount_0f7a4 (q_4 ^^^ q_6) h).bind fun q_8 => some (q_8, h)) else ((fX8_tellFinding (-1000001) h).bind fun q_10 => some (q_10.1, q_10.2))
set_option maxRecDepth 100000 in
set_option maxHeartbeats 4000000 in
theorem okX8_apart (d : Nat) (x1 : Int32) (x2 : Int32) (h : Sto) (qv : Int32) (qh : Sto) (e : fX8_apart x1 x2 h = some (qv, qh)) : Ok yX8_apart cX8_apart 3 (some .int) (d + 3) [.ref 0, .int x1, .int x2] h (some (.int qv)) qh := by
  refine Ok_of (lst := kX8_apart) (own := RX8) ⟨by decide, rfl⟩ ckX8_apart trivial (Nat.le_of_ble_eq_true rfl) ?_
  unfold fX8_apart at e
  change Ev kX8_apart RX8 3 (d + 3) nox 0 [some (.ref 0), some (.int x1), some (.int x2)] [] h (some (.int qv)) qh
  obtain ⟨q_1, e_2, e⟩ := bndS e
  refine s_aload_n 0 rfl rfl <| s_iload_n 1 rfl rfl <| s_iload_n 2 rfl rfl <| s_callV (b := 0) (ci := 8) 3 [.int x1, .int x2] [] rfl ml_X8_226 yw_X8_areTwoNames sh_0 rfl rfl (okX8_areTwoNames d _ _ _ _ e_2) rfl rfl (Nat.le_of_ble_eq_true rfl) <| ?_
  rcases iteS e with ⟨g_3, e⟩ | ⟨g_3, e⟩
  · obtain ⟨q_4, e_5, e⟩ := bndS e
    obtain ⟨q_6, e_7, e⟩ := bndS e
    obtain ⟨q_8, e_9, e⟩ := bndS e
    obtain ⟨rfl, rfl⟩ := some2 e
    exact s_if_ne_T 4 16 rfl (by decide) (b2i_T g_3) <| s_aload_n 9 rfl rfl <| s_getr 10 rfl fl_X8_12 sh_0 rfl <| s_getr 11 rfl fl_X8_134 sh_1 rfl <| s_iload_n 12 rfl rfl <| s_callV (b := 10) (ci := 0) 13 [.int x1] [] rfl ml_X8_178 yw_X0_hourSet sh_10 rfl rfl (okX0_hourSet (d + 1) _ _ _ e_5) rfl rfl (Nat.le_of_ble_eq_true rfl) <| s_aload_n 14 rfl rfl <| s_getr 15 rfl fl_X8_12 sh_0 rfl <| s_getr 16 rfl fl_X8_134 sh_1 rfl <| s_iload_n 17 rfl rfl <| s_callV (b := 10) (ci := 0) 18 [.int x2] [.int q_4] rfl ml_X8_178 yw_X0_hourSet sh_10 rfl rfl (okX0_hourSet (d + 1) _ _ _ e_7) rfl rfl (Nat.le_of_ble_eq_true rfl) <| s_ixor 19 rfl <| s_callS 20 [.int (q_4 ^^^ q_6)] [] rfl ml_X8_117 yw_J6_bitCount_0f7a4 (okJ6_bitCount_0f7a4 (d + 2) _ _ _ e_9) rfl rfl (Nat.le_of_ble_eq_true rfl) <| s_iret 21 rfl
  · obtain ⟨q_10, e_11, e⟩ := bndS e
    obtain ⟨rfl, rfl⟩ := some2 e
    exact s_if_ne_F 4 16 rfl (by decide) (b2i_F g_3) <| s_aload_n 5 rfl rfl <| s_ldc 6 rfl wc_X8_69 <| s_callV (b := 0) (ci := 8) 7 [.int (-1000001)] [] rfl ml_X8_70 yw_X8_tellFinding sh_0 rfl rfl (okX8_tellFinding (d + 1) _ _ q_10.1 q_10.2 e_11) rfl rfl (Nat.le_of_ble_eq_true rfl) <| s_iret 8 rfl
def fX9_apart (x1 : Int32) (x2 : Int32) (h : Sto) : Option (Int32 × Sto) :=
  (fX9_areTwo x1 x2 h).bind fun q_1 => if q_1 = true then ((fX9_hoursOf x1 h).bind fun q_4 => (fX9_hoursOf x2 h).bind fun q_6 => (fX9_many (q_4 ^^^ q_6) h).bind fun q_8 => some (q_8, h)) else ((fX9_finds (-1000001) h).bind fun q_10 => some (q_10.1, q_10.2))
set_option maxRecDepth 100000 in
set_option maxHeartbeats 4000000 in
theorem okX9_apart (d : Nat) (x1 : Int32) (x2 : Int32) (h : Sto) (qv : Int32) (qh : Sto) (e : fX9_apart x1 x2 h = some (qv, qh)) : Ok yX9_apart cX9_apart 3 (some .int) (d + 3) [.ref 83, .int x1, .int x2] h (some (.int qv)) qh := by
  refine Ok_of (lst := kX9_apart) (own := RX9) ⟨by decide, rfl⟩ ckX9_apart trivial (Nat.le_of_ble_eq_true rfl) ?_
  unfold fX9_apart at e
  change Ev kX9_apart RX9 3 (d + 3) nox 0 [some (.ref 83), some (.int x1), some (.int x2)] [] h (some (.int qv)) qh
  obtain ⟨q_1, e_2, e⟩ := bndS e
  refine s_aload_n 0 rfl rfl <| s_iload_n 1 rfl rfl <| s_iload_n 2 rfl rfl <| s_callV (b := 83) (ci := 9) 3 [.int x1, .int x2] [] rfl ml_X9_250 yw_X9_areTwo sh_83 rfl rfl (okX9_areTwo d _ _ _ _ e_2) rfl rfl (Nat.le_of_ble_eq_true rfl) <| ?_
  rcases iteS e with ⟨g_3, e⟩ | ⟨g_3, e⟩
  · obtain ⟨q_4, e_5, e⟩ := bndS e
    obtain ⟨q_6, e_7, e⟩ := bndS e
    obtain ⟨q_8, e_9, e⟩ := bndS e
    obtain ⟨rfl, rfl⟩ := some2 e
    exact s_if_eq_F 4 26 rfl (by decide) (b2i_T g_3) <| s_aload_n 5 rfl rfl <| s_iload_n 6 rfl rfl <| s_callV (b := 83) (ci := 9) 7 [.int x1] [] rfl ml_X9_145 yw_X9_hoursOf sh_83 rfl rfl (okX9_hoursOf (d + 1) _ _ _ e_5) rfl rfl (Nat.le_of_ble_eq_true rfl) <| s_aload_n 8 rfl rfl <| s_iload_n 9 rfl rfl <| s_callV (b := 83) (ci := 9) 10 [.int x2] [.int q_4] rfl ml_X9_145 yw_X9_hoursOf sh_83 rfl rfl (okX9_hoursOf (d + 1) _ _ _ e_7) rfl rfl (Nat.le_of_ble_eq_true rfl) <| s_ixor 11 rfl <| s_callS 12 [.int (q_4 ^^^ q_6)] [] rfl ml_X9_148 yw_X9_many (okX9_many (d + 2) _ _ _ e_9) rfl rfl (Nat.le_of_ble_eq_true rfl) <| s_goto 13 32 rfl (by decide) <| s_iret 17 rfl
  · obtain ⟨q_10, e_11, e⟩ := bndS e
    obtain ⟨rfl, rfl⟩ := some2 e
    exact s_if_eq_T 4 26 rfl (by decide) (b2i_F g_3) <| s_aload_n 14 rfl rfl <| s_ldc 15 rfl wc_X9_47 <| s_callV (b := 83) (ci := 9) 16 [.int (-1000001)] [] rfl ml_X9_64 yw_X9_finds sh_83 rfl rfl (okX9_finds (d + 2) _ _ q_10.1 q_10.2 e_11) rfl rfl (Nat.le_of_ble_eq_true rfl) <| s_iret 17 rfl
def fX1_hasAll (x1 : Int32) (h : Sto) : Option Bool :=
  (fX8_isWithin x1 0 ((jshl 1 (h 2 0)) - 1) h).bind fun q_1 => some q_1
set_option maxRecDepth 100000 in
set_option maxHeartbeats 4000000 in
theorem okX1_hasAll (d : Nat) (x1 : Int32) (h : Sto) (q : Bool) (e : fX1_hasAll x1 h = some q) : Ok yX1_hasAll cX1_hasAll 2 (some .boolean) (d + 1) [.ref 2, .int x1] h (some (.int (b2i q))) h := by
  refine Ok_of (lst := kX1_hasAll) (own := RX1) ⟨by decide, rfl⟩ ckX1_hasAll (b2i_01 _) (Nat.le_of_ble_eq_true rfl) ?_
  unfold fX1_hasAll at e
  change Ev kX1_hasAll RX1 2 (d + 1) nox 0 [some (.ref 2), some (.int x1)] [] h (some (.int (b2i q))) h
  obtain ⟨q_1, e_2, e⟩ := bndS e
  obtain rfl := Option.some.inj e
  exact s_iload_n 0 rfl rfl <| s_iconst 0 1 rfl (by decide) <| s_iconst 1 2 rfl (by decide) <| s_aload_n 3 rfl rfl <| s_geti 4 rfl fl_X1_16 sh_2 rfl <| s_ishl 5 rfl <| s_iconst 1 6 rfl (by decide) <| s_isub 7 rfl <| s_callSN 8 [.int x1, .int 0, .int ((jshl 1 (h 2 0)) - 1)] [] rfl ml_X1_20 yw_X8_isWithin (okX8_isWithin d _ _ _ _ _ e_2) rfl rfl (Nat.le_of_ble_eq_true rfl) <| s_iret 9 rfl
def fX0_countTelling_b5 (x1 : Int32) (x2 : Int32) (h : Sto) (c3 : Int32) (c4 : Int32) : Option ((Int32 × Int32) ⊕ Int32) :=
  if (h 10 1) ≤ c4 then (some (.inr c3)) else ((if x1 = (-1) then (some true) else (grd (inb c4 200) <| if ¬ (h 13 (Int32.toNatClampNeg c4)) = x1 then (some false) else (some true))).bind fun q_2 => (if q_2 = true then (grd (inb c4 200) <| (fX8_hasBit x2 (h 12 (Int32.toNatClampNeg c4)) h).bind fun q_11 => if q_11 = true then (some false) else (some true)) else (some false)).bind fun q_7 => (fX8_asInt (b2i q_7) h).bind fun q_14 => some (.inl ((c3 + q_14), (c4 + 1))))
def fX0_countTelling (x1 : Int32) (x2 : Int32) (h : Sto) : Option Int32 :=
  (lp (fun s => fX0_countTelling_b5 x1 x2 h s.1 s.2) FUEL (0, 0)).bind fun v_24 => some v_24
set_option maxRecDepth 100000 in
set_option maxHeartbeats 4000000 in
theorem okX0_countTelling (d : Nat) (x1 : Int32) (x2 : Int32) (h : Sto) (q : Int32) (e : fX0_countTelling x1 x2 h = some q) : Ok yX0_countTelling cX0_countTelling 6 (some .int) (d + 1) [.ref 10, .int x1, .int x2] h (some (.int q)) h := by
  refine Ok_of (lst := kX0_countTelling) (own := RX0) ⟨by decide, rfl⟩ ckX0_countTelling trivial (Nat.le_of_ble_eq_true rfl) ?_
  unfold fX0_countTelling at e
  change Ev kX0_countTelling RX0 6 (d + 1) nox 0 [some (.ref 10), some (.int x1), some (.int x2), none, none, none] [] h (some (.int q)) h
  obtain ⟨y_16, e_17, e⟩ := bndS e
  have kx_20 : ∀ v_24 : Int32, v_24 = y_16 → Ev kX0_countTelling RX0 6 (d + 1) nox 73 [none, none, none, some (.int v_24), none, none] [] h (some (.int q)) h := by
    intro v_24 hy
    subst hy
    obtain rfl := Option.some.inj e
    exact s_iload_n 39 rfl rfl <| s_iret 40 rfl
  refine s_iconst 0 0 rfl (by decide) <| s_istore_n [some (.ref 10), some (.int x1), some (.int x2), some (.int 0), none, none] 1 rfl (by decide) rfl <| s_iconst 0 2 rfl (by decide) <| s_istore [some (.ref 10), some (.int x1), some (.int x2), some (.int 0), some (.int 0), none] 3 rfl (by decide) rfl <| lpS (P := fun (s_23 : (Int32 × Int32)) => Ev kX0_countTelling RX0 6 (d + 1) nox 5 [some (.ref 10), some (.int x1), some (.int x2), some (.int s_23.1), some (.int s_23.2), none] [] h (some (.int q)) h) ?_ FUEL _ e_17
  intro s_23 o_22 e hk_18 hx_19
  unfold fX0_countTelling_b5 at e
  refine s_iload 4 rfl rfl <| s_aload_n 5 rfl rfl <| s_geti 6 rfl fl_X0_28 sh_10 rfl <| ?_
  rcases iteS e with ⟨g_26, e⟩ | ⟨g_26, e⟩
  · cases e
    exact s_icmp_ge_T 7 73 rfl (by decide) g_26 <| s_fgt [true, true, true, false, true] rfl <| (kx_20 s_23.1 (hx_19 _ rfl))
  · obtain ⟨q_27, e1, e⟩ := bndS e
    have k_28 : Ev kX0_countTelling RX0 6 (d + 1) nox 35 [some (.ref 10), some (.int x1), some (.int x2), some (.int s_23.1), some (.int s_23.2), none] [.int (b2i q_27)] h (some (.int q)) h := by
      obtain ⟨q_32, e1, e⟩ := bndS e
      have k_33 : Ev kX0_countTelling RX0 6 (d + 1) nox 62 [some (.ref 10), some (.int x1), some (.int x2), none, some (.int s_23.2), none] [.int (b2i q_32), .int s_23.1] h (some (.int q)) h := by
        obtain ⟨q_39, e_40, e⟩ := bndS e
        cases e
        exact s_callSN 34 [.int (b2i q_32)] [.int s_23.1] rfl ml_X0_43 yw_X8_asInt (okX8_asInt d _ _ _ e_40) rfl rfl (Nat.le_of_ble_eq_true rfl) <| s_iadd 35 rfl <| s_istore_n [some (.ref 10), some (.int x1), some (.int x2), some (.int (s_23.1 + q_39)), some (.int s_23.2), none] 36 rfl (by decide) rfl <| s_iinc 1 [some (.ref 10), some (.int x1), some (.int x2), some (.int (s_23.1 + q_39)), some (.int (s_23.2 + 1)), none] 37 rfl (by decide) rfl (by decide) rfl <| s_goto 38 5 rfl (by decide) <| (hk_18 ((s_23.1 + q_39), (s_23.2 + 1)) rfl)
      clear e
      have e := e1
      clear e1
      refine s_istore [some (.ref 10), some (.int x1), some (.int x2), some (.int s_23.1), some (.int s_23.2), some (.int (b2i q_27))] 20 rfl (by decide) rfl <| s_iload_n 21 rfl rfl <| s_iload 22 rfl rfl <| ?_
      rcases iteS e with ⟨g_34, e⟩ | ⟨g_34, e⟩
      · obtain ⟨g_35, e⟩ := grdS e
        obtain ⟨q_36, e_37, e⟩ := bndS e
        refine s_if_eq_F 23 61 rfl (by decide) (b2i_T g_34) <| s_iload_n 24 rfl rfl <| s_aload_n 25 rfl rfl <| s_getr 26 rfl fl_X0_15 sh_10 rfl <| s_iload 27 rfl rfl <| s_iald (Int32.toNatClampNeg s_23.2) 28 rfl sh_12 g_35 rfl <| s_callSN 29 [.int x2, .int (h 12 (Int32.toNatClampNeg s_23.2))] [.int s_23.1] rfl ml_X0_50 yw_X8_hasBit (okX8_hasBit d _ _ _ _ e_37) rfl rfl (Nat.le_of_ble_eq_true rfl) <| ?_
        rcases iteS e with ⟨g_38, e⟩ | ⟨g_38, e⟩
        · cases e
          exact s_if_ne_T 30 61 rfl (by decide) (b2i_T g_38) <| s_iconst 0 33 rfl (by decide) <| s_fgt [false, false, false, true, false, true] rfl <| k_33
        · cases e
          exact s_if_ne_F 30 61 rfl (by decide) (b2i_F g_38) <| s_iconst 1 31 rfl (by decide) <| s_goto 32 62 rfl (by decide) <| s_fgt [false, false, false, true, false, true] rfl <| k_33
      · cases e
        exact s_if_eq_T 23 61 rfl (by decide) (b2i_F g_34) <| s_iconst 0 33 rfl (by decide) <| s_fgt [false, false, false, true, false, true] rfl <| k_33
    clear e
    have e := e1
    clear e1
    refine s_icmp_ge_F 7 73 rfl (by decide) g_26 <| s_iload_n 8 rfl rfl <| s_iconst (-1) 9 rfl (by decide) <| ?_
    rcases iteS e with ⟨g_29, e⟩ | ⟨g_29, e⟩
    · cases e
      exact s_icmp_eq_T 10 30 rfl (by decide) g_29 <| s_iconst 1 17 rfl (by decide) <| s_goto 18 35 rfl (by decide) <| k_28
    · obtain ⟨g_30, e⟩ := grdS e
      refine s_icmp_eq_F 10 30 rfl (by decide) g_29 <| s_aload_n 11 rfl rfl <| s_getr 12 rfl fl_X0_18 sh_10 rfl <| s_iload 13 rfl rfl <| s_iald (Int32.toNatClampNeg s_23.2) 14 rfl sh_13 g_30 rfl <| s_iload_n 15 rfl rfl <| ?_
      rcases iteS e with ⟨g_31, e⟩ | ⟨g_31, e⟩
      · cases e
        exact s_icmp_ne_T 16 34 rfl (by decide) g_31 <| s_iconst 0 19 rfl (by decide) <| k_28
      · cases e
        exact s_icmp_ne_F 16 34 rfl (by decide) (Decidable.not_not.mp g_31) <| s_iconst 1 17 rfl (by decide) <| s_goto 18 35 rfl (by decide) <| k_28
def fX8_counts (x1 : Int32) (x2 : Int32) (h : Sto) : Option (Int32 × Sto) :=
  (fX8_isWithin x1 (-1) 9 h).bind fun q_1 => if q_1 = true then ((fX1_hasAll x2 h).bind fun q_4 => if q_4 = true then ((fX0_countTelling x1 x2 h).bind fun q_7 => some (q_7, h)) else ((fX8_tellFinding (-1000001) h).bind fun q_9 => some (q_9.1, q_9.2))) else ((fX8_tellFinding (-1000001) h).bind fun q_11 => some (q_11.1, q_11.2))
set_option maxRecDepth 100000 in
set_option maxHeartbeats 4000000 in
theorem okX8_counts (d : Nat) (x1 : Int32) (x2 : Int32) (h : Sto) (qv : Int32) (qh : Sto) (e : fX8_counts x1 x2 h = some (qv, qh)) : Ok yX8_counts cX8_counts 3 (some .int) (d + 2) [.ref 0, .int x1, .int x2] h (some (.int qv)) qh := by
  refine Ok_of (lst := kX8_counts) (own := RX8) ⟨by decide, rfl⟩ ckX8_counts trivial (Nat.le_of_ble_eq_true rfl) ?_
  unfold fX8_counts at e
  change Ev kX8_counts RX8 3 (d + 2) nox 0 [some (.ref 0), some (.int x1), some (.int x2)] [] h (some (.int qv)) qh
  obtain ⟨q_1, e_2, e⟩ := bndS e
  refine s_iload_n 0 rfl rfl <| s_iconst (-1) 1 rfl (by decide) <| s_bipush 9 2 rfl (by decide) <| s_callS 3 [.int x1, .int (-1), .int 9] [] rfl ml_X8_65 yw_X8_isWithin (okX8_isWithin (d + 1) _ _ _ _ _ e_2) rfl rfl (Nat.le_of_ble_eq_true rfl) <| ?_
  rcases iteS e with ⟨g_3, e⟩ | ⟨g_3, e⟩
  · obtain ⟨q_4, e_5, e⟩ := bndS e
    refine s_if_eq_F 4 24 rfl (by decide) (b2i_T g_3) <| s_aload_n 5 rfl rfl <| s_getr 6 rfl fl_X8_12 sh_0 rfl <| s_getr 7 rfl fl_X8_74 sh_1 rfl <| s_iload_n 8 rfl rfl <| s_callV (b := 2) (ci := 1) 9 [.int x2] [] rfl ml_X8_250 yw_X1_hasAll sh_2 rfl rfl (okX1_hasAll d _ _ _ e_5) rfl rfl (Nat.le_of_ble_eq_true rfl) <| ?_
    rcases iteS e with ⟨g_6, e⟩ | ⟨g_6, e⟩
    · obtain ⟨q_7, e_8, e⟩ := bndS e
      obtain ⟨rfl, rfl⟩ := some2 e
      exact s_if_ne_T 10 31 rfl (by decide) (b2i_T g_6) <| s_aload_n 15 rfl rfl <| s_getr 16 rfl fl_X8_12 sh_0 rfl <| s_getr 17 rfl fl_X8_134 sh_1 rfl <| s_iload_n 18 rfl rfl <| s_iload_n 19 rfl rfl <| s_callV (b := 10) (ci := 0) 20 [.int x1, .int x2] [] rfl ml_X8_253 yw_X0_countTelling sh_10 rfl rfl (okX0_countTelling d _ _ _ _ e_8) rfl rfl (Nat.le_of_ble_eq_true rfl) <| s_iret 21 rfl
    · obtain ⟨q_9, e_10, e⟩ := bndS e
      obtain ⟨rfl, rfl⟩ := some2 e
      exact s_if_ne_F 10 31 rfl (by decide) (b2i_F g_6) <| s_aload_n 11 rfl rfl <| s_ldc 12 rfl wc_X8_69 <| s_callV (b := 0) (ci := 8) 13 [.int (-1000001)] [] rfl ml_X8_70 yw_X8_tellFinding sh_0 rfl rfl (okX8_tellFinding d _ _ q_9.1 q_9.2 e_10) rfl rfl (Nat.le_of_ble_eq_true rfl) <| s_iret 14 rfl
  · obtain ⟨q_11, e_12, e⟩ := bndS e
    obtain ⟨rfl, rfl⟩ := some2 e
    exact s_if_eq_T 4 24 rfl (by decide) (b2i_F g_3) <| s_aload_n 11 rfl rfl <| s_ldc 12 rfl wc_X8_69 <| s_callV (b := 0) (ci := 8) 13 [.int (-1000001)] [] rfl ml_X8_70 yw_X8_tellFinding sh_0 rfl rfl (okX8_tellFinding d _ _ q_11.1 q_11.2 e_12) rfl rfl (Nat.le_of_ble_eq_true rfl) <| s_iret 14 rfl
def fX9_isSet (x1 : Int32) (h : Sto) : Option Bool :=
  (fX9_every h).bind fun q_1 => (fX9_in x1.toInt64 0 q_1.toInt64 h).bind fun q_3 => some q_3
set_option maxRecDepth 100000 in
set_option maxHeartbeats 4000000 in
theorem okX9_isSet (d : Nat) (x1 : Int32) (h : Sto) (q : Bool) (e : fX9_isSet x1 h = some q) : Ok yX9_isSet cX9_isSet 2 (some .boolean) (d + 1) [.ref 83, .int x1] h (some (.int (b2i q))) h := by
  refine Ok_of (lst := kX9_isSet) (own := RX9) ⟨by decide, rfl⟩ ckX9_isSet (b2i_01 _) (Nat.le_of_ble_eq_true rfl) ?_
  unfold fX9_isSet at e
  change Ev kX9_isSet RX9 2 (d + 1) nox 0 [some (.ref 83), some (.int x1)] [] h (some (.int (b2i q))) h
  obtain ⟨q_1, e_2, e⟩ := bndS e
  obtain ⟨q_3, e_4, e⟩ := bndS e
  obtain rfl := Option.some.inj e
  exact s_iload_n 0 rfl rfl <| s_i2l 1 rfl <| s_lconst 0 2 rfl (by decide) <| s_aload_n 3 rfl rfl <| s_callV (b := 83) (ci := 9) 4 [] [.long 0, .long x1.toInt64] rfl ml_X9_52 yw_X9_every sh_83 rfl rfl (okX9_every d _ _ e_2) rfl rfl (Nat.le_of_ble_eq_true rfl) <| s_i2l 5 rfl <| s_callS 6 [.long x1.toInt64, .long 0, .long q_1.toInt64] [] rfl ml_X9_48 yw_X9_in (okX9_in d _ _ _ _ _ e_4) rfl rfl (Nat.le_of_ble_eq_true rfl) <| s_iret 7 rfl
def fX9_countOf_b5 (x1 : Int32) (x2 : Int32) (h : Sto) (c3 : Int32) (c4 : Int32) : Option ((Int32 × Int32) ⊕ Int32) :=
  if (h 84 2) ≤ c4 then (some (.inr c3)) else ((fX9_word c4 1 h).bind fun q_2 => (fX9_has x2 q_2 h).bind fun q_4 => if q_4 = true then (some (.inl ((c3 + 0), (c4 + 1)))) else (if x1 < 0 then (some (.inl ((c3 + 1), (c4 + 1)))) else ((fX9_word c4 2 h).bind fun q_8 => if ¬ q_8 = x1 then (some (.inl ((c3 + 0), (c4 + 1)))) else (some (.inl ((c3 + 1), (c4 + 1)))))))
def fX9_countOf (x1 : Int32) (x2 : Int32) (h : Sto) : Option Int32 :=
  (lp (fun s => fX9_countOf_b5 x1 x2 h s.1 s.2) FUEL (0, 0)).bind fun v_19 => some v_19
set_option maxRecDepth 100000 in
set_option maxHeartbeats 4000000 in
theorem okX9_countOf (d : Nat) (x1 : Int32) (x2 : Int32) (h : Sto) (q : Int32) (e : fX9_countOf x1 x2 h = some q) : Ok yX9_countOf cX9_countOf 5 (some .int) (d + 1) [.ref 83, .int x1, .int x2] h (some (.int q)) h := by
  refine Ok_of (lst := kX9_countOf) (own := RX9) ⟨by decide, rfl⟩ ckX9_countOf trivial (Nat.le_of_ble_eq_true rfl) ?_
  unfold fX9_countOf at e
  change Ev kX9_countOf RX9 5 (d + 1) nox 0 [some (.ref 83), some (.int x1), some (.int x2), none, none] [] h (some (.int q)) h
  obtain ⟨y_11, e_12, e⟩ := bndS e
  have kx_15 : ∀ v_19 : Int32, v_19 = y_11 → Ev kX9_countOf RX9 5 (d + 1) nox 59 [none, none, none, some (.int v_19), none] [] h (some (.int q)) h := by
    intro v_19 hy
    subst hy
    obtain rfl := Option.some.inj e
    exact s_iload_n 33 rfl rfl <| s_iret 34 rfl
  refine s_iconst 0 0 rfl (by decide) <| s_istore_n [some (.ref 83), some (.int x1), some (.int x2), some (.int 0), none] 1 rfl (by decide) rfl <| s_iconst 0 2 rfl (by decide) <| s_istore [some (.ref 83), some (.int x1), some (.int x2), some (.int 0), some (.int 0)] 3 rfl (by decide) rfl <| lpS (P := fun (s_18 : (Int32 × Int32)) => Ev kX9_countOf RX9 5 (d + 1) nox 5 [some (.ref 83), some (.int x1), some (.int x2), some (.int s_18.1), some (.int s_18.2)] [] h (some (.int q)) h) ?_ FUEL _ e_12
  intro s_18 o_17 e hk_13 hx_14
  unfold fX9_countOf_b5 at e
  refine s_iload 4 rfl rfl <| s_aload_n 5 rfl rfl <| s_getr 6 rfl fl_X9_9 sh_83 rfl <| s_iconst 2 7 rfl (by decide) <| s_iald 2 8 rfl sh_84 (by decide) (by decide) <| ?_
  rcases iteS e with ⟨g_21, e⟩ | ⟨g_21, e⟩
  · cases e
    exact s_icmp_ge_T 9 59 rfl (by decide) g_21 <| s_fgt [true, true, true, false, true] rfl <| (kx_15 s_18.1 (hx_14 _ rfl))
  · obtain ⟨q_22, e_23, e⟩ := bndS e
    obtain ⟨q_24, e_25, e⟩ := bndS e
    refine s_icmp_ge_F 9 59 rfl (by decide) g_21 <| s_iload_n 10 rfl rfl <| s_iload_n 11 rfl rfl <| s_aload_n 12 rfl rfl <| s_iload 13 rfl rfl <| s_iconst 1 14 rfl (by decide) <| s_callV (b := 83) (ci := 9) 15 [.int s_18.2, .int 1] [.int x2, .int s_18.1] rfl ml_X9_101 yw_X9_word sh_83 rfl rfl (okX9_word d _ _ _ _ e_23) rfl rfl (Nat.le_of_ble_eq_true rfl) <| s_callS 16 [.int x2, .int q_22] [.int s_18.1] rfl ml_X9_97 yw_X9_has (okX9_has d _ _ _ _ e_25) rfl rfl (Nat.le_of_ble_eq_true rfl) <| ?_
    rcases iteS e with ⟨g_26, e⟩ | ⟨g_26, e⟩
    · cases e
      exact s_if_ne_T 17 50 rfl (by decide) (b2i_T g_26) <| s_iconst 0 28 rfl (by decide) <| s_iadd 29 rfl <| s_istore_n [some (.ref 83), some (.int x1), some (.int x2), some (.int (s_18.1 + 0)), some (.int s_18.2)] 30 rfl (by decide) rfl <| s_iinc 1 [some (.ref 83), some (.int x1), some (.int x2), some (.int (s_18.1 + 0)), some (.int (s_18.2 + 1))] 31 rfl (by decide) rfl (by decide) rfl <| s_goto 32 5 rfl (by decide) <| (hk_13 ((s_18.1 + 0), (s_18.2 + 1)) rfl)
    · refine s_if_ne_F 17 50 rfl (by decide) (b2i_F g_26) <| s_iload_n 18 rfl rfl <| ?_
      rcases iteS e with ⟨g_27, e⟩ | ⟨g_27, e⟩
      · cases e
        exact s_if_lt_T 19 46 rfl (by decide) g_27 <| s_iconst 1 26 rfl (by decide) <| s_goto 27 51 rfl (by decide) <| s_iadd 29 rfl <| s_istore_n [some (.ref 83), some (.int x1), some (.int x2), some (.int (s_18.1 + 1)), some (.int s_18.2)] 30 rfl (by decide) rfl <| s_iinc 1 [some (.ref 83), some (.int x1), some (.int x2), some (.int (s_18.1 + 1)), some (.int (s_18.2 + 1))] 31 rfl (by decide) rfl (by decide) rfl <| s_goto 32 5 rfl (by decide) <| (hk_13 ((s_18.1 + 1), (s_18.2 + 1)) rfl)
      · obtain ⟨q_28, e_29, e⟩ := bndS e
        refine s_if_lt_F 19 46 rfl (by decide) g_27 <| s_aload_n 20 rfl rfl <| s_iload 21 rfl rfl <| s_iconst 2 22 rfl (by decide) <| s_callV (b := 83) (ci := 9) 23 [.int s_18.2, .int 2] [.int s_18.1] rfl ml_X9_101 yw_X9_word sh_83 rfl rfl (okX9_word d _ _ _ _ e_29) rfl rfl (Nat.le_of_ble_eq_true rfl) <| s_iload_n 24 rfl rfl <| ?_
        rcases iteS e with ⟨g_30, e⟩ | ⟨g_30, e⟩
        · cases e
          exact s_icmp_ne_T 25 50 rfl (by decide) g_30 <| s_iconst 0 28 rfl (by decide) <| s_iadd 29 rfl <| s_istore_n [some (.ref 83), some (.int x1), some (.int x2), some (.int (s_18.1 + 0)), some (.int s_18.2)] 30 rfl (by decide) rfl <| s_iinc 1 [some (.ref 83), some (.int x1), some (.int x2), some (.int (s_18.1 + 0)), some (.int (s_18.2 + 1))] 31 rfl (by decide) rfl (by decide) rfl <| s_goto 32 5 rfl (by decide) <| (hk_13 ((s_18.1 + 0), (s_18.2 + 1)) rfl)
        · cases e
          exact s_icmp_ne_F 25 50 rfl (by decide) (Decidable.not_not.mp g_30) <| s_iconst 1 26 rfl (by decide) <| s_goto 27 51 rfl (by decide) <| s_iadd 29 rfl <| s_istore_n [some (.ref 83), some (.int x1), some (.int x2), some (.int (s_18.1 + 1)), some (.int s_18.2)] 30 rfl (by decide) rfl <| s_iinc 1 [some (.ref 83), some (.int x1), some (.int x2), some (.int (s_18.1 + 1)), some (.int (s_18.2 + 1))] 31 rfl (by decide) rfl (by decide) rfl <| s_goto 32 5 rfl (by decide) <| (hk_13 ((s_18.1 + 1), (s_18.2 + 1)) rfl)
def fX9_counts (x1 : Int32) (x2 : Int32) (h : Sto) : Option (Int32 × Sto) :=
  (fX9_in x1.toInt64 (-1) 9 h).bind fun q_1 => if q_1 = true then ((fX9_isSet x2 h).bind fun q_4 => if q_4 = true then ((fX9_countOf x1 x2 h).bind fun q_7 => some (q_7, h)) else ((fX9_finds (-1000001) h).bind fun q_9 => some (q_9.1, q_9.2))) else ((fX9_finds (-1000001) h).bind fun q_11 => some (q_11.1, q_11.2))
set_option maxRecDepth 100000 in
set_option maxHeartbeats 4000000 in
theorem okX9_counts (d : Nat) (x1 : Int32) (x2 : Int32) (h : Sto) (qv : Int32) (qh : Sto) (e : fX9_counts x1 x2 h = some (qv, qh)) : Ok yX9_counts cX9_counts 3 (some .int) (d + 2) [.ref 83, .int x1, .int x2] h (some (.int qv)) qh := by
  refine Ok_of (lst := kX9_counts) (own := RX9) ⟨by decide, rfl⟩ ckX9_counts trivial (Nat.le_of_ble_eq_true rfl) ?_
  unfold fX9_counts at e
  change Ev kX9_counts RX9 3 (d + 2) nox 0 [some (.ref 83), some (.int x1), some (.int x2)] [] h (some (.int qv)) qh
  obtain ⟨q_1, e_2, e⟩ := bndS e
  refine s_iload_n 0 rfl rfl <| s_i2l 1 rfl <| s_ldc2_w 2 rfl wc_X9_263 <| s_ldc2_w 3 rfl wc_X9_58 <| s_callS 4 [.long x1.toInt64, .long (-1), .long 9] [] rfl ml_X9_48 yw_X9_in (okX9_in (d + 1) _ _ _ _ _ e_2) rfl rfl (Nat.le_of_ble_eq_true rfl) <| ?_
  rcases iteS e with ⟨g_3, e⟩ | ⟨g_3, e⟩
  · obtain ⟨q_4, e_5, e⟩ := bndS e
    refine s_if_eq_F 5 31 rfl (by decide) (b2i_T g_3) <| s_aload_n 6 rfl rfl <| s_iload_n 7 rfl rfl <| s_callV (b := 83) (ci := 9) 8 [.int x2] [] rfl ml_X9_265 yw_X9_isSet sh_83 rfl rfl (okX9_isSet d _ _ _ e_5) rfl rfl (Nat.le_of_ble_eq_true rfl) <| ?_
    rcases iteS e with ⟨g_6, e⟩ | ⟨g_6, e⟩
    · obtain ⟨q_7, e_8, e⟩ := bndS e
      obtain ⟨rfl, rfl⟩ := some2 e
      exact s_if_eq_F 9 31 rfl (by decide) (b2i_T g_6) <| s_aload_n 10 rfl rfl <| s_iload_n 11 rfl rfl <| s_iload_n 12 rfl rfl <| s_callV (b := 83) (ci := 9) 13 [.int x1, .int x2] [] rfl ml_X9_268 yw_X9_countOf sh_83 rfl rfl (okX9_countOf d _ _ _ _ e_8) rfl rfl (Nat.le_of_ble_eq_true rfl) <| s_goto 14 37 rfl (by decide) <| s_iret 18 rfl
    · obtain ⟨q_9, e_10, e⟩ := bndS e
      obtain ⟨rfl, rfl⟩ := some2 e
      exact s_if_eq_T 9 31 rfl (by decide) (b2i_F g_6) <| s_aload_n 15 rfl rfl <| s_ldc 16 rfl wc_X9_47 <| s_callV (b := 83) (ci := 9) 17 [.int (-1000001)] [] rfl ml_X9_64 yw_X9_finds sh_83 rfl rfl (okX9_finds (d + 1) _ _ q_9.1 q_9.2 e_10) rfl rfl (Nat.le_of_ble_eq_true rfl) <| s_iret 18 rfl
  · obtain ⟨q_11, e_12, e⟩ := bndS e
    obtain ⟨rfl, rfl⟩ := some2 e
    exact s_if_eq_T 5 31 rfl (by decide) (b2i_F g_3) <| s_aload_n 15 rfl rfl <| s_ldc 16 rfl wc_X9_47 <| s_callV (b := 83) (ci := 9) 17 [.int (-1000001)] [] rfl ml_X9_64 yw_X9_finds sh_83 rfl rfl (okX9_finds (d + 1) _ _ q_11.1 q_11.2 e_12) rfl rfl (Nat.le_of_ble_eq_true rfl) <| s_iret 18 rfl
def fX8_most_b28 (x1 : Int32) (h : Sto) (c2 : Int32) (c3 : Int32) (c4 : Int32) : Option ((Int32 × Int32 × Int32) ⊕ Int32) :=
  if 9 < c4 then (some (.inr c2)) else ((fX0_countTelling c4 x1 h).bind fun q_5 => if q_5 ≤ c3 then (some (.inl (c2, c3, (c4 + 1)))) else (some (.inl (c4, q_5, (c4 + 1)))))
def fX8_most (x1 : Int32) (h : Sto) : Option (Int32 × Sto) :=
  (fX1_hasAll x1 h).bind fun q_1 => if q_1 = true then ((lp (fun s => fX8_most_b28 x1 h s.1 s.2.1 s.2.2) FUEL ((-1), 0, 0)).bind fun v_16 => if 0 ≤ v_16 then (some (v_16, h)) else ((fX8_tellFinding (-1000004) h).bind fun q_19 => some (q_19.1, q_19.2))) else ((fX8_tellFinding (-1000001) h).bind fun q_25 => some (q_25.1, q_25.2))
set_option maxRecDepth 100000 in
set_option maxHeartbeats 4000000 in
theorem okX8_most (d : Nat) (x1 : Int32) (h : Sto) (qv : Int32) (qh : Sto) (e : fX8_most x1 h = some (qv, qh)) : Ok yX8_most cX8_most 6 (some .int) (d + 2) [.ref 0, .int x1] h (some (.int qv)) qh := by
  refine Ok_of (lst := kX8_most) (own := RX8) ⟨by decide, rfl⟩ ckX8_most trivial (Nat.le_of_ble_eq_true rfl) ?_
  unfold fX8_most at e
  change Ev kX8_most RX8 6 (d + 2) nox 0 [some (.ref 0), some (.int x1), none, none, none, none] [] h (some (.int qv)) qh
  obtain ⟨q_1, e_2, e⟩ := bndS e
  refine s_aload_n 0 rfl rfl <| s_getr 1 rfl fl_X8_12 sh_0 rfl <| s_getr 2 rfl fl_X8_74 sh_1 rfl <| s_iload_n 3 rfl rfl <| s_callV (b := 2) (ci := 1) 4 [.int x1] [] rfl ml_X8_250 yw_X1_hasAll sh_2 rfl rfl (okX1_hasAll d _ _ _ e_2) rfl rfl (Nat.le_of_ble_eq_true rfl) <| ?_
  rcases iteS e with ⟨g_3, e⟩ | ⟨g_3, e⟩
  · obtain ⟨y_8, e_9, e⟩ := bndS e
    have kx_12 : ∀ v_16 : Int32, v_16 = y_8 → Ev kX8_most RX8 6 (d + 2) nox 68 [some (.ref 0), none, some (.int v_16), none, none, none] [] h (some (.int qv)) qh := by
      intro v_16 hy
      subst hy
      refine s_iload_n 35 rfl rfl <| ?_
      rcases iteS e with ⟨g_18, e⟩ | ⟨g_18, e⟩
      · obtain ⟨rfl, rfl⟩ := some2 e
        exact s_if_ge_T 36 81 rfl (by decide) g_18 <| s_iload_n 41 rfl rfl <| s_iret 42 rfl
      · obtain ⟨q_19, e_20, e⟩ := bndS e
        obtain ⟨rfl, rfl⟩ := some2 e
        exact s_if_ge_F 36 81 rfl (by decide) g_18 <| s_aload_n 37 rfl rfl <| s_ldc 38 rfl wc_X8_133 <| s_callV (b := 0) (ci := 8) 39 [.int (-1000004)] [] rfl ml_X8_70 yw_X8_tellFinding sh_0 rfl rfl (okX8_tellFinding d _ _ q_19.1 q_19.2 e_20) rfl rfl (Nat.le_of_ble_eq_true rfl) <| s_goto 40 82 rfl (by decide) <| s_iret 42 rfl
    refine s_if_ne_T 5 21 rfl (by decide) (b2i_T g_3) <| s_iconst (-1) 10 rfl (by decide) <| s_istore_n [some (.ref 0), some (.int x1), some (.int (-1)), none, none, none] 11 rfl (by decide) rfl <| s_iconst 0 12 rfl (by decide) <| s_istore_n [some (.ref 0), some (.int x1), some (.int (-1)), some (.int 0), none, none] 13 rfl (by decide) rfl <| s_iconst 0 14 rfl (by decide) <| s_istore [some (.ref 0), some (.int x1), some (.int (-1)), some (.int 0), some (.int 0), none] 15 rfl (by decide) rfl <| lpS (P := fun (s_15 : (Int32 × Int32 × Int32)) => Ev kX8_most RX8 6 (d + 2) nox 28 [some (.ref 0), some (.int x1), some (.int s_15.1), some (.int s_15.2.1), some (.int s_15.2.2), none] [] h (some (.int qv)) qh) ?_ FUEL _ e_9
    intro s_15 o_14 e hk_10 hx_11
    unfold fX8_most_b28 at e
    refine s_iload 16 rfl rfl <| s_bipush 9 17 rfl (by decide) <| ?_
    rcases iteS e with ⟨g_21, e⟩ | ⟨g_21, e⟩
    · cases e
      exact s_icmp_gt_T 18 68 rfl (by decide) g_21 <| s_fgt [false, true, false, true, true] rfl <| (kx_12 s_15.1 (hx_11 _ rfl))
    · obtain ⟨q_22, e_23, e⟩ := bndS e
      refine s_icmp_gt_F 18 68 rfl (by decide) g_21 <| s_aload_n 19 rfl rfl <| s_getr 20 rfl fl_X8_12 sh_0 rfl <| s_getr 21 rfl fl_X8_134 sh_1 rfl <| s_iload 22 rfl rfl <| s_iload_n 23 rfl rfl <| s_callV (b := 10) (ci := 0) 24 [.int s_15.2.2, .int x1] [] rfl ml_X8_253 yw_X0_countTelling sh_10 rfl rfl (okX0_countTelling d _ _ _ _ e_23) rfl rfl (Nat.le_of_ble_eq_true rfl) <| s_istore [some (.ref 0), some (.int x1), some (.int s_15.1), some (.int s_15.2.1), some (.int s_15.2.2), some (.int q_22)] 25 rfl (by decide) rfl <| s_iload 26 rfl rfl <| s_iload_n 27 rfl rfl <| ?_
      rcases iteS e with ⟨g_24, e⟩ | ⟨g_24, e⟩
      · cases e
        exact s_icmp_le_T 28 62 rfl (by decide) g_24 <| s_iinc 1 [some (.ref 0), some (.int x1), some (.int s_15.1), some (.int s_15.2.1), some (.int (s_15.2.2 + 1)), some (.int q_22)] 33 rfl (by decide) rfl (by decide) rfl <| s_goto 34 28 rfl (by decide) <| s_fgt [false, false, false, false, false, true] rfl <| (hk_10 (s_15.1, s_15.2.1, (s_15.2.2 + 1)) rfl)
      · cases e
        exact s_icmp_le_F 28 62 rfl (by decide) g_24 <| s_iload 29 rfl rfl <| s_istore_n [some (.ref 0), some (.int x1), some (.int s_15.2.2), some (.int s_15.2.1), some (.int s_15.2.2), some (.int q_22)] 30 rfl (by decide) rfl <| s_iload 31 rfl rfl <| s_istore_n [some (.ref 0), some (.int x1), some (.int s_15.2.2), some (.int q_22), some (.int s_15.2.2), some (.int q_22)] 32 rfl (by decide) rfl <| s_iinc 1 [some (.ref 0), some (.int x1), some (.int s_15.2.2), some (.int q_22), some (.int (s_15.2.2 + 1)), some (.int q_22)] 33 rfl (by decide) rfl (by decide) rfl <| s_goto 34 28 rfl (by decide) <| s_fgt [false, false, false, false, false, true] rfl <| (hk_10 (s_15.2.2, q_22, (s_15.2.2 + 1)) rfl)
  · obtain ⟨q_25, e_26, e⟩ := bndS e
    obtain ⟨rfl, rfl⟩ := some2 e
    exact s_if_ne_F 5 21 rfl (by decide) (b2i_F g_3) <| s_aload_n 6 rfl rfl <| s_ldc 7 rfl wc_X8_69 <| s_callV (b := 0) (ci := 8) 8 [.int (-1000001)] [] rfl ml_X8_70 yw_X8_tellFinding sh_0 rfl rfl (okX8_tellFinding d _ _ q_25.1 q_25.2 e_26) rfl rfl (Nat.le_of_ble_eq_true rfl) <| s_iret 9 rfl
def fX9_most_b35 (x1 : Int32) (h : Sto) (c2 : Int32) (c3 : Int32) : Option ((Int32 × Int32) ⊕ Int32) :=
  if 10 ≤ c3 then (some (.inr c2)) else ((fX9_countOf c3 x1 h).bind fun q_8 => (fX9_countOf c2 x1 h).bind fun q_10 => if q_8 ≤ q_10 then (some (.inl (c2, (c3 + 1)))) else (some (.inl (c3, (c3 + 1)))))
def fX9_most (x1 : Int32) (h : Sto) : Option (Int32 × Sto) :=
  (fX9_isSet x1 h).bind fun q_1 => if q_1 = true then ((fX9_countOf (-1) x1 h).bind fun q_4 => if ¬ q_4 = 0 then ((lp (fun s => fX9_most_b35 x1 h s.1 s.2) FUEL (0, 1)).bind fun v_21 => some (v_21, h)) else ((fX9_finds (-1000004) h).bind fun q_29 => some (q_29.1, q_29.2))) else ((fX9_finds (-1000001) h).bind fun q_31 => some (q_31.1, q_31.2))
set_option maxRecDepth 100000 in
set_option maxHeartbeats 4000000 in
theorem okX9_most (d : Nat) (x1 : Int32) (h : Sto) (qv : Int32) (qh : Sto) (e : fX9_most x1 h = some (qv, qh)) : Ok yX9_most cX9_most 4 (some .int) (d + 2) [.ref 83, .int x1] h (some (.int qv)) qh := by
  refine Ok_of (lst := kX9_most) (own := RX9) ⟨by decide, rfl⟩ ckX9_most trivial (Nat.le_of_ble_eq_true rfl) ?_
  unfold fX9_most at e
  change Ev kX9_most RX9 4 (d + 2) nox 0 [some (.ref 83), some (.int x1), none, none] [] h (some (.int qv)) qh
  obtain ⟨q_1, e_2, e⟩ := bndS e
  refine s_aload_n 0 rfl rfl <| s_iload_n 1 rfl rfl <| s_callV (b := 83) (ci := 9) 2 [.int x1] [] rfl ml_X9_265 yw_X9_isSet sh_83 rfl rfl (okX9_isSet d _ _ _ e_2) rfl rfl (Nat.le_of_ble_eq_true rfl) <| ?_
  rcases iteS e with ⟨g_3, e⟩ | ⟨g_3, e⟩
  · obtain ⟨q_4, e_5, e⟩ := bndS e
    refine s_if_ne_T 3 15 rfl (by decide) (b2i_T g_3) <| s_aload_n 8 rfl rfl <| s_iconst (-1) 9 rfl (by decide) <| s_iload_n 10 rfl rfl <| s_callV (b := 83) (ci := 9) 11 [.int (-1), .int x1] [] rfl ml_X9_268 yw_X9_countOf sh_83 rfl rfl (okX9_countOf d _ _ _ _ e_5) rfl rfl (Nat.le_of_ble_eq_true rfl) <| ?_
    rcases iteS e with ⟨g_6, e⟩ | ⟨g_6, e⟩
    · obtain ⟨y_13, e_14, e⟩ := bndS e
      have kx_17 : ∀ v_21 : Int32, v_21 = y_13 → Ev kX9_most RX9 4 (d + 2) nox 68 [none, none, some (.int v_21), none] [] h (some (.int qv)) qh := by
        intro v_21 hy
        subst hy
        obtain ⟨rfl, rfl⟩ := some2 e
        exact s_iload_n 39 rfl rfl <| s_iret 40 rfl
      refine s_if_ne_T 12 31 rfl (by decide) g_6 <| s_iconst 0 17 rfl (by decide) <| s_istore_n [some (.ref 83), some (.int x1), some (.int 0), none] 18 rfl (by decide) rfl <| s_iconst 1 19 rfl (by decide) <| s_istore_n [some (.ref 83), some (.int x1), some (.int 0), some (.int 1)] 20 rfl (by decide) rfl <| lpS (P := fun (s_20 : (Int32 × Int32)) => Ev kX9_most RX9 4 (d + 2) nox 35 [some (.ref 83), some (.int x1), some (.int s_20.1), some (.int s_20.2)] [] h (some (.int qv)) qh) ?_ FUEL _ e_14
      intro s_20 o_19 e hk_15 hx_16
      unfold fX9_most_b35 at e
      refine s_iload_n 21 rfl rfl <| s_bipush 10 22 rfl (by decide) <| ?_
      rcases iteS e with ⟨g_23, e⟩ | ⟨g_23, e⟩
      · cases e
        exact s_icmp_ge_T 23 68 rfl (by decide) g_23 <| s_fgt [true, true, false, true] rfl <| (kx_17 s_20.1 (hx_16 _ rfl))
      · obtain ⟨q_24, e_25, e⟩ := bndS e
        obtain ⟨q_26, e_27, e⟩ := bndS e
        refine s_icmp_ge_F 23 68 rfl (by decide) g_23 <| s_aload_n 24 rfl rfl <| s_iload_n 25 rfl rfl <| s_iload_n 26 rfl rfl <| s_callV (b := 83) (ci := 9) 27 [.int s_20.2, .int x1] [] rfl ml_X9_268 yw_X9_countOf sh_83 rfl rfl (okX9_countOf d _ _ _ _ e_25) rfl rfl (Nat.le_of_ble_eq_true rfl) <| s_aload_n 28 rfl rfl <| s_iload_n 29 rfl rfl <| s_iload_n 30 rfl rfl <| s_callV (b := 83) (ci := 9) 31 [.int s_20.1, .int x1] [.int q_24] rfl ml_X9_268 yw_X9_countOf sh_83 rfl rfl (okX9_countOf d _ _ _ _ e_27) rfl rfl (Nat.le_of_ble_eq_true rfl) <| ?_
        rcases iteS e with ⟨g_28, e⟩ | ⟨g_28, e⟩
        · cases e
          exact s_icmp_le_T 32 60 rfl (by decide) g_28 <| s_iload_n 35 rfl rfl <| s_istore_n [some (.ref 83), some (.int x1), some (.int s_20.1), some (.int s_20.2)] 36 rfl (by decide) rfl <| s_iinc 1 [some (.ref 83), some (.int x1), some (.int s_20.1), some (.int (s_20.2 + 1))] 37 rfl (by decide) rfl (by decide) rfl <| s_goto 38 35 rfl (by decide) <| (hk_15 (s_20.1, (s_20.2 + 1)) rfl)
        · cases e
          exact s_icmp_le_F 32 60 rfl (by decide) g_28 <| s_iload_n 33 rfl rfl <| s_goto 34 61 rfl (by decide) <| s_istore_n [some (.ref 83), some (.int x1), some (.int s_20.2), some (.int s_20.2)] 36 rfl (by decide) rfl <| s_iinc 1 [some (.ref 83), some (.int x1), some (.int s_20.2), some (.int (s_20.2 + 1))] 37 rfl (by decide) rfl (by decide) rfl <| s_goto 38 35 rfl (by decide) <| (hk_15 (s_20.2, (s_20.2 + 1)) rfl)
    · obtain ⟨q_29, e_30, e⟩ := bndS e
      obtain ⟨rfl, rfl⟩ := some2 e
      exact s_if_ne_F 12 31 rfl (by decide) (Decidable.not_not.mp g_6) <| s_aload_n 13 rfl rfl <| s_ldc 14 rfl wc_X9_122 <| s_callV (b := 83) (ci := 9) 15 [.int (-1000004)] [] rfl ml_X9_64 yw_X9_finds sh_83 rfl rfl (okX9_finds (d + 1) _ _ q_29.1 q_29.2 e_30) rfl rfl (Nat.le_of_ble_eq_true rfl) <| s_iret 16 rfl
  · obtain ⟨q_31, e_32, e⟩ := bndS e
    obtain ⟨rfl, rfl⟩ := some2 e
    exact s_if_ne_F 3 15 rfl (by decide) (b2i_F g_3) <| s_aload_n 4 rfl rfl <| s_ldc 5 rfl wc_X9_47 <| s_callV (b := 83) (ci := 9) 6 [.int (-1000001)] [] rfl ml_X9_64 yw_X9_finds sh_83 rfl rfl (okX9_finds (d + 1) _ _ q_31.1 q_31.2 e_32) rfl rfl (Nat.le_of_ble_eq_true rfl) <| s_iret 7 rfl
def fX0_firstTelling_b2 (x1 : Int32) (h : Sto) (c2 : Int32) : Option (Int32 ⊕ (Unit ⊕ Int32)) :=
  if (h 10 1) ≤ c2 then (some (.inr (.inl ()))) else (grd (inb c2 200) <| if ¬ (h 13 (Int32.toNatClampNeg c2)) = x1 then (some (.inl (c2 + 1))) else (some (.inr (.inr c2))))
def fX0_firstTelling (x1 : Int32) (h : Sto) : Option Int32 :=
  (lp (fun s => fX0_firstTelling_b2 x1 h s) FUEL 0).bind fun y_4 => Sum.elim (fun v_12 => some (-1)) (fun z_13 => some z_13) y_4
set_option maxRecDepth 100000 in
set_option maxHeartbeats 4000000 in
theorem okX0_firstTelling (d : Nat) (x1 : Int32) (h : Sto) (q : Int32) (e : fX0_firstTelling x1 h = some q) : Ok yX0_firstTelling cX0_firstTelling 3 (some .int) d [.ref 10, .int x1] h (some (.int q)) h := by
  refine Ok_of (lst := kX0_firstTelling) (own := RX0) ⟨by decide, rfl⟩ ckX0_firstTelling trivial (Nat.le_of_ble_eq_true rfl) ?_
  unfold fX0_firstTelling at e
  change Ev kX0_firstTelling RX0 3 d nox 0 [some (.ref 10), some (.int x1), none] [] h (some (.int q)) h
  obtain ⟨y_4, e_5, e⟩ := bndS e
  have kx_8 : ∀ v_12 : Unit, .inl v_12 = y_4 → Ev kX0_firstTelling RX0 3 d nox 28 [none, none, none] [] h (some (.int q)) h := by
    intro v_12 hy
    subst hy
    have e := elL e
    obtain rfl := Option.some.inj e
    exact s_iconst (-1) 16 rfl (by decide) <| s_iret 17 rfl
  have kz_9 : ∀ z_13 : Int32, .inr z_13 = y_4 → z_13 = q := by
    intro z_13 hy
    subst hy
    have e := elR e
    exact Option.some.inj e
  refine s_iconst 0 0 rfl (by decide) <| s_istore_n [some (.ref 10), some (.int x1), some (.int 0)] 1 rfl (by decide) rfl <| lpS (P := fun (s_11 : Int32) => Ev kX0_firstTelling RX0 3 d nox 2 [some (.ref 10), some (.int x1), some (.int s_11)] [] h (some (.int q)) h) ?_ FUEL _ e_5
  intro s_11 o_10 e hk_6 hx_7
  unfold fX0_firstTelling_b2 at e
  refine s_iload_n 2 rfl rfl <| s_aload_n 3 rfl rfl <| s_geti 4 rfl fl_X0_28 sh_10 rfl <| ?_
  rcases iteS e with ⟨g_14, e⟩ | ⟨g_14, e⟩
  · cases e
    exact s_icmp_ge_T 5 28 rfl (by decide) g_14 <| s_fgt [true, true, true] rfl <| (kx_8 () (hx_7 _ rfl))
  · obtain ⟨g_15, e⟩ := grdS e
    refine s_icmp_ge_F 5 28 rfl (by decide) g_14 <| s_aload_n 6 rfl rfl <| s_getr 7 rfl fl_X0_18 sh_10 rfl <| s_iload_n 8 rfl rfl <| s_iald (Int32.toNatClampNeg s_11) 9 rfl sh_13 g_15 rfl <| s_iload_n 10 rfl rfl <| ?_
    rcases iteS e with ⟨g_16, e⟩ | ⟨g_16, e⟩
    · cases e
      exact s_icmp_ne_T 11 22 rfl (by decide) g_16 <| s_iinc 1 [some (.ref 10), some (.int x1), some (.int (s_11 + 1))] 14 rfl (by decide) rfl (by decide) rfl <| s_goto 15 2 rfl (by decide) <| (hk_6 (s_11 + 1) rfl)
    · cases e
      have z0 := kz_9 _ (hx_7 _ rfl)
      subst z0
      exact s_icmp_ne_F 11 22 rfl (by decide) (Decidable.not_not.mp g_16) <| s_iload_n 12 rfl rfl <| s_iret 13 rfl
def fX8_first (x1 : Int32) (h : Sto) : Option (Int32 × Sto) :=
  (fX8_isTopic x1 h).bind fun q_1 => if q_1 = true then ((fX0_firstTelling x1 h).bind fun q_4 => if 0 ≤ q_4 then (some (q_4, h)) else ((fX8_tellFinding (-1000004) h).bind fun q_7 => some (q_7.1, q_7.2))) else ((fX8_tellFinding (-1000001) h).bind fun q_9 => some (q_9.1, q_9.2))
set_option maxRecDepth 100000 in
set_option maxHeartbeats 4000000 in
theorem okX8_first (d : Nat) (x1 : Int32) (h : Sto) (qv : Int32) (qh : Sto) (e : fX8_first x1 h = some (qv, qh)) : Ok yX8_first cX8_first 3 (some .int) (d + 2) [.ref 0, .int x1] h (some (.int qv)) qh := by
  refine Ok_of (lst := kX8_first) (own := RX8) ⟨by decide, rfl⟩ ckX8_first trivial (Nat.le_of_ble_eq_true rfl) ?_
  unfold fX8_first at e
  change Ev kX8_first RX8 3 (d + 2) nox 0 [some (.ref 0), some (.int x1), none] [] h (some (.int qv)) qh
  obtain ⟨q_1, e_2, e⟩ := bndS e
  refine s_iload_n 0 rfl rfl <| s_callS 1 [.int x1] [] rfl ml_X8_147 yw_X8_isTopic (okX8_isTopic d _ _ _ e_2) rfl rfl (Nat.le_of_ble_eq_true rfl) <| ?_
  rcases iteS e with ⟨g_3, e⟩ | ⟨g_3, e⟩
  · obtain ⟨q_4, e_5, e⟩ := bndS e
    refine s_if_ne_T 2 14 rfl (by decide) (b2i_T g_3) <| s_aload_n 7 rfl rfl <| s_getr 8 rfl fl_X8_12 sh_0 rfl <| s_getr 9 rfl fl_X8_134 sh_1 rfl <| s_iload_n 10 rfl rfl <| s_callV (b := 10) (ci := 0) 11 [.int x1] [] rfl ml_X8_256 yw_X0_firstTelling sh_10 rfl rfl (okX0_firstTelling (d + 1) _ _ _ e_5) rfl rfl (Nat.le_of_ble_eq_true rfl) <| s_istore_n [some (.ref 0), some (.int x1), some (.int q_4)] 12 rfl (by decide) rfl <| s_iload_n 13 rfl rfl <| ?_
    rcases iteS e with ⟨g_6, e⟩ | ⟨g_6, e⟩
    · obtain ⟨rfl, rfl⟩ := some2 e
      exact s_if_ge_T 14 39 rfl (by decide) g_6 <| s_iload_n 19 rfl rfl <| s_iret 20 rfl
    · obtain ⟨q_7, e_8, e⟩ := bndS e
      obtain ⟨rfl, rfl⟩ := some2 e
      exact s_if_ge_F 14 39 rfl (by decide) g_6 <| s_aload_n 15 rfl rfl <| s_ldc 16 rfl wc_X8_133 <| s_callV (b := 0) (ci := 8) 17 [.int (-1000004)] [] rfl ml_X8_70 yw_X8_tellFinding sh_0 rfl rfl (okX8_tellFinding d _ _ q_7.1 q_7.2 e_8) rfl rfl (Nat.le_of_ble_eq_true rfl) <| s_goto 18 40 rfl (by decide) <| s_iret 20 rfl
  · obtain ⟨q_9, e_10, e⟩ := bndS e
    obtain ⟨rfl, rfl⟩ := some2 e
    exact s_if_ne_F 2 14 rfl (by decide) (b2i_F g_3) <| s_aload_n 3 rfl rfl <| s_ldc 4 rfl wc_X8_69 <| s_callV (b := 0) (ci := 8) 5 [.int (-1000001)] [] rfl ml_X8_70 yw_X8_tellFinding sh_0 rfl rfl (okX8_tellFinding d _ _ q_9.1 q_9.2 e_10) rfl rfl (Nat.le_of_ble_eq_true rfl) <| s_iret 6 rfl
def fX9_first_b16 (x1 : Int32) (h : Sto) (c2 : Int32) : Option (Int32 ⊕ (Unit ⊕ (Int32 × Sto))) :=
  if (h 84 2) ≤ c2 then (some (.inr (.inl ()))) else ((fX9_word c2 2 h).bind fun q_5 => if ¬ q_5 = x1 then (some (.inl (c2 + 1))) else (some (.inr (.inr (c2, h)))))
def fX9_first (x1 : Int32) (h : Sto) : Option (Int32 × Sto) :=
  (fX9_isTopic x1 h).bind fun q_1 => if q_1 = true then ((lp (fun s => fX9_first_b16 x1 h s) FUEL 0).bind fun y_8 => Sum.elim (fun v_16 => (fX9_finds (-1000004) h).bind fun q_18 => some (q_18.1, q_18.2)) (fun z_17 => some z_17) y_8) else ((fX9_finds (-1000001) h).bind fun q_24 => some (q_24.1, q_24.2))
set_option maxRecDepth 100000 in
set_option maxHeartbeats 4000000 in
theorem okX9_first (d : Nat) (x1 : Int32) (h : Sto) (qv : Int32) (qh : Sto) (e : fX9_first x1 h = some (qv, qh)) : Ok yX9_first cX9_first 3 (some .int) (d + 2) [.ref 83, .int x1] h (some (.int qv)) qh := by
  refine Ok_of (lst := kX9_first) (own := RX9) ⟨by decide, rfl⟩ ckX9_first trivial (Nat.le_of_ble_eq_true rfl) ?_
  unfold fX9_first at e
  change Ev kX9_first RX9 3 (d + 2) nox 0 [some (.ref 83), some (.int x1), none] [] h (some (.int qv)) qh
  obtain ⟨q_1, e_2, e⟩ := bndS e
  refine s_iload_n 0 rfl rfl <| s_callS 1 [.int x1] [] rfl ml_X9_84 yw_X9_isTopic (okX9_isTopic d _ _ _ e_2) rfl rfl (Nat.le_of_ble_eq_true rfl) <| ?_
  rcases iteS e with ⟨g_3, e⟩ | ⟨g_3, e⟩
  · obtain ⟨y_8, e_9, e⟩ := bndS e
    have kx_12 : ∀ v_16 : Unit, .inl v_16 = y_8 → Ev kX9_first RX9 3 (d + 2) nox 44 [some (.ref 83), none, none] [] h (some (.int qv)) qh := by
      intro v_16 hy
      subst hy
      have e := elL e
      obtain ⟨q_18, e_19, e⟩ := bndS e
      obtain ⟨rfl, rfl⟩ := some2 e
      exact s_aload_n 25 rfl rfl <| s_ldc 26 rfl wc_X9_122 <| s_callV (b := 83) (ci := 9) 27 [.int (-1000004)] [] rfl ml_X9_64 yw_X9_finds sh_83 rfl rfl (okX9_finds (d + 1) _ _ q_18.1 q_18.2 e_19) rfl rfl (Nat.le_of_ble_eq_true rfl) <| s_iret 28 rfl
    have kz_13 : ∀ z_17 : (Int32 × Sto), .inr z_17 = y_8 → z_17 = (qv, qh) := by
      intro z_17 hy
      subst hy
      have e := elR e
      exact Option.some.inj e
    refine s_if_ne_T 2 14 rfl (by decide) (b2i_T g_3) <| s_iconst 0 7 rfl (by decide) <| s_istore_n [some (.ref 83), some (.int x1), some (.int 0)] 8 rfl (by decide) rfl <| lpS (P := fun (s_15 : Int32) => Ev kX9_first RX9 3 (d + 2) nox 16 [some (.ref 83), some (.int x1), some (.int s_15)] [] h (some (.int qv)) qh) ?_ FUEL _ e_9
    intro s_15 o_14 e hk_10 hx_11
    unfold fX9_first_b16 at e
    refine s_iload_n 9 rfl rfl <| s_aload_n 10 rfl rfl <| s_getr 11 rfl fl_X9_9 sh_83 rfl <| s_iconst 2 12 rfl (by decide) <| s_iald 2 13 rfl sh_84 (by decide) (by decide) <| ?_
    rcases iteS e with ⟨g_20, e⟩ | ⟨g_20, e⟩
    · cases e
      exact s_icmp_ge_T 14 44 rfl (by decide) g_20 <| s_fgt [false, true, true] rfl <| (kx_12 () (hx_11 _ rfl))
    · obtain ⟨q_21, e_22, e⟩ := bndS e
      refine s_icmp_ge_F 14 44 rfl (by decide) g_20 <| s_aload_n 15 rfl rfl <| s_iload_n 16 rfl rfl <| s_iconst 2 17 rfl (by decide) <| s_callV (b := 83) (ci := 9) 18 [.int s_15, .int 2] [] rfl ml_X9_101 yw_X9_word sh_83 rfl rfl (okX9_word (d + 1) _ _ _ _ e_22) rfl rfl (Nat.le_of_ble_eq_true rfl) <| s_iload_n 19 rfl rfl <| ?_
      rcases iteS e with ⟨g_23, e⟩ | ⟨g_23, e⟩
      · cases e
        exact s_icmp_ne_T 20 38 rfl (by decide) g_23 <| s_iinc 1 [some (.ref 83), some (.int x1), some (.int (s_15 + 1))] 23 rfl (by decide) rfl (by decide) rfl <| s_goto 24 16 rfl (by decide) <| (hk_10 (s_15 + 1) rfl)
      · cases e
        have z0 := kz_13 _ (hx_11 _ rfl)
        obtain ⟨rfl, rfl⟩ := prod2 z0
        exact s_icmp_ne_F 20 38 rfl (by decide) (Decidable.not_not.mp g_23) <| s_iload_n 21 rfl rfl <| s_iret 22 rfl
  · obtain ⟨q_24, e_25, e⟩ := bndS e
    obtain ⟨rfl, rfl⟩ := some2 e
    exact s_if_ne_F 2 14 rfl (by decide) (b2i_F g_3) <| s_aload_n 3 rfl rfl <| s_ldc 4 rfl wc_X9_47 <| s_callV (b := 83) (ci := 9) 5 [.int (-1000001)] [] rfl ml_X9_64 yw_X9_finds sh_83 rfl rfl (okX9_finds (d + 1) _ _ q_24.1 q_24.2 e_25) rfl rfl (Nat.le_of_ble_eq_true rfl) <| s_iret 6 rfl
def fX8_many (x1 : Int32) (x2 : Int32) (h : Sto) : Option (Int32 × Sto) :=
  (fX1_hasAll x1 h).bind fun q_1 => if q_1 = true then ((fX1_hasAll x2 h).bind fun q_4 => if q_4 = true then ((fJ6_bitCount_0f7a4 (x1 &&& x2) h).bind fun q_7 => if ¬ q_7 = 0 then ((fJ6_bitCount_0f7a4 x1 h).bind fun q_10 => (fJ6_bitCount_0f7a4 x2 h).bind fun q_12 => (fX8_cut (q_10 * q_12) q_7 h).bind fun q_14 => some (q_14, h)) else ((fX8_tellFinding (-1000004) h).bind fun q_16 => some (q_16.1, q_16.2))) else ((fX8_tellFinding (-1000001) h).bind fun q_18 => some (q_18.1, q_18.2))) else ((fX8_tellFinding (-1000001) h).bind fun q_20 => some (q_20.1, q_20.2))
set_option maxRecDepth 100000 in
set_option maxHeartbeats 4000000 in
theorem okX8_many (d : Nat) (x1 : Int32) (x2 : Int32) (h : Sto) (qv : Int32) (qh : Sto) (e : fX8_many x1 x2 h = some (qv, qh)) : Ok yX8_many cX8_many 4 (some .int) (d + 2) [.ref 0, .int x1, .int x2] h (some (.int qv)) qh := by
  refine Ok_of (lst := kX8_many) (own := RX8) ⟨by decide, rfl⟩ ckX8_many trivial (Nat.le_of_ble_eq_true rfl) ?_
  unfold fX8_many at e
  change Ev kX8_many RX8 4 (d + 2) nox 0 [some (.ref 0), some (.int x1), some (.int x2), none] [] h (some (.int qv)) qh
  obtain ⟨q_1, e_2, e⟩ := bndS e
  refine s_aload_n 0 rfl rfl <| s_getr 1 rfl fl_X8_12 sh_0 rfl <| s_getr 2 rfl fl_X8_74 sh_1 rfl <| s_iload_n 3 rfl rfl <| s_callV (b := 2) (ci := 1) 4 [.int x1] [] rfl ml_X8_250 yw_X1_hasAll sh_2 rfl rfl (okX1_hasAll d _ _ _ e_2) rfl rfl (Nat.le_of_ble_eq_true rfl) <| ?_
  rcases iteS e with ⟨g_3, e⟩ | ⟨g_3, e⟩
  · obtain ⟨q_4, e_5, e⟩ := bndS e
    refine s_if_eq_F 5 28 rfl (by decide) (b2i_T g_3) <| s_aload_n 6 rfl rfl <| s_getr 7 rfl fl_X8_12 sh_0 rfl <| s_getr 8 rfl fl_X8_74 sh_1 rfl <| s_iload_n 9 rfl rfl <| s_callV (b := 2) (ci := 1) 10 [.int x2] [] rfl ml_X8_250 yw_X1_hasAll sh_2 rfl rfl (okX1_hasAll d _ _ _ e_5) rfl rfl (Nat.le_of_ble_eq_true rfl) <| ?_
    rcases iteS e with ⟨g_6, e⟩ | ⟨g_6, e⟩
    · obtain ⟨q_7, e_8, e⟩ := bndS e
      refine s_if_ne_T 11 35 rfl (by decide) (b2i_T g_6) <| s_iload_n 16 rfl rfl <| s_iload_n 17 rfl rfl <| s_iand 18 rfl <| s_callS 19 [.int (x1 &&& x2)] [] rfl ml_X8_117 yw_J6_bitCount_0f7a4 (okJ6_bitCount_0f7a4 (d + 1) _ _ _ e_8) rfl rfl (Nat.le_of_ble_eq_true rfl) <| s_istore_n [some (.ref 0), some (.int x1), some (.int x2), some (.int q_7)] 20 rfl (by decide) rfl <| s_iload_n 21 rfl rfl <| ?_
      rcases iteS e with ⟨g_9, e⟩ | ⟨g_9, e⟩
      · obtain ⟨q_10, e_11, e⟩ := bndS e
        obtain ⟨q_12, e_13, e⟩ := bndS e
        obtain ⟨q_14, e_15, e⟩ := bndS e
        obtain ⟨rfl, rfl⟩ := some2 e
        exact s_if_ne_T 22 53 rfl (by decide) g_9 <| s_iload_n 27 rfl rfl <| s_callS 28 [.int x1] [] rfl ml_X8_117 yw_J6_bitCount_0f7a4 (okJ6_bitCount_0f7a4 (d + 1) _ _ _ e_11) rfl rfl (Nat.le_of_ble_eq_true rfl) <| s_iload_n 29 rfl rfl <| s_callS 30 [.int x2] [.int q_10] rfl ml_X8_117 yw_J6_bitCount_0f7a4 (okJ6_bitCount_0f7a4 (d + 1) _ _ _ e_13) rfl rfl (Nat.le_of_ble_eq_true rfl) <| s_imul 31 rfl <| s_iload_n 32 rfl rfl <| s_callS 33 [.int (q_10 * q_12), .int q_7] [] rfl ml_X8_259 yw_X8_cut (okX8_cut (d + 1) _ _ _ _ e_15) rfl rfl (Nat.le_of_ble_eq_true rfl) <| s_iret 34 rfl
      · obtain ⟨q_16, e_17, e⟩ := bndS e
        obtain ⟨rfl, rfl⟩ := some2 e
        exact s_if_ne_F 22 53 rfl (by decide) (Decidable.not_not.mp g_9) <| s_aload_n 23 rfl rfl <| s_ldc 24 rfl wc_X8_133 <| s_callV (b := 0) (ci := 8) 25 [.int (-1000004)] [] rfl ml_X8_70 yw_X8_tellFinding sh_0 rfl rfl (okX8_tellFinding d _ _ q_16.1 q_16.2 e_17) rfl rfl (Nat.le_of_ble_eq_true rfl) <| s_iret 26 rfl
    · obtain ⟨q_18, e_19, e⟩ := bndS e
      obtain ⟨rfl, rfl⟩ := some2 e
      exact s_if_ne_F 11 35 rfl (by decide) (b2i_F g_6) <| s_aload_n 12 rfl rfl <| s_ldc 13 rfl wc_X8_69 <| s_callV (b := 0) (ci := 8) 14 [.int (-1000001)] [] rfl ml_X8_70 yw_X8_tellFinding sh_0 rfl rfl (okX8_tellFinding d _ _ q_18.1 q_18.2 e_19) rfl rfl (Nat.le_of_ble_eq_true rfl) <| s_iret 15 rfl
  · obtain ⟨q_20, e_21, e⟩ := bndS e
    obtain ⟨rfl, rfl⟩ := some2 e
    exact s_if_eq_T 5 28 rfl (by decide) (b2i_F g_3) <| s_aload_n 12 rfl rfl <| s_ldc 13 rfl wc_X8_69 <| s_callV (b := 0) (ci := 8) 14 [.int (-1000001)] [] rfl ml_X8_70 yw_X8_tellFinding sh_0 rfl rfl (okX8_tellFinding d _ _ q_20.1 q_20.2 e_21) rfl rfl (Nat.le_of_ble_eq_true rfl) <| s_iret 15 rfl
def fX9_many_ (x1 : Int32) (x2 : Int32) (h : Sto) : Option (Int32 × Sto) :=
  (fX9_isSet x1 h).bind fun q_1 => if q_1 = true then ((fX9_isSet x2 h).bind fun q_4 => if q_4 = true then (if ¬ (x1 &&& x2) = 0 then ((fX9_many x1 h).bind fun q_8 => (fX9_many x2 h).bind fun q_10 => (fX9_many (x1 &&& x2) h).bind fun q_12 => grd (¬ q_12 = 0) <| some (((q_8 * q_10) / q_12), h)) else ((fX9_finds (-1000004) h).bind fun q_15 => some (q_15.1, q_15.2))) else ((fX9_finds (-1000001) h).bind fun q_17 => some (q_17.1, q_17.2))) else ((fX9_finds (-1000001) h).bind fun q_19 => some (q_19.1, q_19.2))
set_option maxRecDepth 100000 in
set_option maxHeartbeats 4000000 in
theorem okX9_many_ (d : Nat) (x1 : Int32) (x2 : Int32) (h : Sto) (qv : Int32) (qh : Sto) (e : fX9_many_ x1 x2 h = some (qv, qh)) : Ok yX9_many_ cX9_many_ 3 (some .int) (d + 2) [.ref 83, .int x1, .int x2] h (some (.int qv)) qh := by
  refine Ok_of (lst := kX9_many_) (own := RX9) ⟨by decide, rfl⟩ ckX9_many_ trivial (Nat.le_of_ble_eq_true rfl) ?_
  unfold fX9_many_ at e
  change Ev kX9_many_ RX9 3 (d + 2) nox 0 [some (.ref 83), some (.int x1), some (.int x2)] [] h (some (.int qv)) qh
  obtain ⟨q_1, e_2, e⟩ := bndS e
  refine s_aload_n 0 rfl rfl <| s_iload_n 1 rfl rfl <| s_callV (b := 83) (ci := 9) 2 [.int x1] [] rfl ml_X9_265 yw_X9_isSet sh_83 rfl rfl (okX9_isSet d _ _ _ e_2) rfl rfl (Nat.le_of_ble_eq_true rfl) <| ?_
  rcases iteS e with ⟨g_3, e⟩ | ⟨g_3, e⟩
  · obtain ⟨q_4, e_5, e⟩ := bndS e
    refine s_if_eq_F 3 16 rfl (by decide) (b2i_T g_3) <| s_aload_n 4 rfl rfl <| s_iload_n 5 rfl rfl <| s_callV (b := 83) (ci := 9) 6 [.int x2] [] rfl ml_X9_265 yw_X9_isSet sh_83 rfl rfl (okX9_isSet d _ _ _ e_5) rfl rfl (Nat.le_of_ble_eq_true rfl) <| ?_
    rcases iteS e with ⟨g_6, e⟩ | ⟨g_6, e⟩
    · refine s_if_ne_T 7 23 rfl (by decide) (b2i_T g_6) <| s_iload_n 12 rfl rfl <| s_iload_n 13 rfl rfl <| s_iand 14 rfl <| ?_
      rcases iteS e with ⟨g_7, e⟩ | ⟨g_7, e⟩
      · obtain ⟨q_8, e_9, e⟩ := bndS e
        obtain ⟨q_10, e_11, e⟩ := bndS e
        obtain ⟨q_12, e_13, e⟩ := bndS e
        obtain ⟨g_14, e⟩ := grdS e
        obtain ⟨rfl, rfl⟩ := some2 e
        exact s_if_ne_T 15 38 rfl (by decide) g_7 <| s_iload_n 20 rfl rfl <| s_callS 21 [.int x1] [] rfl ml_X9_148 yw_X9_many (okX9_many (d + 1) _ _ _ e_9) rfl rfl (Nat.le_of_ble_eq_true rfl) <| s_iload_n 22 rfl rfl <| s_callS 23 [.int x2] [.int q_8] rfl ml_X9_148 yw_X9_many (okX9_many (d + 1) _ _ _ e_11) rfl rfl (Nat.le_of_ble_eq_true rfl) <| s_imul 24 rfl <| s_iload_n 25 rfl rfl <| s_iload_n 26 rfl rfl <| s_iand 27 rfl <| s_callS 28 [.int (x1 &&& x2)] [.int (q_8 * q_10)] rfl ml_X9_148 yw_X9_many (okX9_many (d + 1) _ _ _ e_13) rfl rfl (Nat.le_of_ble_eq_true rfl) <| s_idiv 29 rfl g_14 <| s_iret 30 rfl
      · obtain ⟨q_15, e_16, e⟩ := bndS e
        obtain ⟨rfl, rfl⟩ := some2 e
        exact s_if_ne_F 15 38 rfl (by decide) (Decidable.not_not.mp g_7) <| s_aload_n 16 rfl rfl <| s_ldc 17 rfl wc_X9_122 <| s_callV (b := 83) (ci := 9) 18 [.int (-1000004)] [] rfl ml_X9_64 yw_X9_finds sh_83 rfl rfl (okX9_finds (d + 1) _ _ q_15.1 q_15.2 e_16) rfl rfl (Nat.le_of_ble_eq_true rfl) <| s_goto 19 54 rfl (by decide) <| s_iret 30 rfl
    · obtain ⟨q_17, e_18, e⟩ := bndS e
      obtain ⟨rfl, rfl⟩ := some2 e
      exact s_if_ne_F 7 23 rfl (by decide) (b2i_F g_6) <| s_aload_n 8 rfl rfl <| s_ldc 9 rfl wc_X9_47 <| s_callV (b := 83) (ci := 9) 10 [.int (-1000001)] [] rfl ml_X9_64 yw_X9_finds sh_83 rfl rfl (okX9_finds (d + 1) _ _ q_17.1 q_17.2 e_18) rfl rfl (Nat.le_of_ble_eq_true rfl) <| s_iret 11 rfl
  · obtain ⟨q_19, e_20, e⟩ := bndS e
    obtain ⟨rfl, rfl⟩ := some2 e
    exact s_if_eq_T 3 16 rfl (by decide) (b2i_F g_3) <| s_aload_n 8 rfl rfl <| s_ldc 9 rfl wc_X9_47 <| s_callV (b := 83) (ci := 9) 10 [.int (-1000001)] [] rfl ml_X9_64 yw_X9_finds sh_83 rfl rfl (okX9_finds (d + 1) _ _ q_19.1 q_19.2 e_20) rfl rfl (Nat.le_of_ble_eq_true rfl) <| s_iret 11 rfl
def fX0_hourSum_b4 (x1 : Int32) (h : Sto) (c2 : Int32) (c3 : Int32) : Option ((Int32 × Int32) ⊕ Int32) :=
  if (h 10 1) ≤ c3 then (some (.inr c2)) else (grd (inb c3 200) <| if ¬ (h 12 (Int32.toNatClampNeg c3)) = x1 then (some (.inl ((c2 + 0), (c3 + 1)))) else (grd (inb c3 200) <| (fX8_hourOf (h 11 (Int32.toNatClampNeg c3)) h).bind fun q_5 => some (.inl ((c2 + q_5), (c3 + 1)))))
def fX0_hourSum (x1 : Int32) (h : Sto) : Option Int32 :=
  (lp (fun s => fX0_hourSum_b4 x1 h s.1 s.2) FUEL (0, 0)).bind fun v_15 => some v_15
set_option maxRecDepth 100000 in
set_option maxHeartbeats 4000000 in
theorem okX0_hourSum (d : Nat) (x1 : Int32) (h : Sto) (q : Int32) (e : fX0_hourSum x1 h = some q) : Ok yX0_hourSum cX0_hourSum 4 (some .int) (d + 1) [.ref 10, .int x1] h (some (.int q)) h := by
  refine Ok_of (lst := kX0_hourSum) (own := RX0) ⟨by decide, rfl⟩ ckX0_hourSum trivial (Nat.le_of_ble_eq_true rfl) ?_
  unfold fX0_hourSum at e
  change Ev kX0_hourSum RX0 4 (d + 1) nox 0 [some (.ref 10), some (.int x1), none, none] [] h (some (.int q)) h
  obtain ⟨y_7, e_8, e⟩ := bndS e
  have kx_11 : ∀ v_15 : Int32, v_15 = y_7 → Ev kX0_hourSum RX0 4 (d + 1) nox 44 [none, none, some (.int v_15), none] [] h (some (.int q)) h := by
    intro v_15 hy
    subst hy
    obtain rfl := Option.some.inj e
    exact s_iload_n 26 rfl rfl <| s_iret 27 rfl
  refine s_iconst 0 0 rfl (by decide) <| s_istore_n [some (.ref 10), some (.int x1), some (.int 0), none] 1 rfl (by decide) rfl <| s_iconst 0 2 rfl (by decide) <| s_istore_n [some (.ref 10), some (.int x1), some (.int 0), some (.int 0)] 3 rfl (by decide) rfl <| lpS (P := fun (s_14 : (Int32 × Int32)) => Ev kX0_hourSum RX0 4 (d + 1) nox 4 [some (.ref 10), some (.int x1), some (.int s_14.1), some (.int s_14.2)] [] h (some (.int q)) h) ?_ FUEL _ e_8
  intro s_14 o_13 e hk_9 hx_10
  unfold fX0_hourSum_b4 at e
  refine s_iload_n 4 rfl rfl <| s_aload_n 5 rfl rfl <| s_geti 6 rfl fl_X0_28 sh_10 rfl <| ?_
  rcases iteS e with ⟨g_17, e⟩ | ⟨g_17, e⟩
  · cases e
    exact s_icmp_ge_T 7 44 rfl (by decide) g_17 <| s_fgt [true, true, false, true] rfl <| (kx_11 s_14.1 (hx_10 _ rfl))
  · obtain ⟨g_18, e⟩ := grdS e
    refine s_icmp_ge_F 7 44 rfl (by decide) g_17 <| s_iload_n 8 rfl rfl <| s_aload_n 9 rfl rfl <| s_getr 10 rfl fl_X0_15 sh_10 rfl <| s_iload_n 11 rfl rfl <| s_iald (Int32.toNatClampNeg s_14.2) 12 rfl sh_12 g_18 rfl <| s_iload_n 13 rfl rfl <| ?_
    rcases iteS e with ⟨g_19, e⟩ | ⟨g_19, e⟩
    · cases e
      exact s_icmp_ne_T 14 35 rfl (by decide) g_19 <| s_iconst 0 21 rfl (by decide) <| s_iadd 22 rfl <| s_istore_n [some (.ref 10), some (.int x1), some (.int (s_14.1 + 0)), some (.int s_14.2)] 23 rfl (by decide) rfl <| s_iinc 1 [some (.ref 10), some (.int x1), some (.int (s_14.1 + 0)), some (.int (s_14.2 + 1))] 24 rfl (by decide) rfl (by decide) rfl <| s_goto 25 4 rfl (by decide) <| (hk_9 ((s_14.1 + 0), (s_14.2 + 1)) rfl)
    · obtain ⟨g_20, e⟩ := grdS e
      obtain ⟨q_21, e_22, e⟩ := bndS e
      cases e
      exact s_icmp_ne_F 14 35 rfl (by decide) (Decidable.not_not.mp g_19) <| s_aload_n 15 rfl rfl <| s_getr 16 rfl fl_X0_9 sh_10 rfl <| s_iload_n 17 rfl rfl <| s_iald (Int32.toNatClampNeg s_14.2) 18 rfl sh_11 g_20 rfl <| s_callSN 19 [.int (h 11 (Int32.toNatClampNeg s_14.2))] [.int s_14.1] rfl ml_X0_47 yw_X8_hourOf (okX8_hourOf d _ _ _ e_22) rfl rfl (Nat.le_of_ble_eq_true rfl) <| s_goto 20 36 rfl (by decide) <| s_iadd 22 rfl <| s_istore_n [some (.ref 10), some (.int x1), some (.int (s_14.1 + q_21)), some (.int s_14.2)] 23 rfl (by decide) rfl <| s_iinc 1 [some (.ref 10), some (.int x1), some (.int (s_14.1 + q_21)), some (.int (s_14.2 + 1))] 24 rfl (by decide) rfl (by decide) rfl <| s_goto 25 4 rfl (by decide) <| (hk_9 ((s_14.1 + q_21), (s_14.2 + 1)) rfl)
