/-! 17 methods (written by wip/whole/gen_m.py) -/
def fX4_hasRange (t0 : Nat) (x1 : Int32) (x2 : Int32) (h : Sto) : Option Bool :=
  grd (t0 < 4) <| if x2 < 0 then (some false) else (if (h (53 + t0) 1) < x2 then (some false) else ((fX8_isWithin x1 0 ((h (53 + t0) 1) - x2) h).bind fun q_3 => if q_3 = true then (some true) else (some false)))
set_option maxRecDepth 100000 in
set_option maxHeartbeats 4000000 in
theorem okX4_hasRange (d : Nat) (t0 : Nat) (x1 : Int32) (x2 : Int32) (h : Sto) (q : Bool) (e : fX4_hasRange t0 x1 x2 h = some q) : Ok yX4_hasRange cX4_hasRange 3 (some .boolean) (d + 1) [.ref (53 + t0), .int x1, .int x2] h (some (.int (b2i q))) h := by
  refine Ok_of (lst := kX4_hasRange) (own := RX4) ⟨by decide, rfl⟩ ckX4_hasRange (b2i_01 _) (Nat.le_of_ble_eq_true rfl) ?_
  unfold fX4_hasRange at e
  change Ev kX4_hasRange RX4 3 (d + 1) nox 0 [some (.ref (53 + t0)), some (.int x1), some (.int x2)] [] h (some (.int (b2i q))) h
  obtain ⟨gt0, e⟩ := grdS e
  refine s_iload_n 0 rfl rfl <| ?_
  rcases iteS e with ⟨g_1, e⟩ | ⟨g_1, e⟩
  · obtain rfl := Option.some.inj e
    exact s_if_lt_T 1 30 rfl (by decide) g_1 <| s_iconst 0 16 rfl (by decide) <| s_iret 17 rfl
  · refine s_if_lt_F 1 30 rfl (by decide) g_1 <| s_iload_n 2 rfl rfl <| s_aload_n 3 rfl rfl <| s_geti 4 rfl fl_X4_19 (shs_53 _ gt0) rfl <| ?_
    rcases iteS e with ⟨g_2, e⟩ | ⟨g_2, e⟩
    · obtain rfl := Option.some.inj e
      exact s_icmp_gt_T 5 30 rfl (by decide) g_2 <| s_iconst 0 16 rfl (by decide) <| s_iret 17 rfl
    · obtain ⟨q_3, e_4, e⟩ := bndS e
      refine s_icmp_gt_F 5 30 rfl (by decide) g_2 <| s_iload_n 6 rfl rfl <| s_iconst 0 7 rfl (by decide) <| s_aload_n 8 rfl rfl <| s_geti 9 rfl fl_X4_19 (shs_53 _ gt0) rfl <| s_iload_n 10 rfl rfl <| s_isub 11 rfl <| s_callSN 12 [.int x1, .int 0, .int ((h (53 + t0) 1) - x2)] [] rfl ml_X4_22 yw_X8_isWithin (okX8_isWithin d _ _ _ _ _ e_4) rfl rfl (Nat.le_of_ble_eq_true rfl) <| ?_
      rcases iteS e with ⟨g_5, e⟩ | ⟨g_5, e⟩
      · obtain rfl := Option.some.inj e
        exact s_if_eq_F 13 30 rfl (by decide) (b2i_T g_5) <| s_iconst 1 14 rfl (by decide) <| s_goto 15 31 rfl (by decide) <| s_iret 17 rfl
      · obtain rfl := Option.some.inj e
        exact s_if_eq_T 13 30 rfl (by decide) (b2i_F g_5) <| s_iconst 0 16 rfl (by decide) <| s_iret 17 rfl
def fX8_copy (x1 : Int32) (x2 : Int32) (x3 : Int32) (x4 : Int32) (x5 : Int32) (h : Sto) : Option (Int32 × Sto) :=
  (fX8_isSheet x1 h).bind fun q_1 => if q_1 = true then ((fX8_isSheet x3 h).bind fun q_4 => if q_4 = true then (grd (inb x1 4) <| grd (inb x3 4) <| (fX4_isMissing (Int32.toNatClampNeg x1) h).bind fun q_9 => if q_9 = true then ((fX8_tellFinding (-1000006) h).bind fun q_12 => some (q_12.1, q_12.2)) else ((fX4_isMissing (Int32.toNatClampNeg x3) h).bind fun q_14 => if q_14 = true then ((fX8_tellFinding (-1000006) h).bind fun q_17 => some (q_17.1, q_17.2)) else (if (h (53 + (Int32.toNatClampNeg x1)) 0) = (h (53 + (Int32.toNatClampNeg x3)) 0) then ((fX4_hasRange (Int32.toNatClampNeg x1) x2 x5 h).bind fun q_20 => if q_20 = true then ((fX4_hasRange (Int32.toNatClampNeg x3) x4 x5 h).bind fun q_23 => if q_23 = true then (grd ((¬ (x2 : Int32) < 0 ∧ ¬ (x4 : Int32) < 0 ∧ ¬ (x5 : Int32) < 0) ∧ (Int32.toNatClampNeg x2) + (Int32.toNatClampNeg x5) ≤ 40 ∧ (Int32.toNatClampNeg x4) + (Int32.toNatClampNeg x5) ≤ 40) <| (some (sr h (57 + (Int32.toNatClampNeg x3)) (va_cpy (h (57 + (Int32.toNatClampNeg x1))) (h (57 + (Int32.toNatClampNeg x3))) (Int32.toNatClampNeg x2) (Int32.toNatClampNeg x4) (Int32.toNatClampNeg x5)))).bind fun h_27 => some (x5, h_27)) else ((fX8_tellFinding (-1000001) h).bind fun q_28 => some (q_28.1, q_28.2))) else ((fX8_tellFinding (-1000001) h).bind fun q_30 => some (q_30.1, q_30.2))) else ((fX8_tellFinding (-1000003) h).bind fun q_32 => some (q_32.1, q_32.2))))) else ((fX8_tellFinding (-1000001) h).bind fun q_34 => some (q_34.1, q_34.2))) else ((fX8_tellFinding (-1000001) h).bind fun q_36 => some (q_36.1, q_36.2))
set_option maxRecDepth 100000 in
set_option maxHeartbeats 4000000 in
theorem okX8_copy (d : Nat) (x1 : Int32) (x2 : Int32) (x3 : Int32) (x4 : Int32) (x5 : Int32) (h : Sto) (qv : Int32) (qh : Sto) (e : fX8_copy x1 x2 x3 x4 x5 h = some (qv, qh)) : Ok yX8_copy cX8_copy 8 (some .int) (d + 2) [.ref 0, .int x1, .int x2, .int x3, .int x4, .int x5] h (some (.int qv)) qh := by
  refine Ok_of (lst := kX8_copy) (own := RX8) ⟨by decide, rfl⟩ ckX8_copy trivial (Nat.le_of_ble_eq_true rfl) ?_
  unfold fX8_copy at e
  change Ev kX8_copy RX8 8 (d + 2) nox 0 [some (.ref 0), some (.int x1), some (.int x2), some (.int x3), some (.int x4), some (.int x5), none, none] [] h (some (.int qv)) qh
  obtain ⟨q_1, e_2, e⟩ := bndS e
  refine s_iload_n 0 rfl rfl <| s_callS 1 [.int x1] [] rfl ml_X8_282 yw_X8_isSheet (okX8_isSheet d _ _ _ e_2) rfl rfl (Nat.le_of_ble_eq_true rfl) <| ?_
  rcases iteS e with ⟨g_3, e⟩ | ⟨g_3, e⟩
  · obtain ⟨q_4, e_5, e⟩ := bndS e
    refine s_if_eq_F 2 14 rfl (by decide) (b2i_T g_3) <| s_iload_n 3 rfl rfl <| s_callS 4 [.int x3] [] rfl ml_X8_282 yw_X8_isSheet (okX8_isSheet d _ _ _ e_5) rfl rfl (Nat.le_of_ble_eq_true rfl) <| ?_
    rcases iteS e with ⟨g_6, e⟩ | ⟨g_6, e⟩
    · obtain ⟨g_7, e⟩ := grdS e
      obtain ⟨g_8, e⟩ := grdS e
      obtain ⟨q_9, e_10, e⟩ := bndS e
      refine s_if_ne_T 5 21 rfl (by decide) (b2i_T g_6) <| s_aload_n 10 rfl rfl <| s_getr 11 rfl fl_X8_33 sh_0 rfl <| s_iload_n 12 rfl rfl <| s_aald3 (53 + (Int32.toNatClampNeg x1)) 13 rfl sh_52 rfl g_7 <| s_astore [some (.ref 0), some (.int x1), some (.int x2), some (.int x3), some (.int x4), some (.int x5), some (.ref (53 + (Int32.toNatClampNeg x1))), none] 14 rfl (by decide) rfl <| s_aload_n 15 rfl rfl <| s_getr 16 rfl fl_X8_33 sh_0 rfl <| s_iload_n 17 rfl rfl <| s_aald3 (53 + (Int32.toNatClampNeg x3)) 18 rfl sh_52 rfl g_8 <| s_astore [some (.ref 0), some (.int x1), some (.int x2), some (.int x3), some (.int x4), some (.int x5), some (.ref (53 + (Int32.toNatClampNeg x1))), some (.ref (53 + (Int32.toNatClampNeg x3)))] 19 rfl (by decide) rfl <| s_aload 20 rfl rfl <| s_callV (b := (53 + (Int32.toNatClampNeg x1))) (ci := 4) 21 [] [] rfl ml_X8_291 yw_X4_isMissing (shs_53 _ (inb_lt g_7)) rfl rfl (okX4_isMissing (d + 1) _ _ _ e_10) rfl rfl (Nat.le_of_ble_eq_true rfl) <| ?_
      rcases iteS e with ⟨g_11, e⟩ | ⟨g_11, e⟩
      · obtain ⟨q_12, e_13, e⟩ := bndS e
        obtain ⟨rfl, rfl⟩ := some2 e
        exact s_if_ne_T 22 53 rfl (by decide) (b2i_T g_11) <| s_aload_n 26 rfl rfl <| s_ldc_w 27 rfl wc_X8_280 <| s_callV (b := 0) (ci := 8) 28 [.int (-1000006)] [] rfl ml_X8_70 yw_X8_tellFinding sh_0 rfl rfl (okX8_tellFinding d _ _ q_12.1 q_12.2 e_13) rfl rfl (Nat.le_of_ble_eq_true rfl) <| s_iret 29 rfl
      · obtain ⟨q_14, e_15, e⟩ := bndS e
        refine s_if_ne_F 22 53 rfl (by decide) (b2i_F g_11) <| s_aload 23 rfl rfl <| s_callV (b := (53 + (Int32.toNatClampNeg x3))) (ci := 4) 24 [] [] rfl ml_X8_291 yw_X4_isMissing (shs_53 _ (inb_lt g_8)) rfl rfl (okX4_isMissing (d + 1) _ _ _ e_15) rfl rfl (Nat.le_of_ble_eq_true rfl) <| ?_
        rcases iteS e with ⟨g_16, e⟩ | ⟨g_16, e⟩
        · obtain ⟨q_17, e_18, e⟩ := bndS e
          obtain ⟨rfl, rfl⟩ := some2 e
          exact s_if_eq_F 25 61 rfl (by decide) (b2i_T g_16) <| s_aload_n 26 rfl rfl <| s_ldc_w 27 rfl wc_X8_280 <| s_callV (b := 0) (ci := 8) 28 [.int (-1000006)] [] rfl ml_X8_70 yw_X8_tellFinding sh_0 rfl rfl (okX8_tellFinding d _ _ q_17.1 q_17.2 e_18) rfl rfl (Nat.le_of_ble_eq_true rfl) <| s_iret 29 rfl
        · refine s_if_eq_T 25 61 rfl (by decide) (b2i_F g_16) <| s_aload 30 rfl rfl <| s_geti 31 rfl fl_X8_297 (shs_53 _ (inb_lt g_7)) rfl <| s_aload 32 rfl rfl <| s_geti 33 rfl fl_X8_297 (shs_53 _ (inb_lt g_8)) rfl <| ?_
          rcases iteS e with ⟨g_19, e⟩ | ⟨g_19, e⟩
          · obtain ⟨q_20, e_21, e⟩ := bndS e
            refine s_icmp_eq_T 34 82 rfl (by decide) g_19 <| s_aload 39 rfl rfl <| s_iload_n 40 rfl rfl <| s_iload 41 rfl rfl <| s_callV (b := (53 + (Int32.toNatClampNeg x1))) (ci := 4) 42 [.int x2, .int x5] [] rfl ml_X8_300 yw_X4_hasRange (shs_53 _ (inb_lt g_7)) rfl rfl (okX4_hasRange d _ _ _ _ _ e_21) rfl rfl (Nat.le_of_ble_eq_true rfl) <| ?_
            rcases iteS e with ⟨g_22, e⟩ | ⟨g_22, e⟩
            · obtain ⟨q_23, e_24, e⟩ := bndS e
              refine s_if_eq_F 43 105 rfl (by decide) (b2i_T g_22) <| s_aload 44 rfl rfl <| s_iload 45 rfl rfl <| s_iload 46 rfl rfl <| s_callV (b := (53 + (Int32.toNatClampNeg x3))) (ci := 4) 47 [.int x4, .int x5] [] rfl ml_X8_300 yw_X4_hasRange (shs_53 _ (inb_lt g_8)) rfl rfl (okX4_hasRange d _ _ _ _ _ e_24) rfl rfl (Nat.le_of_ble_eq_true rfl) <| ?_
              rcases iteS e with ⟨g_25, e⟩ | ⟨g_25, e⟩
              · obtain ⟨g_26, e⟩ := grdS e
                obtain ⟨h_27, eh_27, e⟩ := bndS e
                obtain ⟨rfl, rfl⟩ := some2 e
                exact s_if_ne_T 48 112 rfl (by decide) (b2i_T g_25) <| s_aload 53 rfl rfl <| s_getr 54 rfl fl_X8_303 (shs_53 _ (inb_lt g_7)) rfl <| s_iload_n 55 rfl rfl <| s_aload 56 rfl rfl <| s_getr 57 rfl fl_X8_303 (shs_53 _ (inb_lt g_8)) rfl <| s_iload 58 rfl rfl <| s_iload 59 rfl rfl <| s_copy 60 rfl ml_X8_306 wCpy (srw_57 _ (inb_lt g_7)) (srw_57 _ (inb_lt g_8)) g_26 (Nat.le_of_ble_eq_true rfl) <| s_nmH (Option.some.inj eh_27) <| s_iload 61 rfl rfl <| s_iret 62 rfl
              · obtain ⟨q_28, e_29, e⟩ := bndS e
                obtain ⟨rfl, rfl⟩ := some2 e
                exact s_if_ne_F 48 112 rfl (by decide) (b2i_F g_25) <| s_aload_n 49 rfl rfl <| s_ldc 50 rfl wc_X8_69 <| s_callV (b := 0) (ci := 8) 51 [.int (-1000001)] [] rfl ml_X8_70 yw_X8_tellFinding sh_0 rfl rfl (okX8_tellFinding d _ _ q_28.1 q_28.2 e_29) rfl rfl (Nat.le_of_ble_eq_true rfl) <| s_iret 52 rfl
            · obtain ⟨q_30, e_31, e⟩ := bndS e
              obtain ⟨rfl, rfl⟩ := some2 e
              exact s_if_eq_T 43 105 rfl (by decide) (b2i_F g_22) <| s_aload_n 49 rfl rfl <| s_ldc 50 rfl wc_X8_69 <| s_callV (b := 0) (ci := 8) 51 [.int (-1000001)] [] rfl ml_X8_70 yw_X8_tellFinding sh_0 rfl rfl (okX8_tellFinding d _ _ q_30.1 q_30.2 e_31) rfl rfl (Nat.le_of_ble_eq_true rfl) <| s_iret 52 rfl
          · obtain ⟨q_32, e_33, e⟩ := bndS e
            obtain ⟨rfl, rfl⟩ := some2 e
            exact s_icmp_eq_F 34 82 rfl (by decide) g_19 <| s_aload_n 35 rfl rfl <| s_ldc_w 36 rfl wc_X8_281 <| s_callV (b := 0) (ci := 8) 37 [.int (-1000003)] [] rfl ml_X8_70 yw_X8_tellFinding sh_0 rfl rfl (okX8_tellFinding d _ _ q_32.1 q_32.2 e_33) rfl rfl (Nat.le_of_ble_eq_true rfl) <| s_iret 38 rfl
    · obtain ⟨q_34, e_35, e⟩ := bndS e
      obtain ⟨rfl, rfl⟩ := some2 e
      exact s_if_ne_F 5 21 rfl (by decide) (b2i_F g_6) <| s_aload_n 6 rfl rfl <| s_ldc 7 rfl wc_X8_69 <| s_callV (b := 0) (ci := 8) 8 [.int (-1000001)] [] rfl ml_X8_70 yw_X8_tellFinding sh_0 rfl rfl (okX8_tellFinding d _ _ q_34.1 q_34.2 e_35) rfl rfl (Nat.le_of_ble_eq_true rfl) <| s_iret 9 rfl
  · obtain ⟨q_36, e_37, e⟩ := bndS e
    obtain ⟨rfl, rfl⟩ := some2 e
    exact s_if_eq_T 2 14 rfl (by decide) (b2i_F g_3) <| s_aload_n 6 rfl rfl <| s_ldc 7 rfl wc_X8_69 <| s_callV (b := 0) (ci := 8) 8 [.int (-1000001)] [] rfl ml_X8_70 yw_X8_tellFinding sh_0 rfl rfl (okX8_tellFinding d _ _ q_36.1 q_36.2 e_37) rfl rfl (Nat.le_of_ble_eq_true rfl) <| s_iret 9 rfl
def fX9_copy_b139 (x1 : Int32) (x2 : Int32) (x3 : Int32) (x4 : Int32) (x5 : Int32) (x6 : Bool) (c7 : Int32) (h : Sto) : Option ((Int32 × Sto) ⊕ Sto) :=
  if x5 ≤ c7 then (some (.inr h)) else ((if x6 = true then (some ((x5 - 1) - c7)) else (some c7)).bind fun q_36 => grd (inb (((40 * x1) + x2) + q_36) 160) <| grd (inb (((40 * x3) + x4) + q_36) 160) <| (some (su h 95 (Int32.toNatClampNeg (((40 * x3) + x4) + q_36)) (h 95 (Int32.toNatClampNeg (((40 * x1) + x2) + q_36))))).bind fun h_41 => some (.inl ((c7 + 1), h_41)))
def fX9_copy (x1 : Int32) (x2 : Int32) (x3 : Int32) (x4 : Int32) (x5 : Int32) (h : Sto) : Option (Int32 × Sto) :=
  (fX9_isSheet x1 h).bind fun q_1 => if q_1 = true then ((fX9_isSheet x3 h).bind fun q_4 => if q_4 = true then (grd (inb x1 4) <| if (h 93 (Int32.toNatClampNeg x1)) = 0 then ((fX9_finds (-1000006) h).bind fun q_9 => some (q_9.1, q_9.2)) else (grd (inb x3 4) <| if ¬ (h 93 (Int32.toNatClampNeg x3)) = 0 then (grd (inb x1 4) <| grd (inb x3 4) <| if (h 93 (Int32.toNatClampNeg x1)) = (h 93 (Int32.toNatClampNeg x3)) then (if x5 < 0 then ((fX9_finds (-1000001) h).bind fun q_17 => some (q_17.1, q_17.2)) else (if x2 < 0 then ((fX9_finds (-1000001) h).bind fun q_20 => some (q_20.1, q_20.2)) else (if x4 < 0 then ((fX9_finds (-1000001) h).bind fun q_23 => some (q_23.1, q_23.2)) else (grd (inb x1 4) <| if ((h 94 (Int32.toNatClampNeg x1)) - x2) < x5 then ((fX9_finds (-1000001) h).bind fun q_27 => some (q_27.1, q_27.2)) else (grd (inb x3 4) <| if x5 ≤ ((h 94 (Int32.toNatClampNeg x3)) - x4) then ((if ¬ x1 = x3 then (some false) else (if x4 ≤ x2 then (some false) else (some true))).bind fun q_31 => (lp (fun s => fX9_copy_b139 x1 x2 x3 x4 x5 q_31 s.1 s.2) FUEL (0, h)).bind fun v_50 => some (x5, v_50)) else ((fX9_finds (-1000001) h).bind fun q_59 => some (q_59.1, q_59.2))))))) else ((fX9_finds (-1000003) h).bind fun q_61 => some (q_61.1, q_61.2))) else ((fX9_finds (-1000006) h).bind fun q_63 => some (q_63.1, q_63.2)))) else ((fX9_finds (-1000001) h).bind fun q_65 => some (q_65.1, q_65.2))) else ((fX9_finds (-1000001) h).bind fun q_67 => some (q_67.1, q_67.2))
set_option maxRecDepth 100000 in
set_option maxHeartbeats 4000000 in
theorem okX9_copy (d : Nat) (x1 : Int32) (x2 : Int32) (x3 : Int32) (x4 : Int32) (x5 : Int32) (h : Sto) (qv : Int32) (qh : Sto) (e : fX9_copy x1 x2 x3 x4 x5 h = some (qv, qh)) : Ok yX9_copy cX9_copy 9 (some .int) (d + 2) [.ref 83, .int x1, .int x2, .int x3, .int x4, .int x5] h (some (.int qv)) qh := by
  refine Ok_of (lst := kX9_copy) (own := RX9) ⟨by decide, rfl⟩ ckX9_copy trivial (Nat.le_of_ble_eq_true rfl) ?_
  unfold fX9_copy at e
  change Ev kX9_copy RX9 9 (d + 2) nox 0 [some (.ref 83), some (.int x1), some (.int x2), some (.int x3), some (.int x4), some (.int x5), none, none, none] [] h (some (.int qv)) qh
  obtain ⟨q_1, e_2, e⟩ := bndS e
  refine s_iload_n 0 rfl rfl <| s_callS 1 [.int x1] [] rfl ml_X9_277 yw_X9_isSheet (okX9_isSheet d _ _ _ e_2) rfl rfl (Nat.le_of_ble_eq_true rfl) <| ?_
  rcases iteS e with ⟨g_3, e⟩ | ⟨g_3, e⟩
  · obtain ⟨q_4, e_5, e⟩ := bndS e
    refine s_if_eq_F 2 14 rfl (by decide) (b2i_T g_3) <| s_iload_n 3 rfl rfl <| s_callS 4 [.int x3] [] rfl ml_X9_277 yw_X9_isSheet (okX9_isSheet d _ _ _ e_5) rfl rfl (Nat.le_of_ble_eq_true rfl) <| ?_
    rcases iteS e with ⟨g_6, e⟩ | ⟨g_6, e⟩
    · obtain ⟨g_7, e⟩ := grdS e
      refine s_if_ne_T 5 21 rfl (by decide) (b2i_T g_6) <| s_aload_n 10 rfl rfl <| s_getr 11 rfl fl_X9_38 sh_83 rfl <| s_iload_n 12 rfl rfl <| s_iald (Int32.toNatClampNeg x1) 13 rfl sh_93 g_7 rfl <| ?_
      rcases iteS e with ⟨g_8, e⟩ | ⟨g_8, e⟩
      · obtain ⟨q_9, e_10, e⟩ := bndS e
        obtain ⟨rfl, rfl⟩ := some2 e
        exact s_if_eq_T 14 39 rfl (by decide) g_8 <| s_aload_n 20 rfl rfl <| s_ldc_w 21 rfl wc_X9_272 <| s_callV (b := 83) (ci := 9) 22 [.int (-1000006)] [] rfl ml_X9_64 yw_X9_finds sh_83 rfl rfl (okX9_finds (d + 1) _ _ q_9.1 q_9.2 e_10) rfl rfl (Nat.le_of_ble_eq_true rfl) <| s_iret 23 rfl
      · obtain ⟨g_11, e⟩ := grdS e
        refine s_if_eq_F 14 39 rfl (by decide) g_8 <| s_aload_n 15 rfl rfl <| s_getr 16 rfl fl_X9_38 sh_83 rfl <| s_iload_n 17 rfl rfl <| s_iald (Int32.toNatClampNeg x3) 18 rfl sh_93 g_11 rfl <| ?_
        rcases iteS e with ⟨g_12, e⟩ | ⟨g_12, e⟩
        · obtain ⟨g_13, e⟩ := grdS e
          obtain ⟨g_14, e⟩ := grdS e
          refine s_if_ne_T 19 47 rfl (by decide) g_12 <| s_aload_n 24 rfl rfl <| s_getr 25 rfl fl_X9_38 sh_83 rfl <| s_iload_n 26 rfl rfl <| s_iald (Int32.toNatClampNeg x1) 27 rfl sh_93 g_13 rfl <| s_aload_n 28 rfl rfl <| s_getr 29 rfl fl_X9_38 sh_83 rfl <| s_iload_n 30 rfl rfl <| s_iald (Int32.toNatClampNeg x3) 31 rfl sh_93 g_14 rfl <| ?_
          rcases iteS e with ⟨g_15, e⟩ | ⟨g_15, e⟩
          · refine s_icmp_eq_T 32 70 rfl (by decide) g_15 <| s_iload 37 rfl rfl <| ?_
            rcases iteS e with ⟨g_16, e⟩ | ⟨g_16, e⟩
            · obtain ⟨q_17, e_18, e⟩ := bndS e
              obtain ⟨rfl, rfl⟩ := some2 e
              exact s_if_lt_T 38 111 rfl (by decide) g_16 <| s_aload_n 59 rfl rfl <| s_ldc 60 rfl wc_X9_47 <| s_callV (b := 83) (ci := 9) 61 [.int (-1000001)] [] rfl ml_X9_64 yw_X9_finds sh_83 rfl rfl (okX9_finds (d + 1) _ _ q_17.1 q_17.2 e_18) rfl rfl (Nat.le_of_ble_eq_true rfl) <| s_iret 62 rfl
            · refine s_if_lt_F 38 111 rfl (by decide) g_16 <| s_iload_n 39 rfl rfl <| ?_
              rcases iteS e with ⟨g_19, e⟩ | ⟨g_19, e⟩
              · obtain ⟨q_20, e_21, e⟩ := bndS e
                obtain ⟨rfl, rfl⟩ := some2 e
                exact s_if_lt_T 40 111 rfl (by decide) g_19 <| s_aload_n 59 rfl rfl <| s_ldc 60 rfl wc_X9_47 <| s_callV (b := 83) (ci := 9) 61 [.int (-1000001)] [] rfl ml_X9_64 yw_X9_finds sh_83 rfl rfl (okX9_finds (d + 1) _ _ q_20.1 q_20.2 e_21) rfl rfl (Nat.le_of_ble_eq_true rfl) <| s_iret 62 rfl
              · refine s_if_lt_F 40 111 rfl (by decide) g_19 <| s_iload 41 rfl rfl <| ?_
                rcases iteS e with ⟨g_22, e⟩ | ⟨g_22, e⟩
                · obtain ⟨q_23, e_24, e⟩ := bndS e
                  obtain ⟨rfl, rfl⟩ := some2 e
                  exact s_if_lt_T 42 111 rfl (by decide) g_22 <| s_aload_n 59 rfl rfl <| s_ldc 60 rfl wc_X9_47 <| s_callV (b := 83) (ci := 9) 61 [.int (-1000001)] [] rfl ml_X9_64 yw_X9_finds sh_83 rfl rfl (okX9_finds (d + 1) _ _ q_23.1 q_23.2 e_24) rfl rfl (Nat.le_of_ble_eq_true rfl) <| s_iret 62 rfl
                · obtain ⟨g_25, e⟩ := grdS e
                  refine s_if_lt_F 42 111 rfl (by decide) g_22 <| s_iload 43 rfl rfl <| s_aload_n 44 rfl rfl <| s_getr 45 rfl fl_X9_41 sh_83 rfl <| s_iload_n 46 rfl rfl <| s_iald (Int32.toNatClampNeg x1) 47 rfl sh_94 g_25 rfl <| s_iload_n 48 rfl rfl <| s_isub 49 rfl <| ?_
                  rcases iteS e with ⟨g_26, e⟩ | ⟨g_26, e⟩
                  · obtain ⟨q_27, e_28, e⟩ := bndS e
                    obtain ⟨rfl, rfl⟩ := some2 e
                    exact s_icmp_gt_T 50 111 rfl (by decide) g_26 <| s_aload_n 59 rfl rfl <| s_ldc 60 rfl wc_X9_47 <| s_callV (b := 83) (ci := 9) 61 [.int (-1000001)] [] rfl ml_X9_64 yw_X9_finds sh_83 rfl rfl (okX9_finds (d + 1) _ _ q_27.1 q_27.2 e_28) rfl rfl (Nat.le_of_ble_eq_true rfl) <| s_iret 62 rfl
                  · obtain ⟨g_29, e⟩ := grdS e
                    refine s_icmp_gt_F 50 111 rfl (by decide) g_26 <| s_iload 51 rfl rfl <| s_aload_n 52 rfl rfl <| s_getr 53 rfl fl_X9_41 sh_83 rfl <| s_iload_n 54 rfl rfl <| s_iald (Int32.toNatClampNeg x3) 55 rfl sh_94 g_29 rfl <| s_iload 56 rfl rfl <| s_isub 57 rfl <| ?_
                    rcases iteS e with ⟨g_30, e⟩ | ⟨g_30, e⟩
                    · obtain ⟨q_31, e1, e⟩ := bndS e
                      have k_32 : Ev kX9_copy RX9 9 (d + 2) nox 134 [some (.ref 83), some (.int x1), some (.int x2), some (.int x3), some (.int x4), some (.int x5), none, none, none] [.int (b2i q_31)] h (some (.int qv)) qh := by
                        obtain ⟨y_42, e_43, e⟩ := bndS e
                        have kx_46 : ∀ v_50 : Sto, v_50 = y_42 → Ev kX9_copy RX9 9 (d + 2) nox 200 [none, none, none, none, none, some (.int x5), none, none, none] [] v_50 (some (.int qv)) qh := by
                          intro v_50 hy
                          subst hy
                          obtain ⟨rfl, rfl⟩ := some2 e
                          exact s_iload 110 rfl rfl <| s_iret 111 rfl
                        refine s_istore [some (.ref 83), some (.int x1), some (.int x2), some (.int x3), some (.int x4), some (.int x5), some (.int (b2i q_31)), none, none] 72 rfl (by decide) rfl <| s_iconst 0 73 rfl (by decide) <| s_istore [some (.ref 83), some (.int x1), some (.int x2), some (.int x3), some (.int x4), some (.int x5), some (.int (b2i q_31)), some (.int 0), none] 74 rfl (by decide) rfl <| lpS (P := fun (s_49 : (Int32 × Sto)) => Ev kX9_copy RX9 9 (d + 2) nox 139 [some (.ref 83), some (.int x1), some (.int x2), some (.int x3), some (.int x4), some (.int x5), some (.int (b2i q_31)), some (.int s_49.1), none] [] s_49.2 (some (.int qv)) qh) ?_ FUEL _ e_43
                        intro s_49 o_48 e hk_44 hx_45
                        unfold fX9_copy_b139 at e
                        refine s_iload 75 rfl rfl <| s_iload 76 rfl rfl <| ?_
                        rcases iteS e with ⟨g_52, e⟩ | ⟨g_52, e⟩
                        · cases e
                          exact s_icmp_ge_T 77 200 rfl (by decide) g_52 <| s_fgt [true, true, true, true, true, false, true, true] rfl <| (kx_46 s_49.2 (hx_45 _ rfl))
                        · obtain ⟨q_53, e1, e⟩ := bndS e
                          have k_54 : Ev kX9_copy RX9 9 (d + 2) nox 163 [some (.ref 83), some (.int x1), some (.int x2), some (.int x3), some (.int x4), some (.int x5), some (.int (b2i q_31)), some (.int s_49.1), none] [.int q_53] s_49.2 (some (.int qv)) qh := by
                            obtain ⟨g_56, e⟩ := grdS e
                            obtain ⟨g_57, e⟩ := grdS e
                            obtain ⟨h_58, eh_58, e⟩ := bndS e
                            cases e
                            exact s_istore [some (.ref 83), some (.int x1), some (.int x2), some (.int x3), some (.int x4), some (.int x5), some (.int (b2i q_31)), some (.int s_49.1), some (.int q_53)] 87 rfl (by decide) rfl <| s_aload_n 88 rfl rfl <| s_getr 89 rfl fl_X9_44 sh_83 rfl <| s_bipush 40 90 rfl (by decide) <| s_iload_n 91 rfl rfl <| s_imul 92 rfl <| s_iload 93 rfl rfl <| s_iadd 94 rfl <| s_iload 95 rfl rfl <| s_iadd 96 rfl <| s_aload_n 97 rfl rfl <| s_getr 98 rfl fl_X9_44 sh_83 rfl <| s_bipush 40 99 rfl (by decide) <| s_iload_n 100 rfl rfl <| s_imul 101 rfl <| s_iload_n 102 rfl rfl <| s_iadd 103 rfl <| s_iload 104 rfl rfl <| s_iadd 105 rfl <| s_iald (Int32.toNatClampNeg (((40 * x1) + x2) + q_53)) 106 rfl sh_95 g_56 rfl <| s_iast (Int32.toNatClampNeg (((40 * x3) + x4) + q_53)) 107 rfl sh_95 g_57 rfl <| s_nmH (Option.some.inj eh_58) <| s_iinc 1 [some (.ref 83), some (.int x1), some (.int x2), some (.int x3), some (.int x4), some (.int x5), some (.int (b2i q_31)), some (.int (s_49.1 + 1)), some (.int q_53)] 108 rfl (by decide) rfl (by decide) rfl <| s_goto 109 139 rfl (by decide) <| s_fgt [false, false, false, false, false, false, false, false, true] rfl <| (hk_44 ((s_49.1 + 1), h_58) rfl)
                          clear e
                          have e := e1
                          clear e1
                          refine s_icmp_ge_F 77 200 rfl (by decide) g_52 <| s_iload 78 rfl rfl <| ?_
                          rcases iteS e with ⟨g_55, e⟩ | ⟨g_55, e⟩
                          · cases e
                            exact s_if_eq_F 79 161 rfl (by decide) (b2i_T g_55) <| s_iload 80 rfl rfl <| s_iconst 1 81 rfl (by decide) <| s_isub 82 rfl <| s_iload 83 rfl rfl <| s_isub 84 rfl <| s_goto 85 163 rfl (by decide) <| k_54
                          · cases e
                            exact s_if_eq_T 79 161 rfl (by decide) (b2i_F g_55) <| s_iload 86 rfl rfl <| k_54
                      clear e
                      have e := e1
                      clear e1
                      refine s_icmp_le_T 58 118 rfl (by decide) g_30 <| s_iload_n 63 rfl rfl <| s_iload_n 64 rfl rfl <| ?_
                      rcases iteS e with ⟨g_33, e⟩ | ⟨g_33, e⟩
                      · cases e
                        exact s_icmp_ne_T 65 133 rfl (by decide) g_33 <| s_iconst 0 71 rfl (by decide) <| k_32
                      · refine s_icmp_ne_F 65 133 rfl (by decide) (Decidable.not_not.mp g_33) <| s_iload_n 66 rfl rfl <| s_iload 67 rfl rfl <| ?_
                        rcases iteS e with ⟨g_34, e⟩ | ⟨g_34, e⟩
                        · cases e
                          exact s_icmp_ge_T 68 133 rfl (by decide) g_34 <| s_iconst 0 71 rfl (by decide) <| k_32
                        · cases e
                          exact s_icmp_ge_F 68 133 rfl (by decide) g_34 <| s_iconst 1 69 rfl (by decide) <| s_goto 70 134 rfl (by decide) <| k_32
                    · obtain ⟨q_59, e_60, e⟩ := bndS e
                      obtain ⟨rfl, rfl⟩ := some2 e
                      exact s_icmp_le_F 58 118 rfl (by decide) g_30 <| s_aload_n 59 rfl rfl <| s_ldc 60 rfl wc_X9_47 <| s_callV (b := 83) (ci := 9) 61 [.int (-1000001)] [] rfl ml_X9_64 yw_X9_finds sh_83 rfl rfl (okX9_finds (d + 1) _ _ q_59.1 q_59.2 e_60) rfl rfl (Nat.le_of_ble_eq_true rfl) <| s_iret 62 rfl
          · obtain ⟨q_61, e_62, e⟩ := bndS e
            obtain ⟨rfl, rfl⟩ := some2 e
            exact s_icmp_eq_F 32 70 rfl (by decide) g_15 <| s_aload_n 33 rfl rfl <| s_ldc_w 34 rfl wc_X9_276 <| s_callV (b := 83) (ci := 9) 35 [.int (-1000003)] [] rfl ml_X9_64 yw_X9_finds sh_83 rfl rfl (okX9_finds (d + 1) _ _ q_61.1 q_61.2 e_62) rfl rfl (Nat.le_of_ble_eq_true rfl) <| s_iret 36 rfl
        · obtain ⟨q_63, e_64, e⟩ := bndS e
          obtain ⟨rfl, rfl⟩ := some2 e
          exact s_if_ne_F 19 47 rfl (by decide) (Decidable.not_not.mp g_12) <| s_aload_n 20 rfl rfl <| s_ldc_w 21 rfl wc_X9_272 <| s_callV (b := 83) (ci := 9) 22 [.int (-1000006)] [] rfl ml_X9_64 yw_X9_finds sh_83 rfl rfl (okX9_finds (d + 1) _ _ q_63.1 q_63.2 e_64) rfl rfl (Nat.le_of_ble_eq_true rfl) <| s_iret 23 rfl
    · obtain ⟨q_65, e_66, e⟩ := bndS e
      obtain ⟨rfl, rfl⟩ := some2 e
      exact s_if_ne_F 5 21 rfl (by decide) (b2i_F g_6) <| s_aload_n 6 rfl rfl <| s_ldc 7 rfl wc_X9_47 <| s_callV (b := 83) (ci := 9) 8 [.int (-1000001)] [] rfl ml_X9_64 yw_X9_finds sh_83 rfl rfl (okX9_finds (d + 1) _ _ q_65.1 q_65.2 e_66) rfl rfl (Nat.le_of_ble_eq_true rfl) <| s_iret 9 rfl
  · obtain ⟨q_67, e_68, e⟩ := bndS e
    obtain ⟨rfl, rfl⟩ := some2 e
    exact s_if_eq_T 2 14 rfl (by decide) (b2i_F g_3) <| s_aload_n 6 rfl rfl <| s_ldc 7 rfl wc_X9_47 <| s_callV (b := 83) (ci := 9) 8 [.int (-1000001)] [] rfl ml_X9_64 yw_X9_finds sh_83 rfl rfl (okX9_finds (d + 1) _ _ q_67.1 q_67.2 e_68) rfl rfl (Nat.le_of_ble_eq_true rfl) <| s_iret 9 rfl
def fX8_load_b41 (t2 : Nat) (c3 : Int32) (c4 : Int32) (h : Sto) : Option ((Int32 × Int32 × Sto) ⊕ (Int32 × Sto)) :=
  if (h (53 + t2) 1) ≤ (c4 + 1) then (some (.inr (c3, h))) else (grd (inb c4 40) <| grd (inb (c4 + 1) 40) <| (fX1_has (h (57 + t2) (Int32.toNatClampNeg c4)) h).bind fun q_13 => if q_13 = true then ((fX8_isTopic (h (57 + t2) (Int32.toNatClampNeg (c4 + 1))) h).bind fun q_16 => if q_16 = true then ((fX0_isFull h).bind fun q_19 => if q_19 = true then (some (.inr (c3, h))) else ((fX0_add (h (57 + t2) (Int32.toNatClampNeg c4)) (h (57 + t2) (Int32.toNatClampNeg (c4 + 1))) h).bind fun q_22 => some (.inl ((c3 + 1), (c4 + 2), q_22.2)))) else (some (.inr (c3, h)))) else (some (.inr (c3, h))))
def fX8_load (x1 : Int32) (h : Sto) : Option (Int32 × Sto) :=
  (fX8_isSheet x1 h).bind fun q_1 => if q_1 = true then (grd (inb x1 4) <| (fX4_isMissing (Int32.toNatClampNeg x1) h).bind fun q_5 => if q_5 = true then ((fX8_tellFinding (-1000006) h).bind fun q_8 => some (q_8.1, q_8.2)) else ((lp (fun s => fX8_load_b41 (Int32.toNatClampNeg x1) s.1 s.2.1 s.2.2) FUEL (0, 0, h)).bind fun v_32 => some (v_32.1, v_32.2))) else ((fX8_tellFinding (-1000001) h).bind fun q_48 => some (q_48.1, q_48.2))
set_option maxRecDepth 100000 in
set_option maxHeartbeats 4000000 in
theorem okX8_load (d : Nat) (x1 : Int32) (h : Sto) (qv : Int32) (qh : Sto) (e : fX8_load x1 h = some (qv, qh)) : Ok yX8_load cX8_load 7 (some .int) (d + 2) [.ref 0, .int x1] h (some (.int qv)) qh := by
  refine Ok_of (lst := kX8_load) (own := RX8) ⟨by decide, rfl⟩ ckX8_load trivial (Nat.le_of_ble_eq_true rfl) ?_
  unfold fX8_load at e
  change Ev kX8_load RX8 7 (d + 2) nox 0 [some (.ref 0), some (.int x1), none, none, none, none, none] [] h (some (.int qv)) qh
  obtain ⟨q_1, e_2, e⟩ := bndS e
  refine s_iload_n 0 rfl rfl <| s_callS 1 [.int x1] [] rfl ml_X8_282 yw_X8_isSheet (okX8_isSheet d _ _ _ e_2) rfl rfl (Nat.le_of_ble_eq_true rfl) <| ?_
  rcases iteS e with ⟨g_3, e⟩ | ⟨g_3, e⟩
  · obtain ⟨g_4, e⟩ := grdS e
    obtain ⟨q_5, e_6, e⟩ := bndS e
    refine s_if_ne_T 2 14 rfl (by decide) (b2i_T g_3) <| s_aload_n 7 rfl rfl <| s_getr 8 rfl fl_X8_33 sh_0 rfl <| s_iload_n 9 rfl rfl <| s_aald3 (53 + (Int32.toNatClampNeg x1)) 10 rfl sh_52 rfl g_4 <| s_astore_n [some (.ref 0), some (.int x1), some (.ref (53 + (Int32.toNatClampNeg x1))), none, none, none, none] 11 rfl (by decide) rfl <| s_aload_n 12 rfl rfl <| s_callV (b := (53 + (Int32.toNatClampNeg x1))) (ci := 4) 13 [] [] rfl ml_X8_291 yw_X4_isMissing (shs_53 _ (inb_lt g_4)) rfl rfl (okX4_isMissing (d + 1) _ _ _ e_6) rfl rfl (Nat.le_of_ble_eq_true rfl) <| ?_
    rcases iteS e with ⟨g_7, e⟩ | ⟨g_7, e⟩
    · obtain ⟨q_8, e_9, e⟩ := bndS e
      obtain ⟨rfl, rfl⟩ := some2 e
      exact s_if_eq_F 14 36 rfl (by decide) (b2i_T g_7) <| s_aload_n 15 rfl rfl <| s_ldc_w 16 rfl wc_X8_280 <| s_callV (b := 0) (ci := 8) 17 [.int (-1000006)] [] rfl ml_X8_70 yw_X8_tellFinding sh_0 rfl rfl (okX8_tellFinding d _ _ q_8.1 q_8.2 e_9) rfl rfl (Nat.le_of_ble_eq_true rfl) <| s_iret 18 rfl
    · obtain ⟨y_24, e_25, e⟩ := bndS e
      have kx_28 : ∀ v_32 : (Int32 × Sto), v_32 = y_24 → Ev kX8_load RX8 7 (d + 2) nox 135 [none, none, none, some (.int v_32.1), none, none, none] [] v_32.2 (some (.int qv)) qh := by
        intro v_32 hy
        subst hy
        obtain ⟨rfl, rfl⟩ := some2 e
        exact s_iload_n 66 rfl rfl <| s_iret 67 rfl
      refine s_if_eq_T 14 36 rfl (by decide) (b2i_F g_7) <| s_iconst 0 19 rfl (by decide) <| s_istore_n [some (.ref 0), some (.int x1), some (.ref (53 + (Int32.toNatClampNeg x1))), some (.int 0), none, none, none] 20 rfl (by decide) rfl <| s_iconst 0 21 rfl (by decide) <| s_istore [some (.ref 0), some (.int x1), some (.ref (53 + (Int32.toNatClampNeg x1))), some (.int 0), some (.int 0), none, none] 22 rfl (by decide) rfl <| s_fgt [false, true] rfl <| lpS (P := fun (s_31 : (Int32 × Int32 × Sto)) => Ev kX8_load RX8 7 (d + 2) nox 41 [some (.ref 0), none, some (.ref (53 + (Int32.toNatClampNeg x1))), some (.int s_31.1), some (.int s_31.2.1), none, none] [] s_31.2.2 (some (.int qv)) qh) ?_ FUEL _ e_25
      intro s_31 o_30 e hk_26 hx_27
      unfold fX8_load_b41 at e
      refine s_iload 23 rfl rfl <| s_iconst 1 24 rfl (by decide) <| s_iadd 25 rfl <| s_aload_n 26 rfl rfl <| s_geti 27 rfl fl_X8_290 (shs_53 _ (inb_lt g_4)) rfl <| ?_
      rcases iteS e with ⟨g_34, e⟩ | ⟨g_34, e⟩
      · cases e
        exact s_icmp_ge_T 28 135 rfl (by decide) g_34 <| s_fgt [true, false, true, false, true] rfl <| (kx_28 (s_31.1, s_31.2.2) (hx_27 _ rfl))
      · obtain ⟨g_35, e⟩ := grdS e
        obtain ⟨g_36, e⟩ := grdS e
        obtain ⟨q_37, e_38, e⟩ := bndS e
        refine s_icmp_ge_F 28 135 rfl (by decide) g_34 <| s_aload_n 29 rfl rfl <| s_getr 30 rfl fl_X8_303 (shs_53 _ (inb_lt g_4)) rfl <| s_iload 31 rfl rfl <| s_iald (Int32.toNatClampNeg s_31.2.1) 32 rfl (srw_57 _ (inb_lt g_4)) g_35 rfl <| s_istore [some (.ref 0), none, some (.ref (53 + (Int32.toNatClampNeg x1))), some (.int s_31.1), some (.int s_31.2.1), some (.int (s_31.2.2 (57 + (Int32.toNatClampNeg x1)) (Int32.toNatClampNeg s_31.2.1))), none] 33 rfl (by decide) rfl <| s_aload_n 34 rfl rfl <| s_getr 35 rfl fl_X8_303 (shs_53 _ (inb_lt g_4)) rfl <| s_iload 36 rfl rfl <| s_iconst 1 37 rfl (by decide) <| s_iadd 38 rfl <| s_iald (Int32.toNatClampNeg (s_31.2.1 + 1)) 39 rfl (srw_57 _ (inb_lt g_4)) g_36 rfl <| s_istore [some (.ref 0), none, some (.ref (53 + (Int32.toNatClampNeg x1))), some (.int s_31.1), some (.int s_31.2.1), some (.int (s_31.2.2 (57 + (Int32.toNatClampNeg x1)) (Int32.toNatClampNeg s_31.2.1))), some (.int (s_31.2.2 (57 + (Int32.toNatClampNeg x1)) (Int32.toNatClampNeg (s_31.2.1 + 1))))] 40 rfl (by decide) rfl <| s_aload_n 41 rfl rfl <| s_getr 42 rfl fl_X8_12 sh_0 rfl <| s_getr 43 rfl fl_X8_74 sh_1 rfl <| s_iload 44 rfl rfl <| s_callV (b := 2) (ci := 1) 45 [.int (s_31.2.2 (57 + (Int32.toNatClampNeg x1)) (Int32.toNatClampNeg s_31.2.1))] [] rfl ml_X8_88 yw_X1_has sh_2 rfl rfl (okX1_has d _ _ _ e_38) rfl rfl (Nat.le_of_ble_eq_true rfl) <| ?_
        rcases iteS e with ⟨g_39, e⟩ | ⟨g_39, e⟩
        · obtain ⟨q_40, e_41, e⟩ := bndS e
          refine s_if_eq_F 46 135 rfl (by decide) (b2i_T g_39) <| s_iload 47 rfl rfl <| s_callS 48 [.int (s_31.2.2 (57 + (Int32.toNatClampNeg x1)) (Int32.toNatClampNeg (s_31.2.1 + 1)))] [] rfl ml_X8_147 yw_X8_isTopic (okX8_isTopic d _ _ _ e_41) rfl rfl (Nat.le_of_ble_eq_true rfl) <| ?_
          rcases iteS e with ⟨g_42, e⟩ | ⟨g_42, e⟩
          · obtain ⟨q_43, e_44, e⟩ := bndS e
            refine s_if_eq_F 49 135 rfl (by decide) (b2i_T g_42) <| s_aload_n 50 rfl rfl <| s_getr 51 rfl fl_X8_12 sh_0 rfl <| s_getr 52 rfl fl_X8_134 sh_1 rfl <| s_callV (b := 10) (ci := 0) 53 [] [] rfl ml_X8_150 yw_X0_isFull sh_10 rfl rfl (okX0_isFull (d + 1) _ _ e_44) rfl rfl (Nat.le_of_ble_eq_true rfl) <| ?_
            rcases iteS e with ⟨g_45, e⟩ | ⟨g_45, e⟩
            · cases e
              exact s_if_eq_F 54 111 rfl (by decide) (b2i_T g_45) <| s_goto 55 135 rfl (by decide) <| s_fgt [true, false, true, false, true, true, true] rfl <| (kx_28 (s_31.1, s_31.2.2) (hx_27 _ rfl))
            · obtain ⟨q_46, e_47, e⟩ := bndS e
              cases e
              exact s_if_eq_T 54 111 rfl (by decide) (b2i_F g_45) <| s_aload_n 56 rfl rfl <| s_getr 57 rfl fl_X8_12 sh_0 rfl <| s_getr 58 rfl fl_X8_134 sh_1 rfl <| s_iload 59 rfl rfl <| s_iload 60 rfl rfl <| s_callV (b := 10) (ci := 0) 61 [.int (s_31.2.2 (57 + (Int32.toNatClampNeg x1)) (Int32.toNatClampNeg s_31.2.1)), .int (s_31.2.2 (57 + (Int32.toNatClampNeg x1)) (Int32.toNatClampNeg (s_31.2.1 + 1)))] [] rfl ml_X8_154 yw_X0_add sh_10 rfl rfl (okX0_add d _ _ _ q_46.1 q_46.2 e_47) rfl rfl (Nat.le_of_ble_eq_true rfl) <| s_pop 62 rfl rfl <| s_iinc 1 [some (.ref 0), none, some (.ref (53 + (Int32.toNatClampNeg x1))), some (.int (s_31.1 + 1)), some (.int s_31.2.1), some (.int (s_31.2.2 (57 + (Int32.toNatClampNeg x1)) (Int32.toNatClampNeg s_31.2.1))), some (.int (s_31.2.2 (57 + (Int32.toNatClampNeg x1)) (Int32.toNatClampNeg (s_31.2.1 + 1))))] 63 rfl (by decide) rfl (by decide) rfl <| s_iinc 2 [some (.ref 0), none, some (.ref (53 + (Int32.toNatClampNeg x1))), some (.int (s_31.1 + 1)), some (.int (s_31.2.1 + 2)), some (.int (s_31.2.2 (57 + (Int32.toNatClampNeg x1)) (Int32.toNatClampNeg s_31.2.1))), some (.int (s_31.2.2 (57 + (Int32.toNatClampNeg x1)) (Int32.toNatClampNeg (s_31.2.1 + 1))))] 64 rfl (by decide) rfl (by decide) rfl <| s_goto 65 41 rfl (by decide) <| s_fgt [false, false, false, false, false, true, true] rfl <| (hk_26 ((s_31.1 + 1), (s_31.2.1 + 2), q_46.2) rfl)
          · cases e
            exact s_if_eq_T 49 135 rfl (by decide) (b2i_F g_42) <| s_fgt [true, false, true, false, true, true, true] rfl <| (kx_28 (s_31.1, s_31.2.2) (hx_27 _ rfl))
        · cases e
          exact s_if_eq_T 46 135 rfl (by decide) (b2i_F g_39) <| s_fgt [true, false, true, false, true, true, true] rfl <| (kx_28 (s_31.1, s_31.2.2) (hx_27 _ rfl))
  · obtain ⟨q_48, e_49, e⟩ := bndS e
    obtain ⟨rfl, rfl⟩ := some2 e
    exact s_if_ne_F 2 14 rfl (by decide) (b2i_F g_3) <| s_aload_n 3 rfl rfl <| s_ldc 4 rfl wc_X8_69 <| s_callV (b := 0) (ci := 8) 5 [.int (-1000001)] [] rfl ml_X8_70 yw_X8_tellFinding sh_0 rfl rfl (okX8_tellFinding d _ _ q_48.1 q_48.2 e_49) rfl rfl (Nat.le_of_ble_eq_true rfl) <| s_iret 6 rfl
def fX9_load_b35 (x1 : Int32) (c2 : Int32) (c3 : Int32) (h : Sto) : Option ((Int32 × Int32 × Sto) ⊕ ((Int32 × Sto) ⊕ (Int32 × Sto))) :=
  grd (inb x1 4) <| if (h 94 (Int32.toNatClampNeg x1)) ≤ (c3 + 1) then (some (.inr (.inl (c2, h)))) else (grd (inb ((40 * x1) + c3) 160) <| grd (inb (((40 * x1) + c3) + 1) 160) <| (some (h 95 (Int32.toNatClampNeg (((40 * x1) + c3) + 1)))).bind fun y_10 => (fX9_isName (h 95 (Int32.toNatClampNeg ((40 * x1) + c3))) h).bind fun q_11 => if q_11 = true then ((fX9_isTopic y_10 h).bind fun q_14 => if q_14 = true then ((fX9_isSaid (h 95 (Int32.toNatClampNeg ((40 * x1) + c3))) y_10 h).bind fun q_17 => if q_17.1 = true then (some (.inl ((c2 + 1), (c3 + 2), q_17.2))) else (some (.inr (.inr (c2, q_17.2))))) else (some (.inr (.inr (c2, h))))) else (some (.inr (.inr (c2, h)))))
def fX9_load (x1 : Int32) (h : Sto) : Option (Int32 × Sto) :=
  (fX9_isSheet x1 h).bind fun q_1 => if q_1 = true then (grd (inb x1 4) <| if ¬ (h 93 (Int32.toNatClampNeg x1)) = 0 then ((lp (fun s => fX9_load_b35 x1 s.1 s.2.1 s.2.2) FUEL (0, 0, h)).bind fun y_20 => Sum.elim (fun v_28 => some (v_28.1, v_28.2)) (fun z_29 => some z_29) y_20) else ((fX9_finds (-1000006) h).bind fun q_44 => some (q_44.1, q_44.2))) else ((fX9_finds (-1000001) h).bind fun q_46 => some (q_46.1, q_46.2))
set_option maxRecDepth 100000 in
set_option maxHeartbeats 4000000 in
theorem okX9_load (d : Nat) (x1 : Int32) (h : Sto) (qv : Int32) (qh : Sto) (e : fX9_load x1 h = some (qv, qh)) : Ok yX9_load cX9_load 6 (some .int) (d + 2) [.ref 83, .int x1] h (some (.int qv)) qh := by
  refine Ok_of (lst := kX9_load) (own := RX9) ⟨by decide, rfl⟩ ckX9_load trivial (Nat.le_of_ble_eq_true rfl) ?_
  unfold fX9_load at e
  change Ev kX9_load RX9 6 (d + 2) nox 0 [some (.ref 83), some (.int x1), none, none, none, none] [] h (some (.int qv)) qh
  obtain ⟨q_1, e_2, e⟩ := bndS e
  refine s_iload_n 0 rfl rfl <| s_callS 1 [.int x1] [] rfl ml_X9_277 yw_X9_isSheet (okX9_isSheet d _ _ _ e_2) rfl rfl (Nat.le_of_ble_eq_true rfl) <| ?_
  rcases iteS e with ⟨g_3, e⟩ | ⟨g_3, e⟩
  · obtain ⟨g_4, e⟩ := grdS e
    refine s_if_ne_T 2 14 rfl (by decide) (b2i_T g_3) <| s_aload_n 7 rfl rfl <| s_getr 8 rfl fl_X9_38 sh_83 rfl <| s_iload_n 9 rfl rfl <| s_iald (Int32.toNatClampNeg x1) 10 rfl sh_93 g_4 rfl <| ?_
    rcases iteS e with ⟨g_5, e⟩ | ⟨g_5, e⟩
    · obtain ⟨y_20, e_21, e⟩ := bndS e
      have kx_24 : ∀ v_28 : (Int32 × Sto), .inl v_28 = y_20 → Ev kX9_load RX9 6 (d + 2) nox 114 [none, none, some (.int v_28.1), none, none, none] [] v_28.2 (some (.int qv)) qh := by
        intro v_28 hy
        subst hy
        have e := elL e
        obtain ⟨rfl, rfl⟩ := some2 e
        exact s_iload_n 65 rfl rfl <| s_iret 66 rfl
      have kz_25 : ∀ z_29 : (Int32 × Sto), .inr z_29 = y_20 → z_29 = (qv, qh) := by
        intro z_29 hy
        subst hy
        have e := elR e
        exact Option.some.inj e
      refine s_if_ne_T 11 31 rfl (by decide) g_5 <| s_iconst 0 16 rfl (by decide) <| s_istore_n [some (.ref 83), some (.int x1), some (.int 0), none, none, none] 17 rfl (by decide) rfl <| s_iconst 0 18 rfl (by decide) <| s_istore_n [some (.ref 83), some (.int x1), some (.int 0), some (.int 0), none, none] 19 rfl (by decide) rfl <| lpS (P := fun (s_27 : (Int32 × Int32 × Sto)) => Ev kX9_load RX9 6 (d + 2) nox 35 [some (.ref 83), some (.int x1), some (.int s_27.1), some (.int s_27.2.1), none, none] [] s_27.2.2 (some (.int qv)) qh) ?_ FUEL _ e_21
      intro s_27 o_26 e hk_22 hx_23
      unfold fX9_load_b35 at e
      obtain ⟨g_30, e⟩ := grdS e
      refine s_iload_n 20 rfl rfl <| s_iconst 1 21 rfl (by decide) <| s_iadd 22 rfl <| s_aload_n 23 rfl rfl <| s_getr 24 rfl fl_X9_41 sh_83 rfl <| s_iload_n 25 rfl rfl <| s_iald (Int32.toNatClampNeg x1) 26 rfl sh_94 g_30 rfl <| ?_
      rcases iteS e with ⟨g_31, e⟩ | ⟨g_31, e⟩
      · cases e
        exact s_icmp_ge_T 27 114 rfl (by decide) g_31 <| s_fgt [true, true, false, true] rfl <| (kx_24 (s_27.1, s_27.2.2) (hx_23 _ rfl))
      · obtain ⟨g_32, e⟩ := grdS e
        obtain ⟨g_33, e⟩ := grdS e
        obtain ⟨y_34, ey_34, e⟩ := bndS e
        obtain ⟨q_35, e_36, e⟩ := bndS e
        refine s_icmp_ge_F 27 114 rfl (by decide) g_31 <| s_aload_n 28 rfl rfl <| s_getr 29 rfl fl_X9_44 sh_83 rfl <| s_bipush 40 30 rfl (by decide) <| s_iload_n 31 rfl rfl <| s_imul 32 rfl <| s_iload_n 33 rfl rfl <| s_iadd 34 rfl <| s_iald (Int32.toNatClampNeg ((40 * x1) + s_27.2.1)) 35 rfl sh_95 g_32 rfl <| s_istore [some (.ref 83), some (.int x1), some (.int s_27.1), some (.int s_27.2.1), some (.int (s_27.2.2 95 (Int32.toNatClampNeg ((40 * x1) + s_27.2.1)))), none] 36 rfl (by decide) rfl <| s_aload_n 37 rfl rfl <| s_getr 38 rfl fl_X9_44 sh_83 rfl <| s_bipush 40 39 rfl (by decide) <| s_iload_n 40 rfl rfl <| s_imul 41 rfl <| s_iload_n 42 rfl rfl <| s_iadd 43 rfl <| s_iconst 1 44 rfl (by decide) <| s_iadd 45 rfl <| s_iald (Int32.toNatClampNeg (((40 * x1) + s_27.2.1) + 1)) 46 rfl sh_95 g_33 rfl <| s_nmI (Option.some.inj ey_34) <| s_istore [some (.ref 83), some (.int x1), some (.int s_27.1), some (.int s_27.2.1), some (.int (s_27.2.2 95 (Int32.toNatClampNeg ((40 * x1) + s_27.2.1)))), some (.int y_34)] 47 rfl (by decide) rfl <| s_aload_n 48 rfl rfl <| s_iload 49 rfl rfl <| s_callV (b := 83) (ci := 9) 50 [.int (s_27.2.2 95 (Int32.toNatClampNeg ((40 * x1) + s_27.2.1)))] [] rfl ml_X9_73 yw_X9_isName sh_83 rfl rfl (okX9_isName d _ _ _ e_36) rfl rfl (Nat.le_of_ble_eq_true rfl) <| ?_
        rcases iteS e with ⟨g_37, e⟩ | ⟨g_37, e⟩
        · obtain ⟨q_38, e_39, e⟩ := bndS e
          refine s_if_eq_F 51 103 rfl (by decide) (b2i_T g_37) <| s_iload 52 rfl rfl <| s_callS 53 [.int y_34] [] rfl ml_X9_84 yw_X9_isTopic (okX9_isTopic d _ _ _ e_39) rfl rfl (Nat.le_of_ble_eq_true rfl) <| ?_
          rcases iteS e with ⟨g_40, e⟩ | ⟨g_40, e⟩
          · obtain ⟨q_41, e_42, e⟩ := bndS e
            refine s_if_eq_F 54 103 rfl (by decide) (b2i_T g_40) <| s_aload_n 55 rfl rfl <| s_iload 56 rfl rfl <| s_iload 57 rfl rfl <| s_callV (b := 83) (ci := 9) 58 [.int (s_27.2.2 95 (Int32.toNatClampNeg ((40 * x1) + s_27.2.1))), .int y_34] [] rfl ml_X9_130 yw_X9_isSaid sh_83 rfl rfl (okX9_isSaid (d + 1) _ _ _ q_41.1 q_41.2 e_42) rfl rfl (Nat.le_of_ble_eq_true rfl) <| ?_
            rcases iteS e with ⟨g_43, e⟩ | ⟨g_43, e⟩
            · cases e
              exact s_if_ne_T 59 105 rfl (by decide) (b2i_T g_43) <| s_iinc 1 [some (.ref 83), some (.int x1), some (.int (s_27.1 + 1)), some (.int s_27.2.1), some (.int (s_27.2.2 95 (Int32.toNatClampNeg ((40 * x1) + s_27.2.1)))), some (.int y_34)] 62 rfl (by decide) rfl (by decide) rfl <| s_iinc 2 [some (.ref 83), some (.int x1), some (.int (s_27.1 + 1)), some (.int (s_27.2.1 + 2)), some (.int (s_27.2.2 95 (Int32.toNatClampNeg ((40 * x1) + s_27.2.1)))), some (.int y_34)] 63 rfl (by decide) rfl (by decide) rfl <| s_goto 64 35 rfl (by decide) <| s_fgt [false, false, false, false, true, true] rfl <| (hk_22 ((s_27.1 + 1), (s_27.2.1 + 2), q_41.2) rfl)
            · cases e
              have z0 := kz_25 _ (hx_23 _ rfl)
              obtain ⟨rfl, rfl⟩ := prod2 z0
              exact s_if_ne_F 59 105 rfl (by decide) (b2i_F g_43) <| s_iload_n 60 rfl rfl <| s_iret 61 rfl
          · cases e
            have z0 := kz_25 _ (hx_23 _ rfl)
            obtain ⟨rfl, rfl⟩ := prod2 z0
            exact s_if_eq_T 54 103 rfl (by decide) (b2i_F g_40) <| s_iload_n 60 rfl rfl <| s_iret 61 rfl
        · cases e
          have z0 := kz_25 _ (hx_23 _ rfl)
          obtain ⟨rfl, rfl⟩ := prod2 z0
          exact s_if_eq_T 51 103 rfl (by decide) (b2i_F g_37) <| s_iload_n 60 rfl rfl <| s_iret 61 rfl
    · obtain ⟨q_44, e_45, e⟩ := bndS e
      obtain ⟨rfl, rfl⟩ := some2 e
      exact s_if_ne_F 11 31 rfl (by decide) (Decidable.not_not.mp g_5) <| s_aload_n 12 rfl rfl <| s_ldc_w 13 rfl wc_X9_272 <| s_callV (b := 83) (ci := 9) 14 [.int (-1000006)] [] rfl ml_X9_64 yw_X9_finds sh_83 rfl rfl (okX9_finds (d + 1) _ _ q_44.1 q_44.2 e_45) rfl rfl (Nat.le_of_ble_eq_true rfl) <| s_iret 15 rfl
  · obtain ⟨q_46, e_47, e⟩ := bndS e
    obtain ⟨rfl, rfl⟩ := some2 e
    exact s_if_ne_F 2 14 rfl (by decide) (b2i_F g_3) <| s_aload_n 3 rfl rfl <| s_ldc 4 rfl wc_X9_47 <| s_callV (b := 83) (ci := 9) 5 [.int (-1000001)] [] rfl ml_X9_64 yw_X9_finds sh_83 rfl rfl (okX9_finds (d + 1) _ _ q_46.1 q_46.2 e_47) rfl rfl (Nat.le_of_ble_eq_true rfl) <| s_iret 6 rfl
def fX8_judge_b60 (t2 : Nat) (x4 : Int32) (h : Sto) (c5 : Int32) : Option (Int32 ⊕ Int32) :=
  if x4 ≤ c5 then (some (.inr c5)) else (grd (inb c5 40) <| grd (inb c5 200) <| if ¬ (h (57 + t2) (Int32.toNatClampNeg c5)) = (h 12 (Int32.toNatClampNeg c5)) then (some (.inr c5)) else (some (.inl (c5 + 1))))
def fX8_judge (x1 : Int32) (h : Sto) : Option (Int32 × Sto) :=
  (fX8_isSheet x1 h).bind fun q_1 => if q_1 = true then (grd (inb x1 4) <| (fX4_isMissing (Int32.toNatClampNeg x1) h).bind fun q_5 => if q_5 = true then ((fX8_tellFinding (-1000006) h).bind fun q_8 => some (q_8.1, q_8.2)) else ((lp (fun s => fX8_judge_b60 (Int32.toNatClampNeg x1) (jmin (h (53 + (Int32.toNatClampNeg x1)) 1) (h 10 1)) h s) FUEL 0).bind fun v_22 => (if ¬ v_22 = (h (53 + (Int32.toNatClampNeg x1)) 1) then (some false) else (if ¬ v_22 = (h 10 1) then (some false) else (some true))).bind fun q_24 => if q_24 = true then (some (0, h)) else (some ((v_22 + 1), h)))) else ((fX8_tellFinding (-1000001) h).bind fun q_33 => some (q_33.1, q_33.2))
set_option maxRecDepth 100000 in
set_option maxHeartbeats 4000000 in
theorem okX8_judge (d : Nat) (x1 : Int32) (h : Sto) (qv : Int32) (qh : Sto) (e : fX8_judge x1 h = some (qv, qh)) : Ok yX8_judge cX8_judge 7 (some .int) (d + 2) [.ref 0, .int x1] h (some (.int qv)) qh := by
  refine Ok_of (lst := kX8_judge) (own := RX8) ⟨by decide, rfl⟩ ckX8_judge trivial (Nat.le_of_ble_eq_true rfl) ?_
  unfold fX8_judge at e
  change Ev kX8_judge RX8 7 (d + 2) nox 0 [some (.ref 0), some (.int x1), none, none, none, none, none] [] h (some (.int qv)) qh
  obtain ⟨q_1, e_2, e⟩ := bndS e
  refine s_iload_n 0 rfl rfl <| s_callS 1 [.int x1] [] rfl ml_X8_282 yw_X8_isSheet (okX8_isSheet d _ _ _ e_2) rfl rfl (Nat.le_of_ble_eq_true rfl) <| ?_
  rcases iteS e with ⟨g_3, e⟩ | ⟨g_3, e⟩
  · obtain ⟨g_4, e⟩ := grdS e
    obtain ⟨q_5, e_6, e⟩ := bndS e
    refine s_if_ne_T 2 14 rfl (by decide) (b2i_T g_3) <| s_aload_n 7 rfl rfl <| s_getr 8 rfl fl_X8_33 sh_0 rfl <| s_iload_n 9 rfl rfl <| s_aald3 (53 + (Int32.toNatClampNeg x1)) 10 rfl sh_52 rfl g_4 <| s_astore_n [some (.ref 0), some (.int x1), some (.ref (53 + (Int32.toNatClampNeg x1))), none, none, none, none] 11 rfl (by decide) rfl <| s_aload_n 12 rfl rfl <| s_callV (b := (53 + (Int32.toNatClampNeg x1))) (ci := 4) 13 [] [] rfl ml_X8_291 yw_X4_isMissing (shs_53 _ (inb_lt g_4)) rfl rfl (okX4_isMissing (d + 1) _ _ _ e_6) rfl rfl (Nat.le_of_ble_eq_true rfl) <| ?_
    rcases iteS e with ⟨g_7, e⟩ | ⟨g_7, e⟩
    · obtain ⟨q_8, e_9, e⟩ := bndS e
      obtain ⟨rfl, rfl⟩ := some2 e
      exact s_if_eq_F 14 36 rfl (by decide) (b2i_T g_7) <| s_aload_n 15 rfl rfl <| s_ldc_w 16 rfl wc_X8_280 <| s_callV (b := 0) (ci := 8) 17 [.int (-1000006)] [] rfl ml_X8_70 yw_X8_tellFinding sh_0 rfl rfl (okX8_tellFinding d _ _ q_8.1 q_8.2 e_9) rfl rfl (Nat.le_of_ble_eq_true rfl) <| s_iret 18 rfl
    · obtain ⟨y_14, e_15, e⟩ := bndS e
      have kx_18 : ∀ v_22 : Int32, v_22 = y_14 → Ev kX8_judge RX8 7 (d + 2) nox 90 [none, none, some (.ref (53 + (Int32.toNatClampNeg x1))), some (.ref 10), none, some (.int v_22), none] [] h (some (.int qv)) qh := by
        intro v_22 hy
        subst hy
        obtain ⟨q_24, e1, e⟩ := bndS e
        have k_25 : Ev kX8_judge RX8 7 (d + 2) nox 113 [none, none, none, none, none, some (.int v_22), none] [.int (b2i q_24)] h (some (.int qv)) qh := by
          refine s_istore [none, none, none, none, none, some (.int v_22), some (.int (b2i q_24))] 56 rfl (by decide) rfl <| s_iload 57 rfl rfl <| ?_
          rcases iteS e with ⟨g_28, e⟩ | ⟨g_28, e⟩
          · obtain ⟨rfl, rfl⟩ := some2 e
            exact s_if_eq_F 58 124 rfl (by decide) (b2i_T g_28) <| s_iconst 0 59 rfl (by decide) <| s_goto 60 128 rfl (by decide) <| s_iret 64 rfl
          · obtain ⟨rfl, rfl⟩ := some2 e
            exact s_if_eq_T 58 124 rfl (by decide) (b2i_F g_28) <| s_iload 61 rfl rfl <| s_iconst 1 62 rfl (by decide) <| s_iadd 63 rfl <| s_iret 64 rfl
        clear e
        have e := e1
        clear e1
        refine s_iload 45 rfl rfl <| s_aload_n 46 rfl rfl <| s_geti 47 rfl fl_X8_290 (shs_53 _ (inb_lt g_4)) rfl <| ?_
        rcases iteS e with ⟨g_26, e⟩ | ⟨g_26, e⟩
        · cases e
          exact s_icmp_ne_T 48 112 rfl (by decide) g_26 <| s_iconst 0 55 rfl (by decide) <| s_fgt [false, false, true, true] rfl <| k_25
        · refine s_icmp_ne_F 48 112 rfl (by decide) (Decidable.not_not.mp g_26) <| s_iload 49 rfl rfl <| s_aload_n 50 rfl rfl <| s_geti 51 rfl fl_X8_312 sh_10 rfl <| ?_
          rcases iteS e with ⟨g_27, e⟩ | ⟨g_27, e⟩
          · cases e
            exact s_icmp_ne_T 52 112 rfl (by decide) g_27 <| s_iconst 0 55 rfl (by decide) <| s_fgt [false, false, true, true] rfl <| k_25
          · cases e
            exact s_icmp_ne_F 52 112 rfl (by decide) (Decidable.not_not.mp g_27) <| s_iconst 1 53 rfl (by decide) <| s_goto 54 113 rfl (by decide) <| s_fgt [false, false, true, true] rfl <| k_25
      refine s_if_eq_T 14 36 rfl (by decide) (b2i_F g_7) <| s_aload_n 19 rfl rfl <| s_getr 20 rfl fl_X8_12 sh_0 rfl <| s_getr 21 rfl fl_X8_134 sh_1 rfl <| s_astore_n [some (.ref 0), some (.int x1), some (.ref (53 + (Int32.toNatClampNeg x1))), some (.ref 10), none, none, none] 22 rfl (by decide) rfl <| s_aload_n 23 rfl rfl <| s_geti 24 rfl fl_X8_290 (shs_53 _ (inb_lt g_4)) rfl <| s_aload_n 25 rfl rfl <| s_geti 26 rfl fl_X8_312 sh_10 rfl <| s_min 27 rfl ml_X8_128 wMin (Nat.le_of_ble_eq_true rfl) <| s_istore [some (.ref 0), some (.int x1), some (.ref (53 + (Int32.toNatClampNeg x1))), some (.ref 10), some (.int (jmin (h (53 + (Int32.toNatClampNeg x1)) 1) (h 10 1))), none, none] 28 rfl (by decide) rfl <| s_iconst 0 29 rfl (by decide) <| s_istore [some (.ref 0), some (.int x1), some (.ref (53 + (Int32.toNatClampNeg x1))), some (.ref 10), some (.int (jmin (h (53 + (Int32.toNatClampNeg x1)) 1) (h 10 1))), some (.int 0), none] 30 rfl (by decide) rfl <| s_fgt [true, true] rfl <| lpS (P := fun (s_21 : Int32) => Ev kX8_judge RX8 7 (d + 2) nox 60 [none, none, some (.ref (53 + (Int32.toNatClampNeg x1))), some (.ref 10), some (.int (jmin (h (53 + (Int32.toNatClampNeg x1)) 1) (h 10 1))), some (.int s_21), none] [] h (some (.int qv)) qh) ?_ FUEL _ e_15
      intro s_21 o_20 e hk_16 hx_17
      unfold fX8_judge_b60 at e
      refine s_iload 31 rfl rfl <| s_iload 32 rfl rfl <| ?_
      rcases iteS e with ⟨g_29, e⟩ | ⟨g_29, e⟩
      · cases e
        exact s_icmp_ge_T 33 90 rfl (by decide) g_29 <| s_fgt [false, false, false, false, true] rfl <| (kx_18 s_21 (hx_17 _ rfl))
      · obtain ⟨g_30, e⟩ := grdS e
        obtain ⟨g_31, e⟩ := grdS e
        refine s_icmp_ge_F 33 90 rfl (by decide) g_29 <| s_aload_n 34 rfl rfl <| s_getr 35 rfl fl_X8_303 (shs_53 _ (inb_lt g_4)) rfl <| s_iload 36 rfl rfl <| s_iald (Int32.toNatClampNeg s_21) 37 rfl (srw_57 _ (inb_lt g_4)) g_30 rfl <| s_aload_n 38 rfl rfl <| s_getr 39 rfl fl_X8_159 sh_10 rfl <| s_iload 40 rfl rfl <| s_iald (Int32.toNatClampNeg s_21) 41 rfl sh_12 g_31 rfl <| ?_
        rcases iteS e with ⟨g_32, e⟩ | ⟨g_32, e⟩
        · cases e
          exact s_icmp_ne_T 42 90 rfl (by decide) g_32 <| s_fgt [false, false, false, false, true] rfl <| (kx_18 s_21 (hx_17 _ rfl))
        · cases e
          exact s_icmp_ne_F 42 90 rfl (by decide) (Decidable.not_not.mp g_32) <| s_iinc 1 [none, none, some (.ref (53 + (Int32.toNatClampNeg x1))), some (.ref 10), some (.int (jmin (h (53 + (Int32.toNatClampNeg x1)) 1) (h 10 1))), some (.int (s_21 + 1)), none] 43 rfl (by decide) rfl (by decide) rfl <| s_goto 44 60 rfl (by decide) <| (hk_16 (s_21 + 1) rfl)
  · obtain ⟨q_33, e_34, e⟩ := bndS e
    obtain ⟨rfl, rfl⟩ := some2 e
    exact s_if_ne_F 2 14 rfl (by decide) (b2i_F g_3) <| s_aload_n 3 rfl rfl <| s_ldc 4 rfl wc_X8_69 <| s_callV (b := 0) (ci := 8) 5 [.int (-1000001)] [] rfl ml_X8_70 yw_X8_tellFinding sh_0 rfl rfl (okX8_tellFinding d _ _ q_33.1 q_33.2 e_34) rfl rfl (Nat.le_of_ble_eq_true rfl) <| s_iret 6 rfl
def fX9_judge_b33 (x1 : Int32) (h : Sto) (c2 : Int32) : Option (Int32 ⊕ Int32) :=
  grd (inb x1 4) <| if (h 94 (Int32.toNatClampNeg x1)) ≤ c2 then (some (.inr c2)) else (if (h 84 2) ≤ c2 then (some (.inr c2)) else (grd (inb ((40 * x1) + c2) 160) <| (fX9_word c2 1 h).bind fun q_10 => if ¬ (h 95 (Int32.toNatClampNeg ((40 * x1) + c2))) = q_10 then (some (.inr c2)) else (some (.inl (c2 + 1)))))
def fX9_judge (x1 : Int32) (h : Sto) : Option (Int32 × Sto) :=
  (fX9_isSheet x1 h).bind fun q_1 => if q_1 = true then (grd (inb x1 4) <| if ¬ (h 93 (Int32.toNatClampNeg x1)) = 0 then ((lp (fun s => fX9_judge_b33 x1 h s) FUEL 0).bind fun v_21 => grd (inb x1 4) <| if ¬ v_21 = (h 94 (Int32.toNatClampNeg x1)) then (some ((1 + v_21), h)) else (if ¬ v_21 = (h 84 2) then (some ((1 + v_21), h)) else (some (0, h)))) else ((fX9_finds (-1000006) h).bind fun q_33 => some (q_33.1, q_33.2))) else ((fX9_finds (-1000001) h).bind fun q_35 => some (q_35.1, q_35.2))
set_option maxRecDepth 100000 in
set_option maxHeartbeats 4000000 in
theorem okX9_judge (d : Nat) (x1 : Int32) (h : Sto) (qv : Int32) (qh : Sto) (e : fX9_judge x1 h = some (qv, qh)) : Ok yX9_judge cX9_judge 3 (some .int) (d + 2) [.ref 83, .int x1] h (some (.int qv)) qh := by
  refine Ok_of (lst := kX9_judge) (own := RX9) ⟨by decide, rfl⟩ ckX9_judge trivial (Nat.le_of_ble_eq_true rfl) ?_
  unfold fX9_judge at e
  change Ev kX9_judge RX9 3 (d + 2) nox 0 [some (.ref 83), some (.int x1), none] [] h (some (.int qv)) qh
  obtain ⟨q_1, e_2, e⟩ := bndS e
  refine s_iload_n 0 rfl rfl <| s_callS 1 [.int x1] [] rfl ml_X9_277 yw_X9_isSheet (okX9_isSheet d _ _ _ e_2) rfl rfl (Nat.le_of_ble_eq_true rfl) <| ?_
  rcases iteS e with ⟨g_3, e⟩ | ⟨g_3, e⟩
  · obtain ⟨g_4, e⟩ := grdS e
    refine s_if_ne_T 2 14 rfl (by decide) (b2i_T g_3) <| s_aload_n 7 rfl rfl <| s_getr 8 rfl fl_X9_38 sh_83 rfl <| s_iload_n 9 rfl rfl <| s_iald (Int32.toNatClampNeg x1) 10 rfl sh_93 g_4 rfl <| ?_
    rcases iteS e with ⟨g_5, e⟩ | ⟨g_5, e⟩
    · obtain ⟨y_13, e_14, e⟩ := bndS e
      have kx_17 : ∀ v_21 : Int32, v_21 = y_13 → Ev kX9_judge RX9 3 (d + 2) nox 79 [some (.ref 83), some (.int x1), some (.int v_21)] [] h (some (.int qv)) qh := by
        intro v_21 hy
        subst hy
        obtain ⟨g_23, e⟩ := grdS e
        refine s_iload_n 45 rfl rfl <| s_aload_n 46 rfl rfl <| s_getr 47 rfl fl_X9_41 sh_83 rfl <| s_iload_n 48 rfl rfl <| s_iald (Int32.toNatClampNeg x1) 49 rfl sh_94 g_23 rfl <| ?_
        rcases iteS e with ⟨g_24, e⟩ | ⟨g_24, e⟩
        · obtain ⟨rfl, rfl⟩ := some2 e
          exact s_icmp_ne_T 50 103 rfl (by decide) g_24 <| s_iconst 1 59 rfl (by decide) <| s_iload_n 60 rfl rfl <| s_iadd 61 rfl <| s_iret 62 rfl
        · refine s_icmp_ne_F 50 103 rfl (by decide) (Decidable.not_not.mp g_24) <| s_iload_n 51 rfl rfl <| s_aload_n 52 rfl rfl <| s_getr 53 rfl fl_X9_9 sh_83 rfl <| s_iconst 2 54 rfl (by decide) <| s_iald 2 55 rfl sh_84 (by decide) (by decide) <| ?_
          rcases iteS e with ⟨g_25, e⟩ | ⟨g_25, e⟩
          · obtain ⟨rfl, rfl⟩ := some2 e
            exact s_icmp_ne_T 56 103 rfl (by decide) g_25 <| s_iconst 1 59 rfl (by decide) <| s_iload_n 60 rfl rfl <| s_iadd 61 rfl <| s_iret 62 rfl
          · obtain ⟨rfl, rfl⟩ := some2 e
            exact s_icmp_ne_F 56 103 rfl (by decide) (Decidable.not_not.mp g_25) <| s_iconst 0 57 rfl (by decide) <| s_goto 58 106 rfl (by decide) <| s_iret 62 rfl
      refine s_if_ne_T 11 31 rfl (by decide) g_5 <| s_iconst 0 16 rfl (by decide) <| s_istore_n [some (.ref 83), some (.int x1), some (.int 0)] 17 rfl (by decide) rfl <| lpS (P := fun (s_20 : Int32) => Ev kX9_judge RX9 3 (d + 2) nox 33 [some (.ref 83), some (.int x1), some (.int s_20)] [] h (some (.int qv)) qh) ?_ FUEL _ e_14
      intro s_20 o_19 e hk_15 hx_16
      unfold fX9_judge_b33 at e
      obtain ⟨g_26, e⟩ := grdS e
      refine s_iload_n 18 rfl rfl <| s_aload_n 19 rfl rfl <| s_getr 20 rfl fl_X9_41 sh_83 rfl <| s_iload_n 21 rfl rfl <| s_iald (Int32.toNatClampNeg x1) 22 rfl sh_94 g_26 rfl <| ?_
      rcases iteS e with ⟨g_27, e⟩ | ⟨g_27, e⟩
      · cases e
        exact s_icmp_ge_T 23 79 rfl (by decide) g_27 <| (kx_17 s_20 (hx_16 _ rfl))
      · refine s_icmp_ge_F 23 79 rfl (by decide) g_27 <| s_iload_n 24 rfl rfl <| s_aload_n 25 rfl rfl <| s_getr 26 rfl fl_X9_9 sh_83 rfl <| s_iconst 2 27 rfl (by decide) <| s_iald 2 28 rfl sh_84 (by decide) (by decide) <| ?_
        rcases iteS e with ⟨g_28, e⟩ | ⟨g_28, e⟩
        · cases e
          exact s_icmp_ge_T 29 79 rfl (by decide) g_28 <| (kx_17 s_20 (hx_16 _ rfl))
        · obtain ⟨g_29, e⟩ := grdS e
          obtain ⟨q_30, e_31, e⟩ := bndS e
          refine s_icmp_ge_F 29 79 rfl (by decide) g_28 <| s_aload_n 30 rfl rfl <| s_getr 31 rfl fl_X9_44 sh_83 rfl <| s_bipush 40 32 rfl (by decide) <| s_iload_n 33 rfl rfl <| s_imul 34 rfl <| s_iload_n 35 rfl rfl <| s_iadd 36 rfl <| s_iald (Int32.toNatClampNeg ((40 * x1) + s_20)) 37 rfl sh_95 g_29 rfl <| s_aload_n 38 rfl rfl <| s_iload_n 39 rfl rfl <| s_iconst 1 40 rfl (by decide) <| s_callV (b := 83) (ci := 9) 41 [.int s_20, .int 1] [.int (h 95 (Int32.toNatClampNeg ((40 * x1) + s_20)))] rfl ml_X9_101 yw_X9_word sh_83 rfl rfl (okX9_word (d + 1) _ _ _ _ e_31) rfl rfl (Nat.le_of_ble_eq_true rfl) <| ?_
          rcases iteS e with ⟨g_32, e⟩ | ⟨g_32, e⟩
          · cases e
            exact s_icmp_ne_T 42 79 rfl (by decide) g_32 <| (kx_17 s_20 (hx_16 _ rfl))
          · cases e
            exact s_icmp_ne_F 42 79 rfl (by decide) (Decidable.not_not.mp g_32) <| s_iinc 1 [some (.ref 83), some (.int x1), some (.int (s_20 + 1))] 43 rfl (by decide) rfl (by decide) rfl <| s_goto 44 33 rfl (by decide) <| (hk_15 (s_20 + 1) rfl)
    · obtain ⟨q_33, e_34, e⟩ := bndS e
      obtain ⟨rfl, rfl⟩ := some2 e
      exact s_if_ne_F 11 31 rfl (by decide) (Decidable.not_not.mp g_5) <| s_aload_n 12 rfl rfl <| s_ldc_w 13 rfl wc_X9_272 <| s_callV (b := 83) (ci := 9) 14 [.int (-1000006)] [] rfl ml_X9_64 yw_X9_finds sh_83 rfl rfl (okX9_finds (d + 1) _ _ q_33.1 q_33.2 e_34) rfl rfl (Nat.le_of_ble_eq_true rfl) <| s_iret 15 rfl
  · obtain ⟨q_35, e_36, e⟩ := bndS e
    obtain ⟨rfl, rfl⟩ := some2 e
    exact s_if_ne_F 2 14 rfl (by decide) (b2i_F g_3) <| s_aload_n 3 rfl rfl <| s_ldc 4 rfl wc_X9_47 <| s_callV (b := 83) (ci := 9) 5 [.int (-1000001)] [] rfl ml_X9_64 yw_X9_finds sh_83 rfl rfl (okX9_finds (d + 1) _ _ q_35.1 q_35.2 e_36) rfl rfl (Nat.le_of_ble_eq_true rfl) <| s_iret 6 rfl
def fX1_become_b26 (c2 : Int32) (h : Sto) : Option ((Int32 × Sto) ⊕ Sto) :=
  if 6 ≤ c2 then (some (.inr h)) else (grd (inb c2 6) <| grd (inb c2 6) <| grd ((¬ (0 : Int32) < 0 ∧ ¬ (0 : Int32) < 0 ∧ ¬ ((h 27 0) : Int32) < 0) ∧ (Int32.toNatClampNeg 0) + (Int32.toNatClampNeg (h 27 0)) ≤ 14 ∧ (Int32.toNatClampNeg 0) + (Int32.toNatClampNeg (h 27 0)) ≤ 14) <| (some (sr h (29 + (Int32.toNatClampNeg c2)) (va_cpy (h (4 + (Int32.toNatClampNeg c2))) (h (29 + (Int32.toNatClampNeg c2))) (Int32.toNatClampNeg 0) (Int32.toNatClampNeg 0) (Int32.toNatClampNeg (h 27 0))))).bind fun h_8 => some (.inl ((c2 + 1), h_8)))
def fX1_become (h : Sto) : Option Sto :=
  (some (su h 27 0 (h 2 0))).bind fun h_1 => (some (su h_1 27 1 (h_1 2 1))).bind fun h_2 => (some (su h_2 27 2 (h_2 2 2))).bind fun h_3 => (lp (fun s => fX1_become_b26 s.1 s.2) FUEL (0, h_3)).bind fun v_17 => some v_17
set_option maxRecDepth 100000 in
set_option maxHeartbeats 4000000 in
theorem okX1_become (d : Nat) (h : Sto) (q : Sto) (e : fX1_become h = some q) : Ok yX1_become cX1_become 3 none (d + 1) [.ref 27, .ref 2] h none q := by
  refine Ok_of (lst := kX1_become) (own := RX1) ⟨by decide, rfl⟩ ckX1_become trivial (Nat.le_of_ble_eq_true rfl) ?_
  unfold fX1_become at e
  change Ev kX1_become RX1 3 (d + 1) nox 0 [some (.ref 27), some (.ref 2), none] [] h none q
  obtain ⟨h_1, eh_1, e⟩ := bndS e
  obtain ⟨h_2, eh_2, e⟩ := bndS e
  obtain ⟨h_3, eh_3, e⟩ := bndS e
  obtain ⟨y_9, e_10, e⟩ := bndS e
  have kx_13 : ∀ v_17 : Sto, v_17 = y_9 → Ev kX1_become RX1 3 (d + 1) nox 59 [none, none, none] [] v_17 none q := by
    intro v_17 hy
    subst hy
    obtain rfl := Option.some.inj e
    exact s_vret 32 rfl
  refine s_aload_n 0 rfl rfl <| s_aload_n 1 rfl rfl <| s_geti 2 rfl fl_X1_16 sh_2 rfl <| s_puti 3 rfl fl_X1_16 sh_27 rfl <| s_nmH (Option.some.inj eh_1) <| s_aload_n 4 rfl rfl <| s_aload_n 5 rfl rfl <| s_geti 6 rfl fl_X1_43 sh_2 rfl <| s_puti 7 rfl fl_X1_43 sh_27 rfl <| s_nmH (Option.some.inj eh_2) <| s_aload_n 8 rfl rfl <| s_aload_n 9 rfl rfl <| s_geti 10 rfl fl_X1_46 sh_2 rfl <| s_puti 11 rfl fl_X1_46 sh_27 rfl <| s_nmH (Option.some.inj eh_3) <| s_iconst 0 12 rfl (by decide) <| s_istore_n [some (.ref 27), some (.ref 2), some (.int 0)] 13 rfl (by decide) rfl <| lpS (P := fun (s_16 : (Int32 × Sto)) => Ev kX1_become RX1 3 (d + 1) nox 26 [some (.ref 27), some (.ref 2), some (.int s_16.1)] [] s_16.2 none q) ?_ FUEL _ e_10
  intro s_16 o_15 e hk_11 hx_12
  unfold fX1_become_b26 at e
  refine s_iload_n 14 rfl rfl <| s_bipush 6 15 rfl (by decide) <| ?_
  rcases iteS e with ⟨g_19, e⟩ | ⟨g_19, e⟩
  · cases e
    exact s_icmp_ge_T 16 59 rfl (by decide) g_19 <| s_fgt [true, true, true] rfl <| (kx_13 s_16.2 (hx_12 _ rfl))
  · obtain ⟨g_20, e⟩ := grdS e
    obtain ⟨g_21, e⟩ := grdS e
    obtain ⟨g_22, e⟩ := grdS e
    obtain ⟨h_23, eh_23, e⟩ := bndS e
    cases e
    exact s_icmp_ge_F 16 59 rfl (by decide) g_19 <| s_aload_n 17 rfl rfl <| s_getr 18 rfl fl_X1_11 sh_2 rfl <| s_iload_n 19 rfl rfl <| s_aald2 (4 + (Int32.toNatClampNeg s_16.1)) 20 rfl sh_3 rfl g_20 <| s_iconst 0 21 rfl (by decide) <| s_aload_n 22 rfl rfl <| s_getr 23 rfl fl_X1_11 sh_27 rfl <| s_iload_n 24 rfl rfl <| s_aald2 (29 + (Int32.toNatClampNeg s_16.1)) 25 rfl sh_28 rfl g_21 <| s_iconst 0 26 rfl (by decide) <| s_aload_n 27 rfl rfl <| s_geti 28 rfl fl_X1_16 sh_27 rfl <| s_copy 29 rfl ml_X1_49 wCpy (srw_4 _ (inb_lt g_20)) (srw_29 _ (inb_lt g_21)) g_22 (Nat.le_of_ble_eq_true rfl) <| s_nmH (Option.some.inj eh_23) <| s_iinc 1 [some (.ref 27), some (.ref 2), some (.int (s_16.1 + 1))] 30 rfl (by decide) rfl (by decide) rfl <| s_goto 31 26 rfl (by decide) <| (hk_11 ((s_16.1 + 1), h_23) rfl)
def fX0_become (h : Sto) : Option Sto :=
  (some (su h 35 0 (h 10 0))).bind fun h_1 => (some (su h_1 35 1 (h_1 10 1))).bind fun h_2 => (some (su h_2 35 2 (h_2 10 2))).bind fun h_3 => grd ((¬ (0 : Int32) < 0 ∧ ¬ (0 : Int32) < 0 ∧ ¬ ((h_3 35 1) : Int32) < 0) ∧ (Int32.toNatClampNeg 0) + (Int32.toNatClampNeg (h_3 35 1)) ≤ 200 ∧ (Int32.toNatClampNeg 0) + (Int32.toNatClampNeg (h_3 35 1)) ≤ 200) <| (some (sr h_3 36 (va_cpy (h_3 11) (h_3 36) (Int32.toNatClampNeg 0) (Int32.toNatClampNeg 0) (Int32.toNatClampNeg (h_3 35 1))))).bind fun h_5 => grd ((¬ (0 : Int32) < 0 ∧ ¬ (0 : Int32) < 0 ∧ ¬ ((h_5 35 1) : Int32) < 0) ∧ (Int32.toNatClampNeg 0) + (Int32.toNatClampNeg (h_5 35 1)) ≤ 200 ∧ (Int32.toNatClampNeg 0) + (Int32.toNatClampNeg (h_5 35 1)) ≤ 200) <| (some (sr h_5 37 (va_cpy (h_5 12) (h_5 37) (Int32.toNatClampNeg 0) (Int32.toNatClampNeg 0) (Int32.toNatClampNeg (h_5 35 1))))).bind fun h_7 => grd ((¬ (0 : Int32) < 0 ∧ ¬ (0 : Int32) < 0 ∧ ¬ ((h_7 35 1) : Int32) < 0) ∧ (Int32.toNatClampNeg 0) + (Int32.toNatClampNeg (h_7 35 1)) ≤ 200 ∧ (Int32.toNatClampNeg 0) + (Int32.toNatClampNeg (h_7 35 1)) ≤ 200) <| (some (sr h_7 38 (va_cpy (h_7 13) (h_7 38) (Int32.toNatClampNeg 0) (Int32.toNatClampNeg 0) (Int32.toNatClampNeg (h_7 35 1))))).bind fun h_9 => grd ((¬ (0 : Int32) < 0 ∧ ¬ (0 : Int32) < 0 ∧ ¬ ((h_9 35 1) : Int32) < 0) ∧ (Int32.toNatClampNeg 0) + (Int32.toNatClampNeg (h_9 35 1)) ≤ 200 ∧ (Int32.toNatClampNeg 0) + (Int32.toNatClampNeg (h_9 35 1)) ≤ 200) <| (some (sr h_9 39 (va_cpy (h_9 14) (h_9 39) (Int32.toNatClampNeg 0) (Int32.toNatClampNeg 0) (Int32.toNatClampNeg (h_9 35 1))))).bind fun h_11 => some h_11
set_option maxRecDepth 100000 in
set_option maxHeartbeats 4000000 in
theorem okX0_become (d : Nat) (h : Sto) (q : Sto) (e : fX0_become h = some q) : Ok yX0_become cX0_become 2 none (d + 1) [.ref 35, .ref 10] h none q := by
  refine Ok_of (lst := kX0_become) (own := RX0) ⟨by decide, rfl⟩ ckX0_become trivial (Nat.le_of_ble_eq_true rfl) ?_
  unfold fX0_become at e
  change Ev kX0_become RX0 2 (d + 1) nox 0 [some (.ref 35), some (.ref 10)] [] h none q
  obtain ⟨h_1, eh_1, e⟩ := bndS e
  obtain ⟨h_2, eh_2, e⟩ := bndS e
  obtain ⟨h_3, eh_3, e⟩ := bndS e
  obtain ⟨g_4, e⟩ := grdS e
  obtain ⟨h_5, eh_5, e⟩ := bndS e
  obtain ⟨g_6, e⟩ := grdS e
  obtain ⟨h_7, eh_7, e⟩ := bndS e
  obtain ⟨g_8, e⟩ := grdS e
  obtain ⟨h_9, eh_9, e⟩ := bndS e
  obtain ⟨g_10, e⟩ := grdS e
  obtain ⟨h_11, eh_11, e⟩ := bndS e
  obtain rfl := Option.some.inj e
  exact s_aload_n 0 rfl rfl <| s_aload_n 1 rfl rfl <| s_geti 2 rfl fl_X0_36 sh_10 rfl <| s_puti 3 rfl fl_X0_36 sh_35 rfl <| s_nmH (Option.some.inj eh_1) <| s_aload_n 4 rfl rfl <| s_aload_n 5 rfl rfl <| s_geti 6 rfl fl_X0_28 sh_10 rfl <| s_puti 7 rfl fl_X0_28 sh_35 rfl <| s_nmH (Option.some.inj eh_2) <| s_aload_n 8 rfl rfl <| s_aload_n 9 rfl rfl <| s_geti 10 rfl fl_X0_70 sh_10 rfl <| s_puti 11 rfl fl_X0_70 sh_35 rfl <| s_nmH (Option.some.inj eh_3) <| s_aload_n 12 rfl rfl <| s_getr 13 rfl fl_X0_9 sh_10 rfl <| s_iconst 0 14 rfl (by decide) <| s_aload_n 15 rfl rfl <| s_getr 16 rfl fl_X0_9 sh_35 rfl <| s_iconst 0 17 rfl (by decide) <| s_aload_n 18 rfl rfl <| s_geti 19 rfl fl_X0_28 sh_35 rfl <| s_copy 20 rfl ml_X0_73 wCpy sh_11 sh_36 g_4 (Nat.le_of_ble_eq_true rfl) <| s_nmH (Option.some.inj eh_5) <| s_aload_n 21 rfl rfl <| s_getr 22 rfl fl_X0_15 sh_10 rfl <| s_iconst 0 23 rfl (by decide) <| s_aload_n 24 rfl rfl <| s_getr 25 rfl fl_X0_15 sh_35 rfl <| s_iconst 0 26 rfl (by decide) <| s_aload_n 27 rfl rfl <| s_geti 28 rfl fl_X0_28 sh_35 rfl <| s_copy 29 rfl ml_X0_73 wCpy sh_12 sh_37 g_6 (Nat.le_of_ble_eq_true rfl) <| s_nmH (Option.some.inj eh_7) <| s_aload_n 30 rfl rfl <| s_getr 31 rfl fl_X0_18 sh_10 rfl <| s_iconst 0 32 rfl (by decide) <| s_aload_n 33 rfl rfl <| s_getr 34 rfl fl_X0_18 sh_35 rfl <| s_iconst 0 35 rfl (by decide) <| s_aload_n 36 rfl rfl <| s_geti 37 rfl fl_X0_28 sh_35 rfl <| s_copy 38 rfl ml_X0_73 wCpy sh_13 sh_38 g_8 (Nat.le_of_ble_eq_true rfl) <| s_nmH (Option.some.inj eh_9) <| s_aload_n 39 rfl rfl <| s_getr 40 rfl fl_X0_21 sh_10 rfl <| s_iconst 0 41 rfl (by decide) <| s_aload_n 42 rfl rfl <| s_getr 43 rfl fl_X0_21 sh_35 rfl <| s_iconst 0 44 rfl (by decide) <| s_aload_n 45 rfl rfl <| s_geti 46 rfl fl_X0_28 sh_35 rfl <| s_copy 47 rfl ml_X0_73 wCpy sh_14 sh_39 g_10 (Nat.le_of_ble_eq_true rfl) <| s_nmH (Option.some.inj eh_11) <| s_vret 48 rfl
def fX6_become_b10 (c2 : Int32) (h : Sto) : Option ((Int32 × Sto) ⊕ Sto) :=
  if (h 41 0) ≤ c2 then (some (.inr h)) else (grd (inb c2 6) <| grd (inb c2 6) <| (some (su h 49 (Int32.toNatClampNeg c2) (h 24 (Int32.toNatClampNeg c2)))).bind fun h_5 => grd (inb c2 6) <| grd (inb c2 6) <| grd (inb c2 6) <| grd ((¬ (0 : Int32) < 0 ∧ ¬ (0 : Int32) < 0 ∧ ¬ ((h_5 49 (Int32.toNatClampNeg c2)) : Int32) < 0) ∧ (Int32.toNatClampNeg 0) + (Int32.toNatClampNeg (h_5 49 (Int32.toNatClampNeg c2))) ≤ 80 ∧ (Int32.toNatClampNeg 0) + (Int32.toNatClampNeg (h_5 49 (Int32.toNatClampNeg c2))) ≤ 80) <| (some (sr h_5 (43 + (Int32.toNatClampNeg c2)) (va_cpy (h_5 (18 + (Int32.toNatClampNeg c2))) (h_5 (43 + (Int32.toNatClampNeg c2))) (Int32.toNatClampNeg 0) (Int32.toNatClampNeg 0) (Int32.toNatClampNeg (h_5 49 (Int32.toNatClampNeg c2)))))).bind fun h_10 => some (.inl ((c2 + 1), h_10)))
def fX6_become (h : Sto) : Option Sto :=
  (some (su h 41 0 (h 16 0))).bind fun h_1 => (lp (fun s => fX6_become_b10 s.1 s.2) FUEL (0, h_1)).bind fun v_19 => some v_19
set_option maxRecDepth 100000 in
set_option maxHeartbeats 4000000 in
theorem okX6_become (d : Nat) (h : Sto) (q : Sto) (e : fX6_become h = some q) : Ok yX6_become cX6_become 3 none (d + 1) [.ref 41, .ref 16] h none q := by
  refine Ok_of (lst := kX6_become) (own := RX6) ⟨by decide, rfl⟩ ckX6_become trivial (Nat.le_of_ble_eq_true rfl) ?_
  unfold fX6_become at e
  change Ev kX6_become RX6 3 (d + 1) nox 0 [some (.ref 41), some (.ref 16), none] [] h none q
  obtain ⟨h_1, eh_1, e⟩ := bndS e
  obtain ⟨y_11, e_12, e⟩ := bndS e
  have kx_15 : ∀ v_19 : Sto, v_19 = y_11 → Ev kX6_become RX6 3 (d + 1) nox 59 [none, none, none] [] v_19 none q := by
    intro v_19 hy
    subst hy
    obtain rfl := Option.some.inj e
    exact s_vret 35 rfl
  refine s_aload_n 0 rfl rfl <| s_aload_n 1 rfl rfl <| s_geti 2 rfl fl_X6_20 sh_16 rfl <| s_puti 3 rfl fl_X6_20 sh_41 rfl <| s_nmH (Option.some.inj eh_1) <| s_iconst 0 4 rfl (by decide) <| s_istore_n [some (.ref 41), some (.ref 16), some (.int 0)] 5 rfl (by decide) rfl <| lpS (P := fun (s_18 : (Int32 × Sto)) => Ev kX6_become RX6 3 (d + 1) nox 10 [some (.ref 41), some (.ref 16), some (.int s_18.1)] [] s_18.2 none q) ?_ FUEL _ e_12
  intro s_18 o_17 e hk_13 hx_14
  unfold fX6_become_b10 at e
  refine s_iload_n 6 rfl rfl <| s_aload_n 7 rfl rfl <| s_geti 8 rfl fl_X6_20 sh_41 rfl <| ?_
  rcases iteS e with ⟨g_21, e⟩ | ⟨g_21, e⟩
  · cases e
    exact s_icmp_ge_T 9 59 rfl (by decide) g_21 <| s_fgt [true, true, true] rfl <| (kx_15 s_18.2 (hx_14 _ rfl))
  · obtain ⟨g_22, e⟩ := grdS e
    obtain ⟨g_23, e⟩ := grdS e
    obtain ⟨h_24, eh_24, e⟩ := bndS e
    obtain ⟨g_25, e⟩ := grdS e
    obtain ⟨g_26, e⟩ := grdS e
    obtain ⟨g_27, e⟩ := grdS e
    obtain ⟨g_28, e⟩ := grdS e
    obtain ⟨h_29, eh_29, e⟩ := bndS e
    cases e
    exact s_icmp_ge_F 9 59 rfl (by decide) g_21 <| s_aload_n 10 rfl rfl <| s_getr 11 rfl fl_X6_16 sh_41 rfl <| s_iload_n 12 rfl rfl <| s_aload_n 13 rfl rfl <| s_getr 14 rfl fl_X6_16 sh_16 rfl <| s_iload_n 15 rfl rfl <| s_iald (Int32.toNatClampNeg s_18.1) 16 rfl sh_24 g_22 rfl <| s_iast (Int32.toNatClampNeg s_18.1) 17 rfl sh_49 g_23 rfl <| s_nmH (Option.some.inj eh_24) <| s_aload_n 18 rfl rfl <| s_getr 19 rfl fl_X6_11 sh_16 rfl <| s_iload_n 20 rfl rfl <| s_aald2 (18 + (Int32.toNatClampNeg s_18.1)) 21 rfl sh_17 rfl g_25 <| s_iconst 0 22 rfl (by decide) <| s_aload_n 23 rfl rfl <| s_getr 24 rfl fl_X6_11 sh_41 rfl <| s_iload_n 25 rfl rfl <| s_aald2 (43 + (Int32.toNatClampNeg s_18.1)) 26 rfl sh_42 rfl g_26 <| s_iconst 0 27 rfl (by decide) <| s_aload_n 28 rfl rfl <| s_getr 29 rfl fl_X6_16 sh_41 rfl <| s_iload_n 30 rfl rfl <| s_iald (Int32.toNatClampNeg s_18.1) 31 rfl sh_49 g_27 rfl <| s_copy 32 rfl ml_X6_28 wCpy (srw_18 _ (inb_lt g_25)) (srw_43 _ (inb_lt g_26)) g_28 (Nat.le_of_ble_eq_true rfl) <| s_nmH (Option.some.inj eh_29) <| s_iinc 1 [some (.ref 41), some (.ref 16), some (.int (s_18.1 + 1))] 33 rfl (by decide) rfl (by decide) rfl <| s_goto 34 10 rfl (by decide) <| (hk_13 ((s_18.1 + 1), h_29) rfl)
def fX3_become (h : Sto) : Option Sto :=
  (fX1_become h).bind fun q_1 => (fX0_become q_1).bind fun q_3 => (fX6_become q_3).bind fun q_5 => grd ((¬ (0 : Int32) < 0 ∧ ¬ (0 : Int32) < 0 ∧ ¬ (10 : Int32) < 0) ∧ (Int32.toNatClampNeg 0) + (Int32.toNatClampNeg 10) ≤ 10 ∧ (Int32.toNatClampNeg 0) + (Int32.toNatClampNeg 10) ≤ 10) <| (some (sr q_5 50 (va_cpy (q_5 25) (q_5 50) (Int32.toNatClampNeg 0) (Int32.toNatClampNeg 0) (Int32.toNatClampNeg 10)))).bind fun h_8 => (some (su h_8 26 4 (h_8 1 4))).bind fun h_9 => some h_9
set_option maxRecDepth 100000 in
set_option maxHeartbeats 4000000 in
theorem okX3_become (d : Nat) (h : Sto) (q : Sto) (e : fX3_become h = some q) : Ok yX3_become cX3_become 2 none (d + 2) [.ref 26, .ref 1] h none q := by
  refine Ok_of (lst := kX3_become) (own := RX3) ⟨by decide, rfl⟩ ckX3_become trivial (Nat.le_of_ble_eq_true rfl) ?_
  unfold fX3_become at e
  change Ev kX3_become RX3 2 (d + 2) nox 0 [some (.ref 26), some (.ref 1)] [] h none q
  obtain ⟨q_1, e_2, e⟩ := bndS e
  obtain ⟨q_3, e_4, e⟩ := bndS e
  obtain ⟨q_5, e_6, e⟩ := bndS e
  obtain ⟨g_7, e⟩ := grdS e
  obtain ⟨h_8, eh_8, e⟩ := bndS e
  obtain ⟨h_9, eh_9, e⟩ := bndS e
  obtain rfl := Option.some.inj e
  exact s_aload_n 0 rfl rfl <| s_getr 1 rfl fl_X3_12 sh_26 rfl <| s_aload_n 2 rfl rfl <| s_getr 3 rfl fl_X3_12 sh_1 rfl <| s_callV (b := 27) (ci := 1) 4 [.ref 2] [] rfl ml_X3_123 yw_X1_become sh_27 rfl rfl (okX1_become d _ _ e_2) rfl rfl (Nat.le_of_ble_eq_true rfl) <| s_aload_n 5 rfl rfl <| s_getr 6 rfl fl_X3_21 sh_26 rfl <| s_aload_n 7 rfl rfl <| s_getr 8 rfl fl_X3_21 sh_1 rfl <| s_callV (b := 35) (ci := 0) 9 [.ref 10] [] rfl ml_X3_127 yw_X0_become sh_35 rfl rfl (okX0_become d _ _ e_4) rfl rfl (Nat.le_of_ble_eq_true rfl) <| s_aload_n 10 rfl rfl <| s_getr 11 rfl fl_X3_28 sh_26 rfl <| s_aload_n 12 rfl rfl <| s_getr 13 rfl fl_X3_28 sh_1 rfl <| s_callV (b := 41) (ci := 6) 14 [.ref 16] [] rfl ml_X3_130 yw_X6_become sh_41 rfl rfl (okX6_become d _ _ e_6) rfl rfl (Nat.le_of_ble_eq_true rfl) <| s_aload_n 15 rfl rfl <| s_getr 16 rfl fl_X3_32 sh_1 rfl <| s_iconst 0 17 rfl (by decide) <| s_aload_n 18 rfl rfl <| s_getr 19 rfl fl_X3_32 sh_26 rfl <| s_iconst 0 20 rfl (by decide) <| s_bipush 10 21 rfl (by decide) <| s_copy 22 rfl ml_X3_133 wCpy sh_25 sh_50 g_7 (Nat.le_of_ble_eq_true rfl) <| s_nmH (Option.some.inj eh_8) <| s_aload_n 23 rfl rfl <| s_aload_n 24 rfl rfl <| s_geti 25 rfl fl_X3_36 sh_1 rfl <| s_puti 26 rfl fl_X3_36 sh_26 rfl <| s_nmH (Option.some.inj eh_9) <| s_vret 27 rfl
def fX8_image (h : Sto) : Option (Int32 × Sto) :=
  (fX3_become h).bind fun q_1 => (some (su q_1 0 2 1)).bind fun h_3 => some (1, h_3)
set_option maxRecDepth 100000 in
set_option maxHeartbeats 4000000 in
theorem okX8_image (d : Nat) (h : Sto) (qv : Int32) (qh : Sto) (e : fX8_image h = some (qv, qh)) : Ok yX8_image cX8_image 1 (some .int) (d + 3) [.ref 0] h (some (.int qv)) qh := by
  refine Ok_of (lst := kX8_image) (own := RX8) ⟨by decide, rfl⟩ ckX8_image trivial (Nat.le_of_ble_eq_true rfl) ?_
  unfold fX8_image at e
  change Ev kX8_image RX8 1 (d + 3) nox 0 [some (.ref 0)] [] h (some (.int qv)) qh
  obtain ⟨q_1, e_2, e⟩ := bndS e
  obtain ⟨h_3, eh_3, e⟩ := bndS e
  obtain ⟨rfl, rfl⟩ := some2 e
  exact s_aload_n 0 rfl rfl <| s_getr 1 rfl fl_X8_16 sh_0 rfl <| s_aload_n 2 rfl rfl <| s_getr 3 rfl fl_X8_12 sh_0 rfl <| s_callV (b := 26) (ci := 3) 4 [.ref 1] [] rfl ml_X8_313 yw_X3_become sh_26 rfl rfl (okX3_become d _ _ e_2) rfl rfl (Nat.le_of_ble_eq_true rfl) <| s_aload_n 5 rfl rfl <| s_iconst 1 6 rfl (by decide) <| s_putz 7 rfl fl_X8_19 sh_0 rfl (by decide) <| s_nmH (Option.some.inj eh_3) <| s_iconst 1 8 rfl (by decide) <| s_iret 9 rfl
def fX9_image_b2 (c1 : Int32) (h : Sto) : Option ((Int32 × Sto) ⊕ Sto) :=
  if 1214 ≤ c1 then (some (.inr h)) else (grd (inb c1 1214) <| grd (inb c1 1214) <| (some (su h 85 (Int32.toNatClampNeg c1) (h 84 (Int32.toNatClampNeg c1)))).bind fun h_4 => some (.inl ((c1 + 1), h_4)))
def fX9_image (h : Sto) : Option (Int32 × Sto) :=
  (lp (fun s => fX9_image_b2 s.1 s.2) FUEL (0, h)).bind fun v_13 => (some (su v_13 83 2 1)).bind fun h_15 => some (1, h_15)
set_option maxRecDepth 100000 in
set_option maxHeartbeats 4000000 in
theorem okX9_image (d : Nat) (h : Sto) (qv : Int32) (qh : Sto) (e : fX9_image h = some (qv, qh)) : Ok yX9_image cX9_image 2 (some .int) d [.ref 83] h (some (.int qv)) qh := by
  refine Ok_of (lst := kX9_image) (own := RX9) ⟨by decide, rfl⟩ ckX9_image trivial (Nat.le_of_ble_eq_true rfl) ?_
  unfold fX9_image at e
  change Ev kX9_image RX9 2 d nox 0 [some (.ref 83), none] [] h (some (.int qv)) qh
  obtain ⟨y_5, e_6, e⟩ := bndS e
  have kx_9 : ∀ v_13 : Sto, v_13 = y_5 → Ev kX9_image RX9 2 d nox 27 [some (.ref 83), none] [] v_13 (some (.int qv)) qh := by
    intro v_13 hy
    subst hy
    obtain ⟨h_15, eh_15, e⟩ := bndS e
    obtain ⟨rfl, rfl⟩ := some2 e
    exact s_aload_n 15 rfl rfl <| s_iconst 1 16 rfl (by decide) <| s_putz 17 rfl fl_X9_281 sh_83 rfl (by decide) <| s_nmH (Option.some.inj eh_15) <| s_iconst 1 18 rfl (by decide) <| s_iret 19 rfl
  refine s_iconst 0 0 rfl (by decide) <| s_istore_n [some (.ref 83), some (.int 0)] 1 rfl (by decide) rfl <| lpS (P := fun (s_12 : (Int32 × Sto)) => Ev kX9_image RX9 2 d nox 2 [some (.ref 83), some (.int s_12.1)] [] s_12.2 (some (.int qv)) qh) ?_ FUEL _ e_6
  intro s_12 o_11 e hk_7 hx_8
  unfold fX9_image_b2 at e
  refine s_iload_n 2 rfl rfl <| s_sipush 1214 3 rfl (by decide) <| ?_
  rcases iteS e with ⟨g_16, e⟩ | ⟨g_16, e⟩
  · cases e
    exact s_icmp_ge_T 4 27 rfl (by decide) g_16 <| s_fgt [false, true] rfl <| (kx_9 s_12.2 (hx_8 _ rfl))
  · obtain ⟨g_17, e⟩ := grdS e
    obtain ⟨g_18, e⟩ := grdS e
    obtain ⟨h_19, eh_19, e⟩ := bndS e
    cases e
    exact s_icmp_ge_F 4 27 rfl (by decide) g_16 <| s_aload_n 5 rfl rfl <| s_getr 6 rfl fl_X9_13 sh_83 rfl <| s_iload_n 7 rfl rfl <| s_aload_n 8 rfl rfl <| s_getr 9 rfl fl_X9_9 sh_83 rfl <| s_iload_n 10 rfl rfl <| s_iald (Int32.toNatClampNeg s_12.1) 11 rfl sh_84 g_17 rfl <| s_iast (Int32.toNatClampNeg s_12.1) 12 rfl sh_85 g_18 rfl <| s_nmH (Option.some.inj eh_19) <| s_iinc 1 [some (.ref 83), some (.int (s_12.1 + 1))] 13 rfl (by decide) rfl (by decide) rfl <| s_goto 14 2 rfl (by decide) <| (hk_7 ((s_12.1 + 1), h_19) rfl)
def fX1_become_1_b26 (c2 : Int32) (h : Sto) : Option ((Int32 × Sto) ⊕ Sto) :=
  if 6 ≤ c2 then (some (.inr h)) else (grd (inb c2 6) <| grd (inb c2 6) <| grd ((¬ (0 : Int32) < 0 ∧ ¬ (0 : Int32) < 0 ∧ ¬ ((h 2 0) : Int32) < 0) ∧ (Int32.toNatClampNeg 0) + (Int32.toNatClampNeg (h 2 0)) ≤ 14 ∧ (Int32.toNatClampNeg 0) + (Int32.toNatClampNeg (h 2 0)) ≤ 14) <| (some (sr h (4 + (Int32.toNatClampNeg c2)) (va_cpy (h (29 + (Int32.toNatClampNeg c2))) (h (4 + (Int32.toNatClampNeg c2))) (Int32.toNatClampNeg 0) (Int32.toNatClampNeg 0) (Int32.toNatClampNeg (h 2 0))))).bind fun h_8 => some (.inl ((c2 + 1), h_8)))
def fX1_become_1 (h : Sto) : Option Sto :=
  (some (su h 2 0 (h 27 0))).bind fun h_1 => (some (su h_1 2 1 (h_1 27 1))).bind fun h_2 => (some (su h_2 2 2 (h_2 27 2))).bind fun h_3 => (lp (fun s => fX1_become_1_b26 s.1 s.2) FUEL (0, h_3)).bind fun v_17 => some v_17
set_option maxRecDepth 100000 in
set_option maxHeartbeats 4000000 in
theorem okX1_become_1 (d : Nat) (h : Sto) (q : Sto) (e : fX1_become_1 h = some q) : Ok yX1_become cX1_become 3 none (d + 1) [.ref 2, .ref 27] h none q := by
  refine Ok_of (lst := kX1_become) (own := RX1) ⟨by decide, rfl⟩ ckX1_become trivial (Nat.le_of_ble_eq_true rfl) ?_
  unfold fX1_become_1 at e
  change Ev kX1_become RX1 3 (d + 1) nox 0 [some (.ref 2), some (.ref 27), none] [] h none q
  obtain ⟨h_1, eh_1, e⟩ := bndS e
  obtain ⟨h_2, eh_2, e⟩ := bndS e
  obtain ⟨h_3, eh_3, e⟩ := bndS e
  obtain ⟨y_9, e_10, e⟩ := bndS e
  have kx_13 : ∀ v_17 : Sto, v_17 = y_9 → Ev kX1_become RX1 3 (d + 1) nox 59 [none, none, none] [] v_17 none q := by
    intro v_17 hy
    subst hy
    obtain rfl := Option.some.inj e
    exact s_vret 32 rfl
  refine s_aload_n 0 rfl rfl <| s_aload_n 1 rfl rfl <| s_geti 2 rfl fl_X1_16 sh_27 rfl <| s_puti 3 rfl fl_X1_16 sh_2 rfl <| s_nmH (Option.some.inj eh_1) <| s_aload_n 4 rfl rfl <| s_aload_n 5 rfl rfl <| s_geti 6 rfl fl_X1_43 sh_27 rfl <| s_puti 7 rfl fl_X1_43 sh_2 rfl <| s_nmH (Option.some.inj eh_2) <| s_aload_n 8 rfl rfl <| s_aload_n 9 rfl rfl <| s_geti 10 rfl fl_X1_46 sh_27 rfl <| s_puti 11 rfl fl_X1_46 sh_2 rfl <| s_nmH (Option.some.inj eh_3) <| s_iconst 0 12 rfl (by decide) <| s_istore_n [some (.ref 2), some (.ref 27), some (.int 0)] 13 rfl (by decide) rfl <| lpS (P := fun (s_16 : (Int32 × Sto)) => Ev kX1_become RX1 3 (d + 1) nox 26 [some (.ref 2), some (.ref 27), some (.int s_16.1)] [] s_16.2 none q) ?_ FUEL _ e_10
  intro s_16 o_15 e hk_11 hx_12
  unfold fX1_become_1_b26 at e
  refine s_iload_n 14 rfl rfl <| s_bipush 6 15 rfl (by decide) <| ?_
  rcases iteS e with ⟨g_19, e⟩ | ⟨g_19, e⟩
  · cases e
    exact s_icmp_ge_T 16 59 rfl (by decide) g_19 <| s_fgt [true, true, true] rfl <| (kx_13 s_16.2 (hx_12 _ rfl))
  · obtain ⟨g_20, e⟩ := grdS e
    obtain ⟨g_21, e⟩ := grdS e
    obtain ⟨g_22, e⟩ := grdS e
    obtain ⟨h_23, eh_23, e⟩ := bndS e
    cases e
    exact s_icmp_ge_F 16 59 rfl (by decide) g_19 <| s_aload_n 17 rfl rfl <| s_getr 18 rfl fl_X1_11 sh_27 rfl <| s_iload_n 19 rfl rfl <| s_aald2 (29 + (Int32.toNatClampNeg s_16.1)) 20 rfl sh_28 rfl g_20 <| s_iconst 0 21 rfl (by decide) <| s_aload_n 22 rfl rfl <| s_getr 23 rfl fl_X1_11 sh_2 rfl <| s_iload_n 24 rfl rfl <| s_aald2 (4 + (Int32.toNatClampNeg s_16.1)) 25 rfl sh_3 rfl g_21 <| s_iconst 0 26 rfl (by decide) <| s_aload_n 27 rfl rfl <| s_geti 28 rfl fl_X1_16 sh_2 rfl <| s_copy 29 rfl ml_X1_49 wCpy (srw_29 _ (inb_lt g_20)) (srw_4 _ (inb_lt g_21)) g_22 (Nat.le_of_ble_eq_true rfl) <| s_nmH (Option.some.inj eh_23) <| s_iinc 1 [some (.ref 2), some (.ref 27), some (.int (s_16.1 + 1))] 30 rfl (by decide) rfl (by decide) rfl <| s_goto 31 26 rfl (by decide) <| (hk_11 ((s_16.1 + 1), h_23) rfl)
def fX0_become_1 (h : Sto) : Option Sto :=
  (some (su h 10 0 (h 35 0))).bind fun h_1 => (some (su h_1 10 1 (h_1 35 1))).bind fun h_2 => (some (su h_2 10 2 (h_2 35 2))).bind fun h_3 => grd ((¬ (0 : Int32) < 0 ∧ ¬ (0 : Int32) < 0 ∧ ¬ ((h_3 10 1) : Int32) < 0) ∧ (Int32.toNatClampNeg 0) + (Int32.toNatClampNeg (h_3 10 1)) ≤ 200 ∧ (Int32.toNatClampNeg 0) + (Int32.toNatClampNeg (h_3 10 1)) ≤ 200) <| (some (sr h_3 11 (va_cpy (h_3 36) (h_3 11) (Int32.toNatClampNeg 0) (Int32.toNatClampNeg 0) (Int32.toNatClampNeg (h_3 10 1))))).bind fun h_5 => grd ((¬ (0 : Int32) < 0 ∧ ¬ (0 : Int32) < 0 ∧ ¬ ((h_5 10 1) : Int32) < 0) ∧ (Int32.toNatClampNeg 0) + (Int32.toNatClampNeg (h_5 10 1)) ≤ 200 ∧ (Int32.toNatClampNeg 0) + (Int32.toNatClampNeg (h_5 10 1)) ≤ 200) <| (some (sr h_5 12 (va_cpy (h_5 37) (h_5 12) (Int32.toNatClampNeg 0) (Int32.toNatClampNeg 0) (Int32.toNatClampNeg (h_5 10 1))))).bind fun h_7 => grd ((¬ (0 : Int32) < 0 ∧ ¬ (0 : Int32) < 0 ∧ ¬ ((h_7 10 1) : Int32) < 0) ∧ (Int32.toNatClampNeg 0) + (Int32.toNatClampNeg (h_7 10 1)) ≤ 200 ∧ (Int32.toNatClampNeg 0) + (Int32.toNatClampNeg (h_7 10 1)) ≤ 200) <| (some (sr h_7 13 (va_cpy (h_7 38) (h_7 13) (Int32.toNatClampNeg 0) (Int32.toNatClampNeg 0) (Int32.toNatClampNeg (h_7 10 1))))).bind fun h_9 => grd ((¬ (0 : Int32) < 0 ∧ ¬ (0 : Int32) < 0 ∧ ¬ ((h_9 10 1) : Int32) < 0) ∧ (Int32.toNatClampNeg 0) + (Int32.toNatClampNeg (h_9 10 1)) ≤ 200 ∧ (Int32.toNatClampNeg 0) + (Int32.toNatClampNeg (h_9 10 1)) ≤ 200) <| (some (sr h_9 14 (va_cpy (h_9 39) (h_9 14) (Int32.toNatClampNeg 0) (Int32.toNatClampNeg 0) (Int32.toNatClampNeg (h_9 10 1))))).bind fun h_11 => some h_11
set_option maxRecDepth 100000 in
set_option maxHeartbeats 4000000 in
theorem okX0_become_1 (d : Nat) (h : Sto) (q : Sto) (e : fX0_become_1 h = some q) : Ok yX0_become cX0_become 2 none (d + 1) [.ref 10, .ref 35] h none q := by
  refine Ok_of (lst := kX0_become) (own := RX0) ⟨by decide, rfl⟩ ckX0_become trivial (Nat.le_of_ble_eq_true rfl) ?_
  unfold fX0_become_1 at e
  change Ev kX0_become RX0 2 (d + 1) nox 0 [some (.ref 10), some (.ref 35)] [] h none q
  obtain ⟨h_1, eh_1, e⟩ := bndS e
  obtain ⟨h_2, eh_2, e⟩ := bndS e
  obtain ⟨h_3, eh_3, e⟩ := bndS e
  obtain ⟨g_4, e⟩ := grdS e
  obtain ⟨h_5, eh_5, e⟩ := bndS e
  obtain ⟨g_6, e⟩ := grdS e
  obtain ⟨h_7, eh_7, e⟩ := bndS e
  obtain ⟨g_8, e⟩ := grdS e
  obtain ⟨h_9, eh_9, e⟩ := bndS e
  obtain ⟨g_10, e⟩ := grdS e
  obtain ⟨h_11, eh_11, e⟩ := bndS e
  obtain rfl := Option.some.inj e
  exact s_aload_n 0 rfl rfl <| s_aload_n 1 rfl rfl <| s_geti 2 rfl fl_X0_36 sh_35 rfl <| s_puti 3 rfl fl_X0_36 sh_10 rfl <| s_nmH (Option.some.inj eh_1) <| s_aload_n 4 rfl rfl <| s_aload_n 5 rfl rfl <| s_geti 6 rfl fl_X0_28 sh_35 rfl <| s_puti 7 rfl fl_X0_28 sh_10 rfl <| s_nmH (Option.some.inj eh_2) <| s_aload_n 8 rfl rfl <| s_aload_n 9 rfl rfl <| s_geti 10 rfl fl_X0_70 sh_35 rfl <| s_puti 11 rfl fl_X0_70 sh_10 rfl <| s_nmH (Option.some.inj eh_3) <| s_aload_n 12 rfl rfl <| s_getr 13 rfl fl_X0_9 sh_35 rfl <| s_iconst 0 14 rfl (by decide) <| s_aload_n 15 rfl rfl <| s_getr 16 rfl fl_X0_9 sh_10 rfl <| s_iconst 0 17 rfl (by decide) <| s_aload_n 18 rfl rfl <| s_geti 19 rfl fl_X0_28 sh_10 rfl <| s_copy 20 rfl ml_X0_73 wCpy sh_36 sh_11 g_4 (Nat.le_of_ble_eq_true rfl) <| s_nmH (Option.some.inj eh_5) <| s_aload_n 21 rfl rfl <| s_getr 22 rfl fl_X0_15 sh_35 rfl <| s_iconst 0 23 rfl (by decide) <| s_aload_n 24 rfl rfl <| s_getr 25 rfl fl_X0_15 sh_10 rfl <| s_iconst 0 26 rfl (by decide) <| s_aload_n 27 rfl rfl <| s_geti 28 rfl fl_X0_28 sh_10 rfl <| s_copy 29 rfl ml_X0_73 wCpy sh_37 sh_12 g_6 (Nat.le_of_ble_eq_true rfl) <| s_nmH (Option.some.inj eh_7) <| s_aload_n 30 rfl rfl <| s_getr 31 rfl fl_X0_18 sh_35 rfl <| s_iconst 0 32 rfl (by decide) <| s_aload_n 33 rfl rfl <| s_getr 34 rfl fl_X0_18 sh_10 rfl <| s_iconst 0 35 rfl (by decide) <| s_aload_n 36 rfl rfl <| s_geti 37 rfl fl_X0_28 sh_10 rfl <| s_copy 38 rfl ml_X0_73 wCpy sh_38 sh_13 g_8 (Nat.le_of_ble_eq_true rfl) <| s_nmH (Option.some.inj eh_9) <| s_aload_n 39 rfl rfl <| s_getr 40 rfl fl_X0_21 sh_35 rfl <| s_iconst 0 41 rfl (by decide) <| s_aload_n 42 rfl rfl <| s_getr 43 rfl fl_X0_21 sh_10 rfl <| s_iconst 0 44 rfl (by decide) <| s_aload_n 45 rfl rfl <| s_geti 46 rfl fl_X0_28 sh_10 rfl <| s_copy 47 rfl ml_X0_73 wCpy sh_39 sh_14 g_10 (Nat.le_of_ble_eq_true rfl) <| s_nmH (Option.some.inj eh_11) <| s_vret 48 rfl
def fX6_become_1_b10 (c2 : Int32) (h : Sto) : Option ((Int32 × Sto) ⊕ Sto) :=
  if (h 16 0) ≤ c2 then (some (.inr h)) else (grd (inb c2 6) <| grd (inb c2 6) <| (some (su h 24 (Int32.toNatClampNeg c2) (h 49 (Int32.toNatClampNeg c2)))).bind fun h_5 => grd (inb c2 6) <| grd (inb c2 6) <| grd (inb c2 6) <| grd ((¬ (0 : Int32) < 0 ∧ ¬ (0 : Int32) < 0 ∧ ¬ ((h_5 24 (Int32.toNatClampNeg c2)) : Int32) < 0) ∧ (Int32.toNatClampNeg 0) + (Int32.toNatClampNeg (h_5 24 (Int32.toNatClampNeg c2))) ≤ 80 ∧ (Int32.toNatClampNeg 0) + (Int32.toNatClampNeg (h_5 24 (Int32.toNatClampNeg c2))) ≤ 80) <| (some (sr h_5 (18 + (Int32.toNatClampNeg c2)) (va_cpy (h_5 (43 + (Int32.toNatClampNeg c2))) (h_5 (18 + (Int32.toNatClampNeg c2))) (Int32.toNatClampNeg 0) (Int32.toNatClampNeg 0) (Int32.toNatClampNeg (h_5 24 (Int32.toNatClampNeg c2)))))).bind fun h_10 => some (.inl ((c2 + 1), h_10)))
def fX6_become_1 (h : Sto) : Option Sto :=
  (some (su h 16 0 (h 41 0))).bind fun h_1 => (lp (fun s => fX6_become_1_b10 s.1 s.2) FUEL (0, h_1)).bind fun v_19 => some v_19
set_option maxRecDepth 100000 in
set_option maxHeartbeats 4000000 in
theorem okX6_become_1 (d : Nat) (h : Sto) (q : Sto) (e : fX6_become_1 h = some q) : Ok yX6_become cX6_become 3 none (d + 1) [.ref 16, .ref 41] h none q := by
  refine Ok_of (lst := kX6_become) (own := RX6) ⟨by decide, rfl⟩ ckX6_become trivial (Nat.le_of_ble_eq_true rfl) ?_
  unfold fX6_become_1 at e
  change Ev kX6_become RX6 3 (d + 1) nox 0 [some (.ref 16), some (.ref 41), none] [] h none q
  obtain ⟨h_1, eh_1, e⟩ := bndS e
  obtain ⟨y_11, e_12, e⟩ := bndS e
  have kx_15 : ∀ v_19 : Sto, v_19 = y_11 → Ev kX6_become RX6 3 (d + 1) nox 59 [none, none, none] [] v_19 none q := by
    intro v_19 hy
    subst hy
    obtain rfl := Option.some.inj e
    exact s_vret 35 rfl
  refine s_aload_n 0 rfl rfl <| s_aload_n 1 rfl rfl <| s_geti 2 rfl fl_X6_20 sh_41 rfl <| s_puti 3 rfl fl_X6_20 sh_16 rfl <| s_nmH (Option.some.inj eh_1) <| s_iconst 0 4 rfl (by decide) <| s_istore_n [some (.ref 16), some (.ref 41), some (.int 0)] 5 rfl (by decide) rfl <| lpS (P := fun (s_18 : (Int32 × Sto)) => Ev kX6_become RX6 3 (d + 1) nox 10 [some (.ref 16), some (.ref 41), some (.int s_18.1)] [] s_18.2 none q) ?_ FUEL _ e_12
  intro s_18 o_17 e hk_13 hx_14
  unfold fX6_become_1_b10 at e
  refine s_iload_n 6 rfl rfl <| s_aload_n 7 rfl rfl <| s_geti 8 rfl fl_X6_20 sh_16 rfl <| ?_
  rcases iteS e with ⟨g_21, e⟩ | ⟨g_21, e⟩
  · cases e
    exact s_icmp_ge_T 9 59 rfl (by decide) g_21 <| s_fgt [true, true, true] rfl <| (kx_15 s_18.2 (hx_14 _ rfl))
  · obtain ⟨g_22, e⟩ := grdS e
    obtain ⟨g_23, e⟩ := grdS e
    obtain ⟨h_24, eh_24, e⟩ := bndS e
    obtain ⟨g_25, e⟩ := grdS e
    obtain ⟨g_26, e⟩ := grdS e
    obtain ⟨g_27, e⟩ := grdS e
    obtain ⟨g_28, e⟩ := grdS e
    obtain ⟨h_29, eh_29, e⟩ := bndS e
    cases e
    exact s_icmp_ge_F 9 59 rfl (by decide) g_21 <| s_aload_n 10 rfl rfl <| s_getr 11 rfl fl_X6_16 sh_16 rfl <| s_iload_n 12 rfl rfl <| s_aload_n 13 rfl rfl <| s_getr 14 rfl fl_X6_16 sh_41 rfl <| s_iload_n 15 rfl rfl <| s_iald (Int32.toNatClampNeg s_18.1) 16 rfl sh_49 g_22 rfl <| s_iast (Int32.toNatClampNeg s_18.1) 17 rfl sh_24 g_23 rfl <| s_nmH (Option.some.inj eh_24) <| s_aload_n 18 rfl rfl <| s_getr 19 rfl fl_X6_11 sh_41 rfl <| s_iload_n 20 rfl rfl <| s_aald2 (43 + (Int32.toNatClampNeg s_18.1)) 21 rfl sh_42 rfl g_25 <| s_iconst 0 22 rfl (by decide) <| s_aload_n 23 rfl rfl <| s_getr 24 rfl fl_X6_11 sh_16 rfl <| s_iload_n 25 rfl rfl <| s_aald2 (18 + (Int32.toNatClampNeg s_18.1)) 26 rfl sh_17 rfl g_26 <| s_iconst 0 27 rfl (by decide) <| s_aload_n 28 rfl rfl <| s_getr 29 rfl fl_X6_16 sh_16 rfl <| s_iload_n 30 rfl rfl <| s_iald (Int32.toNatClampNeg s_18.1) 31 rfl sh_24 g_27 rfl <| s_copy 32 rfl ml_X6_28 wCpy (srw_43 _ (inb_lt g_25)) (srw_18 _ (inb_lt g_26)) g_28 (Nat.le_of_ble_eq_true rfl) <| s_nmH (Option.some.inj eh_29) <| s_iinc 1 [some (.ref 16), some (.ref 41), some (.int (s_18.1 + 1))] 33 rfl (by decide) rfl (by decide) rfl <| s_goto 34 10 rfl (by decide) <| (hk_13 ((s_18.1 + 1), h_29) rfl)
def fX3_become_1 (h : Sto) : Option Sto :=
  (fX1_become_1 h).bind fun q_1 => (fX0_become_1 q_1).bind fun q_3 => (fX6_become_1 q_3).bind fun q_5 => grd ((¬ (0 : Int32) < 0 ∧ ¬ (0 : Int32) < 0 ∧ ¬ (10 : Int32) < 0) ∧ (Int32.toNatClampNeg 0) + (Int32.toNatClampNeg 10) ≤ 10 ∧ (Int32.toNatClampNeg 0) + (Int32.toNatClampNeg 10) ≤ 10) <| (some (sr q_5 25 (va_cpy (q_5 50) (q_5 25) (Int32.toNatClampNeg 0) (Int32.toNatClampNeg 0) (Int32.toNatClampNeg 10)))).bind fun h_8 => (some (su h_8 1 4 (h_8 26 4))).bind fun h_9 => some h_9
set_option maxRecDepth 100000 in
set_option maxHeartbeats 4000000 in
theorem okX3_become_1 (d : Nat) (h : Sto) (q : Sto) (e : fX3_become_1 h = some q) : Ok yX3_become cX3_become 2 none (d + 2) [.ref 1, .ref 26] h none q := by
  refine Ok_of (lst := kX3_become) (own := RX3) ⟨by decide, rfl⟩ ckX3_become trivial (Nat.le_of_ble_eq_true rfl) ?_
  unfold fX3_become_1 at e
  change Ev kX3_become RX3 2 (d + 2) nox 0 [some (.ref 1), some (.ref 26)] [] h none q
  obtain ⟨q_1, e_2, e⟩ := bndS e
  obtain ⟨q_3, e_4, e⟩ := bndS e
  obtain ⟨q_5, e_6, e⟩ := bndS e
  obtain ⟨g_7, e⟩ := grdS e
  obtain ⟨h_8, eh_8, e⟩ := bndS e
  obtain ⟨h_9, eh_9, e⟩ := bndS e
  obtain rfl := Option.some.inj e
  exact s_aload_n 0 rfl rfl <| s_getr 1 rfl fl_X3_12 sh_1 rfl <| s_aload_n 2 rfl rfl <| s_getr 3 rfl fl_X3_12 sh_26 rfl <| s_callV (b := 2) (ci := 1) 4 [.ref 27] [] rfl ml_X3_123 yw_X1_become sh_2 rfl rfl (okX1_become_1 d _ _ e_2) rfl rfl (Nat.le_of_ble_eq_true rfl) <| s_aload_n 5 rfl rfl <| s_getr 6 rfl fl_X3_21 sh_1 rfl <| s_aload_n 7 rfl rfl <| s_getr 8 rfl fl_X3_21 sh_26 rfl <| s_callV (b := 10) (ci := 0) 9 [.ref 35] [] rfl ml_X3_127 yw_X0_become sh_10 rfl rfl (okX0_become_1 d _ _ e_4) rfl rfl (Nat.le_of_ble_eq_true rfl) <| s_aload_n 10 rfl rfl <| s_getr 11 rfl fl_X3_28 sh_1 rfl <| s_aload_n 12 rfl rfl <| s_getr 13 rfl fl_X3_28 sh_26 rfl <| s_callV (b := 16) (ci := 6) 14 [.ref 41] [] rfl ml_X3_130 yw_X6_become sh_16 rfl rfl (okX6_become_1 d _ _ e_6) rfl rfl (Nat.le_of_ble_eq_true rfl) <| s_aload_n 15 rfl rfl <| s_getr 16 rfl fl_X3_32 sh_26 rfl <| s_iconst 0 17 rfl (by decide) <| s_aload_n 18 rfl rfl <| s_getr 19 rfl fl_X3_32 sh_1 rfl <| s_iconst 0 20 rfl (by decide) <| s_bipush 10 21 rfl (by decide) <| s_copy 22 rfl ml_X3_133 wCpy sh_50 sh_25 g_7 (Nat.le_of_ble_eq_true rfl) <| s_nmH (Option.some.inj eh_8) <| s_aload_n 23 rfl rfl <| s_aload_n 24 rfl rfl <| s_geti 25 rfl fl_X3_36 sh_26 rfl <| s_puti 26 rfl fl_X3_36 sh_1 rfl <| s_nmH (Option.some.inj eh_9) <| s_vret 27 rfl
def fX8_undo (h : Sto) : Option (Int32 × Sto) :=
  if ¬ (h 0 2) = 0 then ((fX3_become_1 h).bind fun q_2 => some ((q_2 10 0), q_2)) else ((fX8_tellFinding (-1000004) h).bind fun q_4 => some (q_4.1, q_4.2))
set_option maxRecDepth 100000 in
set_option maxHeartbeats 4000000 in
theorem okX8_undo (d : Nat) (h : Sto) (qv : Int32) (qh : Sto) (e : fX8_undo h = some (qv, qh)) : Ok yX8_undo cX8_undo 1 (some .int) (d + 3) [.ref 0] h (some (.int qv)) qh := by
  refine Ok_of (lst := kX8_undo) (own := RX8) ⟨by decide, rfl⟩ ckX8_undo trivial (Nat.le_of_ble_eq_true rfl) ?_
  unfold fX8_undo at e
  change Ev kX8_undo RX8 1 (d + 3) nox 0 [some (.ref 0)] [] h (some (.int qv)) qh
  refine s_aload_n 0 rfl rfl <| s_geti 1 rfl fl_X8_19 sh_0 rfl <| ?_
  rcases iteS e with ⟨g_1, e⟩ | ⟨g_1, e⟩
  · obtain ⟨q_2, e_3, e⟩ := bndS e
    obtain ⟨rfl, rfl⟩ := some2 e
    exact s_if_ne_T 2 14 rfl (by decide) g_1 <| s_aload_n 7 rfl rfl <| s_getr 8 rfl fl_X8_12 sh_0 rfl <| s_aload_n 9 rfl rfl <| s_getr 10 rfl fl_X8_16 sh_0 rfl <| s_callV (b := 1) (ci := 3) 11 [.ref 26] [] rfl ml_X8_313 yw_X3_become sh_1 rfl rfl (okX3_become_1 d _ _ e_3) rfl rfl (Nat.le_of_ble_eq_true rfl) <| s_aload_n 12 rfl rfl <| s_getr 13 rfl fl_X8_12 sh_0 rfl <| s_getr 14 rfl fl_X8_134 sh_1 rfl <| s_geti 15 rfl fl_X8_138 sh_10 rfl <| s_iret 16 rfl
  · obtain ⟨q_4, e_5, e⟩ := bndS e
    obtain ⟨rfl, rfl⟩ := some2 e
    exact s_if_ne_F 2 14 rfl (by decide) (Decidable.not_not.mp g_1) <| s_aload_n 3 rfl rfl <| s_ldc 4 rfl wc_X8_133 <| s_callV (b := 0) (ci := 8) 5 [.int (-1000004)] [] rfl ml_X8_70 yw_X8_tellFinding sh_0 rfl rfl (okX8_tellFinding (d + 1) _ _ q_4.1 q_4.2 e_5) rfl rfl (Nat.le_of_ble_eq_true rfl) <| s_iret 6 rfl
def fX9_undo_b16 (c1 : Int32) (h : Sto) : Option ((Int32 × Sto) ⊕ Sto) :=
  if 1214 ≤ c1 then (some (.inr h)) else (grd (inb c1 1214) <| grd (inb c1 1214) <| (some (su h 84 (Int32.toNatClampNeg c1) (h 85 (Int32.toNatClampNeg c1)))).bind fun h_5 => some (.inl ((c1 + 1), h_5)))
def fX9_undo (h : Sto) : Option (Int32 × Sto) :=
  if ¬ (h 83 2) = 0 then ((lp (fun s => fX9_undo_b16 s.1 s.2) FUEL (0, h)).bind fun v_14 => some ((v_14 84 1), v_14)) else ((fX9_finds (-1000004) h).bind fun q_20 => some (q_20.1, q_20.2))
set_option maxRecDepth 100000 in
set_option maxHeartbeats 4000000 in
theorem okX9_undo (d : Nat) (h : Sto) (qv : Int32) (qh : Sto) (e : fX9_undo h = some (qv, qh)) : Ok yX9_undo cX9_undo 2 (some .int) (d + 1) [.ref 83] h (some (.int qv)) qh := by
  refine Ok_of (lst := kX9_undo) (own := RX9) ⟨by decide, rfl⟩ ckX9_undo trivial (Nat.le_of_ble_eq_true rfl) ?_
  unfold fX9_undo at e
  change Ev kX9_undo RX9 2 (d + 1) nox 0 [some (.ref 83), none] [] h (some (.int qv)) qh
  refine s_aload_n 0 rfl rfl <| s_geti 1 rfl fl_X9_281 sh_83 rfl <| ?_
  rcases iteS e with ⟨g_1, e⟩ | ⟨g_1, e⟩
  · obtain ⟨y_6, e_7, e⟩ := bndS e
    have kx_10 : ∀ v_14 : Sto, v_14 = y_6 → Ev kX9_undo RX9 2 (d + 1) nox 41 [some (.ref 83), none] [] v_14 (some (.int qv)) qh := by
      intro v_14 hy
      subst hy
      obtain ⟨rfl, rfl⟩ := some2 e
      exact s_aload_n 22 rfl rfl <| s_getr 23 rfl fl_X9_9 sh_83 rfl <| s_iconst 1 24 rfl (by decide) <| s_iald 1 25 rfl sh_84 (by decide) (by decide) <| s_iret 26 rfl
    refine s_if_ne_T 2 14 rfl (by decide) g_1 <| s_iconst 0 7 rfl (by decide) <| s_istore_n [some (.ref 83), some (.int 0)] 8 rfl (by decide) rfl <| lpS (P := fun (s_13 : (Int32 × Sto)) => Ev kX9_undo RX9 2 (d + 1) nox 16 [some (.ref 83), some (.int s_13.1)] [] s_13.2 (some (.int qv)) qh) ?_ FUEL _ e_7
    intro s_13 o_12 e hk_8 hx_9
    unfold fX9_undo_b16 at e
    refine s_iload_n 9 rfl rfl <| s_sipush 1214 10 rfl (by decide) <| ?_
    rcases iteS e with ⟨g_16, e⟩ | ⟨g_16, e⟩
    · cases e
      exact s_icmp_ge_T 11 41 rfl (by decide) g_16 <| s_fgt [false, true] rfl <| (kx_10 s_13.2 (hx_9 _ rfl))
    · obtain ⟨g_17, e⟩ := grdS e
      obtain ⟨g_18, e⟩ := grdS e
      obtain ⟨h_19, eh_19, e⟩ := bndS e
      cases e
      exact s_icmp_ge_F 11 41 rfl (by decide) g_16 <| s_aload_n 12 rfl rfl <| s_getr 13 rfl fl_X9_9 sh_83 rfl <| s_iload_n 14 rfl rfl <| s_aload_n 15 rfl rfl <| s_getr 16 rfl fl_X9_13 sh_83 rfl <| s_iload_n 17 rfl rfl <| s_iald (Int32.toNatClampNeg s_13.1) 18 rfl sh_85 g_17 rfl <| s_iast (Int32.toNatClampNeg s_13.1) 19 rfl sh_84 g_18 rfl <| s_nmH (Option.some.inj eh_19) <| s_iinc 1 [some (.ref 83), some (.int (s_13.1 + 1))] 20 rfl (by decide) rfl (by decide) rfl <| s_goto 21 16 rfl (by decide) <| (hk_8 ((s_13.1 + 1), h_19) rfl)
  · obtain ⟨q_20, e_21, e⟩ := bndS e
    obtain ⟨rfl, rfl⟩ := some2 e
    exact s_if_ne_F 2 14 rfl (by decide) (Decidable.not_not.mp g_1) <| s_aload_n 3 rfl rfl <| s_ldc 4 rfl wc_X9_122 <| s_callV (b := 83) (ci := 9) 5 [.int (-1000004)] [] rfl ml_X9_64 yw_X9_finds sh_83 rfl rfl (okX9_finds d _ _ q_20.1 q_20.2 e_21) rfl rfl (Nat.le_of_ble_eq_true rfl) <| s_iret 6 rfl
def fX8_tear (h : Sto) : Option (Int32 × Sto) :=
  (fX8_asInt (h 0 2) h).bind fun q_1 => (some (su h 0 2 0)).bind fun h_3 => some (q_1, h_3)
set_option maxRecDepth 100000 in
set_option maxHeartbeats 4000000 in
theorem okX8_tear (d : Nat) (h : Sto) (qv : Int32) (qh : Sto) (e : fX8_tear h = some (qv, qh)) : Ok yX8_tear cX8_tear 2 (some .int) (d + 1) [.ref 0] h (some (.int qv)) qh := by
  refine Ok_of (lst := kX8_tear) (own := RX8) ⟨by decide, rfl⟩ ckX8_tear trivial (Nat.le_of_ble_eq_true rfl) ?_
  unfold fX8_tear at e
  change Ev kX8_tear RX8 2 (d + 1) nox 0 [some (.ref 0), none] [] h (some (.int qv)) qh
  obtain ⟨q_1, e_2, e⟩ := bndS e
  obtain ⟨h_3, eh_3, e⟩ := bndS e
  obtain ⟨rfl, rfl⟩ := some2 e
  exact s_aload_n 0 rfl rfl <| s_geti 1 rfl fl_X8_19 sh_0 rfl <| s_callS 2 [.int (h 0 2)] [] rfl ml_X8_99 yw_X8_asInt (okX8_asInt d _ _ _ e_2) rfl rfl (Nat.le_of_ble_eq_true rfl) <| s_istore_n [some (.ref 0), some (.int q_1)] 3 rfl (by decide) rfl <| s_aload_n 4 rfl rfl <| s_iconst 0 5 rfl (by decide) <| s_putz 6 rfl fl_X8_19 sh_0 rfl (by decide) <| s_nmH (Option.some.inj eh_3) <| s_iload_n 7 rfl rfl <| s_iret 8 rfl
def fX9_tear (h : Sto) : Option (Int32 × Sto) :=
  if (h 83 2) = 0 then ((some (su h 83 2 0)).bind fun h_2 => some (0, h_2)) else ((some (su h 83 2 0)).bind fun h_3 => some (1, h_3))
set_option maxRecDepth 100000 in
set_option maxHeartbeats 4000000 in
theorem okX9_tear (d : Nat) (h : Sto) (qv : Int32) (qh : Sto) (e : fX9_tear h = some (qv, qh)) : Ok yX9_tear cX9_tear 2 (some .int) d [.ref 83] h (some (.int qv)) qh := by
  refine Ok_of (lst := kX9_tear) (own := RX9) ⟨by decide, rfl⟩ ckX9_tear trivial (Nat.le_of_ble_eq_true rfl) ?_
  unfold fX9_tear at e
  change Ev kX9_tear RX9 2 d nox 0 [some (.ref 83), none] [] h (some (.int qv)) qh
  refine s_aload_n 0 rfl rfl <| s_geti 1 rfl fl_X9_281 sh_83 rfl <| ?_
  rcases iteS e with ⟨g_1, e⟩ | ⟨g_1, e⟩
  · obtain ⟨h_2, eh_2, e⟩ := bndS e
    obtain ⟨rfl, rfl⟩ := some2 e
    exact s_if_eq_T 2 11 rfl (by decide) g_1 <| s_iconst 0 5 rfl (by decide) <| s_istore_n [some (.ref 83), some (.int 0)] 6 rfl (by decide) rfl <| s_aload_n 7 rfl rfl <| s_iconst 0 8 rfl (by decide) <| s_putz 9 rfl fl_X9_281 sh_83 rfl (by decide) <| s_nmH (Option.some.inj eh_2) <| s_iload_n 10 rfl rfl <| s_iret 11 rfl
  · obtain ⟨h_3, eh_3, e⟩ := bndS e
    obtain ⟨rfl, rfl⟩ := some2 e
    exact s_if_eq_F 2 11 rfl (by decide) g_1 <| s_iconst 1 3 rfl (by decide) <| s_goto 4 12 rfl (by decide) <| s_istore_n [some (.ref 83), some (.int 1)] 6 rfl (by decide) rfl <| s_aload_n 7 rfl rfl <| s_iconst 0 8 rfl (by decide) <| s_putz 9 rfl fl_X9_281 sh_83 rfl (by decide) <| s_nmH (Option.some.inj eh_3) <| s_iload_n 10 rfl rfl <| s_iret 11 rfl
def fX8_count (x1 : Int32) (h : Sto) : Option (Int32 × Sto) :=
  if x1 < 0 ∨ 8 < x1 then ((fX8_tellFinding (-1000001) h).bind fun q_2 => some (q_2.1, q_2.2)) else if x1 = 0 then (some ((h 2 0), h)) else if x1 = 1 then (some ((h 10 0), h)) else if x1 = 2 then (some ((h 10 1), h)) else if x1 = 3 then (some ((h 10 2), h)) else if x1 = 4 then (some ((h 16 0), h)) else if x1 = 5 then (some ((h 0 4), h)) else if x1 = 6 then ((fJ6_bitCount_0f7a4 (h 2 1) h).bind fun q_11 => some (q_11, h)) else if x1 = 7 then ((fJ6_bitCount_0f7a4 (h 2 2) h).bind fun q_14 => some (q_14, h)) else if x1 = 8 then (some ((h 1 4), h)) else none
set_option maxRecDepth 100000 in
set_option maxHeartbeats 4000000 in
theorem okX8_count (d : Nat) (x1 : Int32) (h : Sto) (qv : Int32) (qh : Sto) (e : fX8_count x1 h = some (qv, qh)) : Ok yX8_count cX8_count 2 (some .int) (d + 2) [.ref 0, .int x1] h (some (.int qv)) qh := by
  refine Ok_of (lst := kX8_count) (own := RX8) ⟨by decide, rfl⟩ ckX8_count trivial (Nat.le_of_ble_eq_true rfl) ?_
  unfold fX8_count at e
  change Ev kX8_count RX8 2 (d + 2) nox 0 [some (.ref 0), some (.int x1)] [] h (some (.int qv)) qh
  refine s_iload_n 0 rfl rfl <| ?_
  rcases iteS e with ⟨g_1, e⟩ | ⟨g_1, e⟩
  · obtain ⟨q_2, e_3, e⟩ := bndS e
    obtain ⟨rfl, rfl⟩ := some2 e
    exact s_swOut 0 8 1 148 rfl g_1 (by decide) <| s_aload_n 46 rfl rfl <| s_ldc 47 rfl wc_X8_69 <| s_callV (b := 0) (ci := 8) 48 [.int (-1000001)] [] rfl ml_X8_70 yw_X8_tellFinding sh_0 rfl rfl (okX8_tellFinding d _ _ q_2.1 q_2.2 e_3) rfl rfl (Nat.le_of_ble_eq_true rfl) <| s_iret 49 rfl
  rcases iteS e with ⟨g_4, e⟩ | ⟨g_4, e⟩
  · obtain ⟨rfl, rfl⟩ := some2 e
    exact s_swIn (off := 51) 0 1 52 rfl g_4 (by decide) <| s_aload_n 2 rfl rfl <| s_getr 3 rfl fl_X8_12 sh_0 rfl <| s_getr 4 rfl fl_X8_74 sh_1 rfl <| s_geti 5 rfl fl_X8_78 sh_2 rfl <| s_iret 6 rfl
  rcases iteS e with ⟨g_5, e⟩ | ⟨g_5, e⟩
  · obtain ⟨rfl, rfl⟩ := some2 e
    exact s_swIn (off := 62) 1 1 63 rfl g_5 (by decide) <| s_aload_n 7 rfl rfl <| s_getr 8 rfl fl_X8_12 sh_0 rfl <| s_getr 9 rfl fl_X8_134 sh_1 rfl <| s_geti 10 rfl fl_X8_138 sh_10 rfl <| s_iret 11 rfl
  rcases iteS e with ⟨g_6, e⟩ | ⟨g_6, e⟩
  · obtain ⟨rfl, rfl⟩ := some2 e
    exact s_swIn (off := 73) 2 1 74 rfl g_6 (by decide) <| s_aload_n 12 rfl rfl <| s_getr 13 rfl fl_X8_12 sh_0 rfl <| s_getr 14 rfl fl_X8_134 sh_1 rfl <| s_geti 15 rfl fl_X8_312 sh_10 rfl <| s_iret 16 rfl
  rcases iteS e with ⟨g_7, e⟩ | ⟨g_7, e⟩
  · obtain ⟨rfl, rfl⟩ := some2 e
    exact s_swIn (off := 84) 3 1 85 rfl g_7 (by decide) <| s_aload_n 17 rfl rfl <| s_getr 18 rfl fl_X8_12 sh_0 rfl <| s_getr 19 rfl fl_X8_134 sh_1 rfl <| s_geti 20 rfl fl_X8_317 sh_10 rfl <| s_iret 21 rfl
  rcases iteS e with ⟨g_8, e⟩ | ⟨g_8, e⟩
  · obtain ⟨rfl, rfl⟩ := some2 e
    exact s_swIn (off := 95) 4 1 96 rfl g_8 (by decide) <| s_aload_n 22 rfl rfl <| s_getr 23 rfl fl_X8_12 sh_0 rfl <| s_getr 24 rfl fl_X8_181 sh_1 rfl <| s_geti 25 rfl fl_X8_185 sh_16 rfl <| s_iret 26 rfl
  rcases iteS e with ⟨g_9, e⟩ | ⟨g_9, e⟩
  · obtain ⟨rfl, rfl⟩ := some2 e
    exact s_swIn (off := 106) 5 1 107 rfl g_9 (by decide) <| s_aload_n 27 rfl rfl <| s_geti 28 rfl fl_X8_27 sh_0 rfl <| s_iret 29 rfl
  rcases iteS e with ⟨g_10, e⟩ | ⟨g_10, e⟩
  · obtain ⟨q_11, e_12, e⟩ := bndS e
    obtain ⟨rfl, rfl⟩ := some2 e
    exact s_swIn (off := 111) 6 1 112 rfl g_10 (by decide) <| s_aload_n 30 rfl rfl <| s_getr 31 rfl fl_X8_12 sh_0 rfl <| s_getr 32 rfl fl_X8_74 sh_1 rfl <| s_geti 33 rfl fl_X8_92 sh_2 rfl <| s_callS 34 [.int (h 2 1)] [] rfl ml_X8_117 yw_J6_bitCount_0f7a4 (okJ6_bitCount_0f7a4 (d + 1) _ _ _ e_12) rfl rfl (Nat.le_of_ble_eq_true rfl) <| s_iret 35 rfl
  rcases iteS e with ⟨g_13, e⟩ | ⟨g_13, e⟩
  · obtain ⟨q_14, e_15, e⟩ := bndS e
    obtain ⟨rfl, rfl⟩ := some2 e
    exact s_swIn (off := 125) 7 1 126 rfl g_13 (by decide) <| s_aload_n 36 rfl rfl <| s_getr 37 rfl fl_X8_12 sh_0 rfl <| s_getr 38 rfl fl_X8_74 sh_1 rfl <| s_geti 39 rfl fl_X8_219 sh_2 rfl <| s_callS 40 [.int (h 2 2)] [] rfl ml_X8_117 yw_J6_bitCount_0f7a4 (okJ6_bitCount_0f7a4 (d + 1) _ _ _ e_15) rfl rfl (Nat.le_of_ble_eq_true rfl) <| s_iret 41 rfl
  rcases iteS e with ⟨g_16, e⟩ | ⟨g_16, e⟩
  · obtain ⟨rfl, rfl⟩ := some2 e
    exact s_swIn (off := 139) 8 1 140 rfl g_16 (by decide) <| s_aload_n 42 rfl rfl <| s_getr 43 rfl fl_X8_12 sh_0 rfl <| s_geti 44 rfl fl_X8_265 sh_1 rfl <| s_iret 45 rfl
  cases e
def fX9_count (x1 : Int32) (h : Sto) : Option (Int32 × Sto) :=
  if x1 < 0 ∨ 8 < x1 then ((fX9_finds (-1000001) h).bind fun q_2 => some (q_2.1, q_2.2)) else if x1 = 0 then (grd (inb x1 1214) <| some ((h 84 (Int32.toNatClampNeg x1)), h)) else if x1 = 1 then (grd (inb x1 1214) <| some ((h 84 (Int32.toNatClampNeg x1)), h)) else if x1 = 2 then (grd (inb x1 1214) <| some ((h 84 (Int32.toNatClampNeg x1)), h)) else if x1 = 3 then (grd (inb x1 1214) <| some ((h 84 (Int32.toNatClampNeg x1)), h)) else if x1 = 4 then (grd (inb x1 1214) <| some ((h 84 (Int32.toNatClampNeg x1)), h)) else if x1 = 5 then (some ((h 83 6), h)) else if x1 = 6 then ((fX9_howMany 6 h).bind fun q_16 => some (q_16, h)) else if x1 = 7 then ((fX9_howMany 7 h).bind fun q_19 => some (q_19, h)) else if x1 = 8 then (some ((h 84 5), h)) else none
set_option maxRecDepth 100000 in
set_option maxHeartbeats 4000000 in
theorem okX9_count (d : Nat) (x1 : Int32) (h : Sto) (qv : Int32) (qh : Sto) (e : fX9_count x1 h = some (qv, qh)) : Ok yX9_count cX9_count 2 (some .int) (d + 2) [.ref 83, .int x1] h (some (.int qv)) qh := by
  refine Ok_of (lst := kX9_count) (own := RX9) ⟨by decide, rfl⟩ ckX9_count trivial (Nat.le_of_ble_eq_true rfl) ?_
  unfold fX9_count at e
  change Ev kX9_count RX9 2 (d + 2) nox 0 [some (.ref 83), some (.int x1)] [] h (some (.int qv)) qh
  refine s_iload_n 0 rfl rfl <| ?_
  rcases iteS e with ⟨g_1, e⟩ | ⟨g_1, e⟩
  · obtain ⟨q_2, e_3, e⟩ := bndS e
    obtain ⟨rfl, rfl⟩ := some2 e
    exact s_swOut 0 8 1 85 rfl g_1 (by decide) <| s_aload_n 23 rfl rfl <| s_ldc 24 rfl wc_X9_47 <| s_callV (b := 83) (ci := 9) 25 [.int (-1000001)] [] rfl ml_X9_64 yw_X9_finds sh_83 rfl rfl (okX9_finds (d + 1) _ _ q_2.1 q_2.2 e_3) rfl rfl (Nat.le_of_ble_eq_true rfl) <| s_iret 26 rfl
  rcases iteS e with ⟨g_4, e⟩ | ⟨g_4, e⟩
  · obtain ⟨g_5, e⟩ := grdS e
    obtain ⟨rfl, rfl⟩ := some2 e
    exact s_swIn (off := 51) 0 1 52 rfl g_4 (by decide) <| s_aload_n 2 rfl rfl <| s_getr 3 rfl fl_X9_9 sh_83 rfl <| s_iload_n 4 rfl rfl <| s_iald (Int32.toNatClampNeg x1) 5 rfl sh_84 g_5 rfl <| s_iret 6 rfl
  rcases iteS e with ⟨g_6, e⟩ | ⟨g_6, e⟩
  · obtain ⟨g_7, e⟩ := grdS e
    obtain ⟨rfl, rfl⟩ := some2 e
    exact s_swIn (off := 51) 1 1 52 rfl g_6 (by decide) <| s_aload_n 2 rfl rfl <| s_getr 3 rfl fl_X9_9 sh_83 rfl <| s_iload_n 4 rfl rfl <| s_iald (Int32.toNatClampNeg x1) 5 rfl sh_84 g_7 rfl <| s_iret 6 rfl
  rcases iteS e with ⟨g_8, e⟩ | ⟨g_8, e⟩
  · obtain ⟨g_9, e⟩ := grdS e
    obtain ⟨rfl, rfl⟩ := some2 e
    exact s_swIn (off := 51) 2 1 52 rfl g_8 (by decide) <| s_aload_n 2 rfl rfl <| s_getr 3 rfl fl_X9_9 sh_83 rfl <| s_iload_n 4 rfl rfl <| s_iald (Int32.toNatClampNeg x1) 5 rfl sh_84 g_9 rfl <| s_iret 6 rfl
  rcases iteS e with ⟨g_10, e⟩ | ⟨g_10, e⟩
  · obtain ⟨g_11, e⟩ := grdS e
    obtain ⟨rfl, rfl⟩ := some2 e
    exact s_swIn (off := 51) 3 1 52 rfl g_10 (by decide) <| s_aload_n 2 rfl rfl <| s_getr 3 rfl fl_X9_9 sh_83 rfl <| s_iload_n 4 rfl rfl <| s_iald (Int32.toNatClampNeg x1) 5 rfl sh_84 g_11 rfl <| s_iret 6 rfl
  rcases iteS e with ⟨g_12, e⟩ | ⟨g_12, e⟩
  · obtain ⟨g_13, e⟩ := grdS e
    obtain ⟨rfl, rfl⟩ := some2 e
    exact s_swIn (off := 51) 4 1 52 rfl g_12 (by decide) <| s_aload_n 2 rfl rfl <| s_getr 3 rfl fl_X9_9 sh_83 rfl <| s_iload_n 4 rfl rfl <| s_iald (Int32.toNatClampNeg x1) 5 rfl sh_84 g_13 rfl <| s_iret 6 rfl
  rcases iteS e with ⟨g_14, e⟩ | ⟨g_14, e⟩
  · obtain ⟨rfl, rfl⟩ := some2 e
    exact s_swIn (off := 58) 5 1 59 rfl g_14 (by decide) <| s_aload_n 7 rfl rfl <| s_geti 8 rfl fl_X9_161 sh_83 rfl <| s_iret 9 rfl
  rcases iteS e with ⟨g_15, e⟩ | ⟨g_15, e⟩
  · obtain ⟨q_16, e_17, e⟩ := bndS e
    obtain ⟨rfl, rfl⟩ := some2 e
    exact s_swIn (off := 63) 6 1 64 rfl g_15 (by decide) <| s_aload_n 10 rfl rfl <| s_bipush 6 11 rfl (by decide) <| s_callV (b := 83) (ci := 9) 12 [.int 6] [] rfl ml_X9_244 yw_X9_howMany sh_83 rfl rfl (okX9_howMany d _ _ _ e_17) rfl rfl (Nat.le_of_ble_eq_true rfl) <| s_iret 13 rfl
  rcases iteS e with ⟨g_18, e⟩ | ⟨g_18, e⟩
  · obtain ⟨q_19, e_20, e⟩ := bndS e
    obtain ⟨rfl, rfl⟩ := some2 e
    exact s_swIn (off := 70) 7 1 71 rfl g_18 (by decide) <| s_aload_n 14 rfl rfl <| s_bipush 7 15 rfl (by decide) <| s_callV (b := 83) (ci := 9) 16 [.int 7] [] rfl ml_X9_244 yw_X9_howMany sh_83 rfl rfl (okX9_howMany d _ _ _ e_20) rfl rfl (Nat.le_of_ble_eq_true rfl) <| s_iret 17 rfl
  rcases iteS e with ⟨g_21, e⟩ | ⟨g_21, e⟩
  · obtain ⟨rfl, rfl⟩ := some2 e
    exact s_swIn (off := 77) 8 1 78 rfl g_21 (by decide) <| s_aload_n 18 rfl rfl <| s_getr 19 rfl fl_X9_9 sh_83 rfl <| s_iconst 5 20 rfl (by decide) <| s_iald 5 21 rfl sh_84 (by decide) (by decide) <| s_iret 22 rfl
  cases e
def fX8_status_b32 (h : Sto) (c2 : Int32) (c3 : Int32) : Option ((Int32 × Int32) ⊕ Int32) :=
  if 7 ≤ c3 then (some (.inr c2)) else (grd (inb c3 7) <| some (.inl ((c2 + (h 61 (Int32.toNatClampNeg c3))), (c3 + 1))))
def fX8_status (x1 : Int32) (h : Sto) : Option (Int32 × Sto) :=
  (fX8_isWithin x1 (-1) 6 h).bind fun q_1 => if q_1 = true then (if x1 < 0 then ((lp (fun s => fX8_status_b32 h s.1 s.2) FUEL (0, 0)).bind fun v_15 => some (v_15, h)) else (grd (inb x1 7) <| some ((h 61 (Int32.toNatClampNeg x1)), h))) else ((fX8_tellFinding (-1000001) h).bind fun q_20 => some (q_20.1, q_20.2))
set_option maxRecDepth 100000 in
set_option maxHeartbeats 4000000 in
theorem okX8_status (d : Nat) (x1 : Int32) (h : Sto) (qv : Int32) (qh : Sto) (e : fX8_status x1 h = some (qv, qh)) : Ok yX8_status cX8_status 4 (some .int) (d + 2) [.ref 0, .int x1] h (some (.int qv)) qh := by
  refine Ok_of (lst := kX8_status) (own := RX8) ⟨by decide, rfl⟩ ckX8_status trivial (Nat.le_of_ble_eq_true rfl) ?_
  unfold fX8_status at e
  change Ev kX8_status RX8 4 (d + 2) nox 0 [some (.ref 0), some (.int x1), none, none] [] h (some (.int qv)) qh
  obtain ⟨q_1, e_2, e⟩ := bndS e
  refine s_iload_n 0 rfl rfl <| s_iconst (-1) 1 rfl (by decide) <| s_bipush 6 2 rfl (by decide) <| s_callS 3 [.int x1, .int (-1), .int 6] [] rfl ml_X8_65 yw_X8_isWithin (okX8_isWithin (d + 1) _ _ _ _ _ e_2) rfl rfl (Nat.le_of_ble_eq_true rfl) <| ?_
  rcases iteS e with ⟨g_3, e⟩ | ⟨g_3, e⟩
  · refine s_if_ne_T 4 17 rfl (by decide) (b2i_T g_3) <| s_iload_n 9 rfl rfl <| ?_
    rcases iteS e with ⟨g_4, e⟩ | ⟨g_4, e⟩
    · obtain ⟨y_7, e_8, e⟩ := bndS e
      have kx_11 : ∀ v_15 : Int32, v_15 = y_7 → Ev kX8_status RX8 4 (d + 2) nox 53 [none, none, some (.int v_15), none] [] h (some (.int qv)) qh := by
        intro v_15 hy
        subst hy
        obtain ⟨rfl, rfl⟩ := some2 e
        exact s_iload_n 32 rfl rfl <| s_iret 33 rfl
      refine s_if_lt_T 10 28 rfl (by decide) g_4 <| s_iconst 0 16 rfl (by decide) <| s_istore_n [some (.ref 0), some (.int x1), some (.int 0), none] 17 rfl (by decide) rfl <| s_iconst 0 18 rfl (by decide) <| s_istore_n [some (.ref 0), some (.int x1), some (.int 0), some (.int 0)] 19 rfl (by decide) rfl <| s_fgt [false, true] rfl <| lpS (P := fun (s_14 : (Int32 × Int32)) => Ev kX8_status RX8 4 (d + 2) nox 32 [some (.ref 0), none, some (.int s_14.1), some (.int s_14.2)] [] h (some (.int qv)) qh) ?_ FUEL _ e_8
      intro s_14 o_13 e hk_9 hx_10
      unfold fX8_status_b32 at e
      refine s_iload_n 20 rfl rfl <| s_bipush 7 21 rfl (by decide) <| ?_
      rcases iteS e with ⟨g_17, e⟩ | ⟨g_17, e⟩
      · cases e
        exact s_icmp_ge_T 22 53 rfl (by decide) g_17 <| s_fgt [true, false, false, true] rfl <| (kx_11 s_14.1 (hx_10 _ rfl))
      · obtain ⟨g_18, e⟩ := grdS e
        cases e
        exact s_icmp_ge_F 22 53 rfl (by decide) g_17 <| s_iload_n 23 rfl rfl <| s_aload_n 24 rfl rfl <| s_getr 25 rfl fl_X8_38 sh_0 rfl <| s_iload_n 26 rfl rfl <| s_iald (Int32.toNatClampNeg s_14.2) 27 rfl sh_61 g_18 rfl <| s_iadd 28 rfl <| s_istore_n [some (.ref 0), none, some (.int (s_14.1 + (h 61 (Int32.toNatClampNeg s_14.2)))), some (.int s_14.2)] 29 rfl (by decide) rfl <| s_iinc 1 [some (.ref 0), none, some (.int (s_14.1 + (h 61 (Int32.toNatClampNeg s_14.2)))), some (.int (s_14.2 + 1))] 30 rfl (by decide) rfl (by decide) rfl <| s_goto 31 32 rfl (by decide) <| (hk_9 ((s_14.1 + (h 61 (Int32.toNatClampNeg s_14.2))), (s_14.2 + 1)) rfl)
    · obtain ⟨g_19, e⟩ := grdS e
      obtain ⟨rfl, rfl⟩ := some2 e
      exact s_if_lt_F 10 28 rfl (by decide) g_4 <| s_aload_n 11 rfl rfl <| s_getr 12 rfl fl_X8_38 sh_0 rfl <| s_iload_n 13 rfl rfl <| s_iald (Int32.toNatClampNeg x1) 14 rfl sh_61 g_19 rfl <| s_iret 15 rfl
  · obtain ⟨q_20, e_21, e⟩ := bndS e
    obtain ⟨rfl, rfl⟩ := some2 e
    exact s_if_ne_F 4 17 rfl (by decide) (b2i_F g_3) <| s_aload_n 5 rfl rfl <| s_ldc 6 rfl wc_X8_69 <| s_callV (b := 0) (ci := 8) 7 [.int (-1000001)] [] rfl ml_X8_70 yw_X8_tellFinding sh_0 rfl rfl (okX8_tellFinding d _ _ q_20.1 q_20.2 e_21) rfl rfl (Nat.le_of_ble_eq_true rfl) <| s_iret 8 rfl
def fX9_status_b25 (x1 : Int32) (h : Sto) (c2 : Int32) (c3 : Int32) : Option ((Int32 × Int32) ⊕ Int32) :=
  if 7 ≤ c3 then (some (.inr c2)) else (if x1 < 0 then (grd (inb c3 7) <| some (.inl ((c2 + (h 86 (Int32.toNatClampNeg c3))), (c3 + 1)))) else (if ¬ x1 = c3 then (some (.inl ((c2 + 0), (c3 + 1)))) else (grd (inb c3 7) <| some (.inl ((c2 + (h 86 (Int32.toNatClampNeg c3))), (c3 + 1))))))
def fX9_status (x1 : Int32) (h : Sto) : Option (Int32 × Sto) :=
  (fX9_in x1.toInt64 (-1) 6 h).bind fun q_1 => if q_1 = true then ((lp (fun s => fX9_status_b25 x1 h s.1 s.2) FUEL (0, 0)).bind fun v_17 => some (v_17, h)) else ((fX9_finds (-1000001) h).bind fun q_24 => some (q_24.1, q_24.2))
set_option maxRecDepth 100000 in
set_option maxHeartbeats 4000000 in
theorem okX9_status (d : Nat) (x1 : Int32) (h : Sto) (qv : Int32) (qh : Sto) (e : fX9_status x1 h = some (qv, qh)) : Ok yX9_status cX9_status 4 (some .int) (d + 1) [.ref 83, .int x1] h (some (.int qv)) qh := by
  refine Ok_of (lst := kX9_status) (own := RX9) ⟨by decide, rfl⟩ ckX9_status trivial (Nat.le_of_ble_eq_true rfl) ?_
  unfold fX9_status at e
  change Ev kX9_status RX9 4 (d + 1) nox 0 [some (.ref 83), some (.int x1), none, none] [] h (some (.int qv)) qh
  obtain ⟨q_1, e_2, e⟩ := bndS e
  refine s_iload_n 0 rfl rfl <| s_i2l 1 rfl <| s_ldc2_w 2 rfl wc_X9_263 <| s_ldc2_w 3 rfl wc_X9_154 <| s_callS 4 [.long x1.toInt64, .long (-1), .long 6] [] rfl ml_X9_48 yw_X9_in (okX9_in d _ _ _ _ _ e_2) rfl rfl (Nat.le_of_ble_eq_true rfl) <| ?_
  rcases iteS e with ⟨g_3, e⟩ | ⟨g_3, e⟩
  · obtain ⟨y_9, e_10, e⟩ := bndS e
    have kx_13 : ∀ v_17 : Int32, v_17 = y_9 → Ev kX9_status RX9 4 (d + 1) nox 59 [none, none, some (.int v_17), none] [] h (some (.int qv)) qh := by
      intro v_17 hy
      subst hy
      obtain ⟨rfl, rfl⟩ := some2 e
      exact s_iload_n 33 rfl rfl <| s_iret 34 rfl
    refine s_if_ne_T 5 21 rfl (by decide) (b2i_T g_3) <| s_iconst 0 10 rfl (by decide) <| s_istore_n [some (.ref 83), some (.int x1), some (.int 0), none] 11 rfl (by decide) rfl <| s_iconst 0 12 rfl (by decide) <| s_istore_n [some (.ref 83), some (.int x1), some (.int 0), some (.int 0)] 13 rfl (by decide) rfl <| lpS (P := fun (s_16 : (Int32 × Int32)) => Ev kX9_status RX9 4 (d + 1) nox 25 [some (.ref 83), some (.int x1), some (.int s_16.1), some (.int s_16.2)] [] h (some (.int qv)) qh) ?_ FUEL _ e_10
    intro s_16 o_15 e hk_11 hx_12
    unfold fX9_status_b25 at e
    refine s_iload_n 14 rfl rfl <| s_bipush 7 15 rfl (by decide) <| ?_
    rcases iteS e with ⟨g_19, e⟩ | ⟨g_19, e⟩
    · cases e
      exact s_icmp_ge_T 16 59 rfl (by decide) g_19 <| s_fgt [true, true, false, true] rfl <| (kx_13 s_16.1 (hx_12 _ rfl))
    · refine s_icmp_ge_F 16 59 rfl (by decide) g_19 <| s_iload_n 17 rfl rfl <| s_iload_n 18 rfl rfl <| ?_
      rcases iteS e with ⟨g_20, e⟩ | ⟨g_20, e⟩
      · obtain ⟨g_21, e⟩ := grdS e
        cases e
        exact s_if_lt_T 19 41 rfl (by decide) g_20 <| s_aload_n 23 rfl rfl <| s_getr 24 rfl fl_X9_16 sh_83 rfl <| s_iload_n 25 rfl rfl <| s_iald (Int32.toNatClampNeg s_16.2) 26 rfl sh_86 g_21 rfl <| s_goto 27 51 rfl (by decide) <| s_iadd 29 rfl <| s_istore_n [some (.ref 83), some (.int x1), some (.int (s_16.1 + (h 86 (Int32.toNatClampNeg s_16.2)))), some (.int s_16.2)] 30 rfl (by decide) rfl <| s_iinc 1 [some (.ref 83), some (.int x1), some (.int (s_16.1 + (h 86 (Int32.toNatClampNeg s_16.2)))), some (.int (s_16.2 + 1))] 31 rfl (by decide) rfl (by decide) rfl <| s_goto 32 25 rfl (by decide) <| (hk_11 ((s_16.1 + (h 86 (Int32.toNatClampNeg s_16.2))), (s_16.2 + 1)) rfl)
      · refine s_if_lt_F 19 41 rfl (by decide) g_20 <| s_iload_n 20 rfl rfl <| s_iload_n 21 rfl rfl <| ?_
        rcases iteS e with ⟨g_22, e⟩ | ⟨g_22, e⟩
        · cases e
          exact s_icmp_ne_T 22 50 rfl (by decide) g_22 <| s_iconst 0 28 rfl (by decide) <| s_iadd 29 rfl <| s_istore_n [some (.ref 83), some (.int x1), some (.int (s_16.1 + 0)), some (.int s_16.2)] 30 rfl (by decide) rfl <| s_iinc 1 [some (.ref 83), some (.int x1), some (.int (s_16.1 + 0)), some (.int (s_16.2 + 1))] 31 rfl (by decide) rfl (by decide) rfl <| s_goto 32 25 rfl (by decide) <| (hk_11 ((s_16.1 + 0), (s_16.2 + 1)) rfl)
        · obtain ⟨g_23, e⟩ := grdS e
          cases e
          exact s_icmp_ne_F 22 50 rfl (by decide) (Decidable.not_not.mp g_22) <| s_aload_n 23 rfl rfl <| s_getr 24 rfl fl_X9_16 sh_83 rfl <| s_iload_n 25 rfl rfl <| s_iald (Int32.toNatClampNeg s_16.2) 26 rfl sh_86 g_23 rfl <| s_goto 27 51 rfl (by decide) <| s_iadd 29 rfl <| s_istore_n [some (.ref 83), some (.int x1), some (.int (s_16.1 + (h 86 (Int32.toNatClampNeg s_16.2)))), some (.int s_16.2)] 30 rfl (by decide) rfl <| s_iinc 1 [some (.ref 83), some (.int x1), some (.int (s_16.1 + (h 86 (Int32.toNatClampNeg s_16.2)))), some (.int (s_16.2 + 1))] 31 rfl (by decide) rfl (by decide) rfl <| s_goto 32 25 rfl (by decide) <| (hk_11 ((s_16.1 + (h 86 (Int32.toNatClampNeg s_16.2))), (s_16.2 + 1)) rfl)
  · obtain ⟨q_24, e_25, e⟩ := bndS e
    obtain ⟨rfl, rfl⟩ := some2 e
    exact s_if_ne_F 5 21 rfl (by decide) (b2i_F g_3) <| s_aload_n 6 rfl rfl <| s_ldc 7 rfl wc_X9_47 <| s_callV (b := 83) (ci := 9) 8 [.int (-1000001)] [] rfl ml_X9_64 yw_X9_finds sh_83 rfl rfl (okX9_finds d _ _ q_24.1 q_24.2 e_25) rfl rfl (Nat.le_of_ble_eq_true rfl) <| s_iret 9 rfl
