/-! 16 methods (written by wip/whole/gen_m.py) -/
def fX0_soldPlace_b31 (x1 : Int32) (x2 : Int32) (h : Sto) (c3 : Int64) (c5 : Int64) (c7 : Int32) (c8 : Int64) (c10 : Int64) (c12 : Int32) (c13 : Int32) : Option ((Int64 × Int64 × Int32 × Int64 × Int64 × Int32 × Int32) ⊕ Int32) :=
  if (h 10 1) ≤ c13 then (some (.inr c7)) else (if (x2 - 1) ≤ c12 then (some (.inr c7)) else (grd (inb c13 200) <| if (h 12 (Int32.toNatClampNeg c13)) = x1 then (grd (inb c13 200) <| (fX8_hourOf (h 11 (Int32.toNatClampNeg c13)) h).bind fun q_10 => grd (inb c13 200) <| (fX8_hourOf (h 11 (Int32.toNatClampNeg c13)) h).bind fun q_13 => (some ((((c5 + q_10.toInt64) * (c5 + q_10.toInt64)) * ((x2 - (c12 + 1)).toInt64)) + (((c3 - q_13.toInt64) * (c3 - q_13.toInt64)) * ((c12 + 1).toInt64)))).bind fun y_15 => if c7 < 0 then (some (.inl (c3 - q_13.toInt64, c5 + q_10.toInt64, (c12 + 1), y_15, ((c12 + 1).toInt64) * ((x2 - (c12 + 1)).toInt64), (c12 + 1), (c13 + 1)))) else (if (lg_cmp (y_15 * c10) (c8 * (((c12 + 1).toInt64) * ((x2 - (c12 + 1)).toInt64)))) ≤ 0 then (some (.inl (c3 - q_13.toInt64, c5 + q_10.toInt64, c7, c8, c10, (c12 + 1), (c13 + 1)))) else (some (.inl (c3 - q_13.toInt64, c5 + q_10.toInt64, (c12 + 1), y_15, ((c12 + 1).toInt64) * ((x2 - (c12 + 1)).toInt64), (c12 + 1), (c13 + 1)))))) else (some (.inl (c3, c5, c7, c8, c10, c12, (c13 + 1))))))
def fX0_soldPlace (x1 : Int32) (h : Sto) : Option Int32 :=
  (fX0_countOf x1 h).bind fun q_1 => (fX0_hourSum x1 h).bind fun q_3 => (lp (fun s => fX0_soldPlace_b31 x1 q_1 h s.1 s.2.1 s.2.2.1 s.2.2.2.1 s.2.2.2.2.1 s.2.2.2.2.2.1 s.2.2.2.2.2.2) FUEL (q_3.toInt64, 0, (-1), 0, 1, 0, 0)).bind fun v_26 => some v_26
set_option maxRecDepth 100000 in
set_option maxHeartbeats 4000000 in
theorem okX0_soldPlace (d : Nat) (x1 : Int32) (h : Sto) (q : Int32) (e : fX0_soldPlace x1 h = some q) : Ok yX0_soldPlace cX0_soldPlace 18 (some .int) (d + 2) [.ref 10, .int x1] h (some (.int q)) h := by
  refine Ok_of (lst := kX0_soldPlace) (own := RX0) ⟨by decide, rfl⟩ ckX0_soldPlace trivial (Nat.le_of_ble_eq_true rfl) ?_
  unfold fX0_soldPlace at e
  change Ev kX0_soldPlace RX0 18 (d + 2) nox 0 [some (.ref 10), some (.int x1), none, none, none, none, none, none, none, none, none, none, none, none, none, none, none, none] [] h (some (.int q)) h
  obtain ⟨q_1, e_2, e⟩ := bndS e
  obtain ⟨q_3, e_4, e⟩ := bndS e
  obtain ⟨y_18, e_19, e⟩ := bndS e
  have kx_22 : ∀ v_26 : Int32, v_26 = y_18 → Ev kX0_soldPlace RX0 18 (d + 2) nox 164 [none, none, none, none, none, none, none, some (.int v_26), none, none, none, none, none, none, none, none, none, none] [] h (some (.int q)) h := by
    intro v_26 hy
    subst hy
    obtain rfl := Option.some.inj e
    exact s_iload 98 rfl rfl <| s_iret 99 rfl
  refine s_aload_n 0 rfl rfl <| s_iload_n 1 rfl rfl <| s_callV (b := 10) (ci := 0) 2 [.int x1] [] rfl ml_X0_64 yw_X0_countOf sh_10 rfl rfl (okX0_countOf d _ _ _ e_2) rfl rfl (Nat.le_of_ble_eq_true rfl) <| s_istore_n [some (.ref 10), some (.int x1), some (.int q_1), none, none, none, none, none, none, none, none, none, none, none, none, none, none, none] 3 rfl (by decide) rfl <| s_aload_n 4 rfl rfl <| s_iload_n 5 rfl rfl <| s_callV (b := 10) (ci := 0) 6 [.int x1] [] rfl ml_X0_67 yw_X0_hourSum sh_10 rfl rfl (okX0_hourSum d _ _ _ e_4) rfl rfl (Nat.le_of_ble_eq_true rfl) <| s_i2l 7 rfl <| s_lstore_n [some (.ref 10), some (.int x1), some (.int q_1), some (.long q_3.toInt64), none, none, none, none, none, none, none, none, none, none, none, none, none, none] 8 rfl (by decide) rfl <| s_lconst 0 9 rfl (by decide) <| s_lstore [some (.ref 10), some (.int x1), some (.int q_1), some (.long q_3.toInt64), none, some (.long 0), none, none, none, none, none, none, none, none, none, none, none, none] 10 rfl (by decide) rfl <| s_iconst (-1) 11 rfl (by decide) <| s_istore [some (.ref 10), some (.int x1), some (.int q_1), some (.long q_3.toInt64), none, some (.long 0), none, some (.int (-1)), none, none, none, none, none, none, none, none, none, none] 12 rfl (by decide) rfl <| s_lconst 0 13 rfl (by decide) <| s_lstore [some (.ref 10), some (.int x1), some (.int q_1), some (.long q_3.toInt64), none, some (.long 0), none, some (.int (-1)), some (.long 0), none, none, none, none, none, none, none, none, none] 14 rfl (by decide) rfl <| s_lconst 1 15 rfl (by decide) <| s_lstore [some (.ref 10), some (.int x1), some (.int q_1), some (.long q_3.toInt64), none, some (.long 0), none, some (.int (-1)), some (.long 0), none, some (.long 1), none, none, none, none, none, none, none] 16 rfl (by decide) rfl <| s_iconst 0 17 rfl (by decide) <| s_istore [some (.ref 10), some (.int x1), some (.int q_1), some (.long q_3.toInt64), none, some (.long 0), none, some (.int (-1)), some (.long 0), none, some (.long 1), none, some (.int 0), none, none, none, none, none] 18 rfl (by decide) rfl <| s_iconst 0 19 rfl (by decide) <| s_istore [some (.ref 10), some (.int x1), some (.int q_1), some (.long q_3.toInt64), none, some (.long 0), none, some (.int (-1)), some (.long 0), none, some (.long 1), none, some (.int 0), some (.int 0), none, none, none, none] 20 rfl (by decide) rfl <| lpS (P := fun (s_25 : (Int64 × Int64 × Int32 × Int64 × Int64 × Int32 × Int32)) => Ev kX0_soldPlace RX0 18 (d + 2) nox 31 [some (.ref 10), some (.int x1), some (.int q_1), some (.long s_25.1), none, some (.long s_25.2.1), none, some (.int s_25.2.2.1), some (.long s_25.2.2.2.1), none, some (.long s_25.2.2.2.2.1), none, some (.int s_25.2.2.2.2.2.1), some (.int s_25.2.2.2.2.2.2), none, none, none, none] [] h (some (.int q)) h) ?_ FUEL _ e_19
  intro s_25 o_24 e hk_20 hx_21
  unfold fX0_soldPlace_b31 at e
  refine s_iload 21 rfl rfl <| s_aload_n 22 rfl rfl <| s_geti 23 rfl fl_X0_28 sh_10 rfl <| ?_
  rcases iteS e with ⟨g_28, e⟩ | ⟨g_28, e⟩
  · cases e
    exact s_icmp_ge_T 24 164 rfl (by decide) g_28 <| s_fgt [true, true, true, true, false, true, false, false, true, false, true, false, true, true] rfl <| (kx_22 s_25.2.2.1 (hx_21 _ rfl))
  · refine s_icmp_ge_F 24 164 rfl (by decide) g_28 <| s_iload 25 rfl rfl <| s_iload_n 26 rfl rfl <| s_iconst 1 27 rfl (by decide) <| s_isub 28 rfl <| ?_
    rcases iteS e with ⟨g_29, e⟩ | ⟨g_29, e⟩
    · cases e
      exact s_icmp_ge_T 29 164 rfl (by decide) g_29 <| s_fgt [true, true, true, true, false, true, false, false, true, false, true, false, true, true] rfl <| (kx_22 s_25.2.2.1 (hx_21 _ rfl))
    · obtain ⟨g_30, e⟩ := grdS e
      refine s_icmp_ge_F 29 164 rfl (by decide) g_29 <| s_aload_n 30 rfl rfl <| s_getr 31 rfl fl_X0_15 sh_10 rfl <| s_iload 32 rfl rfl <| s_iald (Int32.toNatClampNeg s_25.2.2.2.2.2.2) 33 rfl sh_12 g_30 rfl <| s_iload_n 34 rfl rfl <| ?_
      rcases iteS e with ⟨g_31, e⟩ | ⟨g_31, e⟩
      · obtain ⟨g_32, e⟩ := grdS e
        obtain ⟨q_33, e_34, e⟩ := bndS e
        obtain ⟨g_35, e⟩ := grdS e
        obtain ⟨q_36, e_37, e⟩ := bndS e
        obtain ⟨y_38, ey_38, e⟩ := bndS e
        refine s_icmp_eq_T 35 62 rfl (by decide) g_31 <| s_iinc 1 [some (.ref 10), some (.int x1), some (.int q_1), some (.long s_25.1), none, some (.long s_25.2.1), none, some (.int s_25.2.2.1), some (.long s_25.2.2.2.1), none, some (.long s_25.2.2.2.2.1), none, some (.int (s_25.2.2.2.2.2.1 + 1)), some (.int s_25.2.2.2.2.2.2), none, none, none, none] 37 rfl (by decide) rfl (by decide) rfl <| s_lload 38 rfl rfl <| s_aload_n 39 rfl rfl <| s_getr 40 rfl fl_X0_9 sh_10 rfl <| s_iload 41 rfl rfl <| s_iald (Int32.toNatClampNeg s_25.2.2.2.2.2.2) 42 rfl sh_11 g_32 rfl <| s_callSN 43 [.int (h 11 (Int32.toNatClampNeg s_25.2.2.2.2.2.2))] [.long s_25.2.1] rfl ml_X0_47 yw_X8_hourOf (okX8_hourOf (d + 1) _ _ _ e_34) rfl rfl (Nat.le_of_ble_eq_true rfl) <| s_i2l 44 rfl <| s_ladd 45 rfl <| s_lstore [some (.ref 10), some (.int x1), some (.int q_1), some (.long s_25.1), none, some (.long (s_25.2.1 + q_33.toInt64)), none, some (.int s_25.2.2.1), some (.long s_25.2.2.2.1), none, some (.long s_25.2.2.2.2.1), none, some (.int (s_25.2.2.2.2.2.1 + 1)), some (.int s_25.2.2.2.2.2.2), none, none, none, none] 46 rfl (by decide) rfl <| s_lload_n 47 rfl rfl <| s_aload_n 48 rfl rfl <| s_getr 49 rfl fl_X0_9 sh_10 rfl <| s_iload 50 rfl rfl <| s_iald (Int32.toNatClampNeg s_25.2.2.2.2.2.2) 51 rfl sh_11 g_35 rfl <| s_callSN 52 [.int (h 11 (Int32.toNatClampNeg s_25.2.2.2.2.2.2))] [.long s_25.1] rfl ml_X0_47 yw_X8_hourOf (okX8_hourOf (d + 1) _ _ _ e_37) rfl rfl (Nat.le_of_ble_eq_true rfl) <| s_i2l 53 rfl <| s_lsub 54 rfl <| s_lstore_n [some (.ref 10), some (.int x1), some (.int q_1), some (.long (s_25.1 - q_36.toInt64)), none, some (.long (s_25.2.1 + q_33.toInt64)), none, some (.int s_25.2.2.1), some (.long s_25.2.2.2.1), none, some (.long s_25.2.2.2.2.1), none, some (.int (s_25.2.2.2.2.2.1 + 1)), some (.int s_25.2.2.2.2.2.2), none, none, none, none] 55 rfl (by decide) rfl <| s_lload 56 rfl rfl <| s_lload 57 rfl rfl <| s_lmul 58 rfl <| s_iload_n 59 rfl rfl <| s_iload 60 rfl rfl <| s_isub 61 rfl <| s_i2l 62 rfl <| s_lmul 63 rfl <| s_lload_n 64 rfl rfl <| s_lload_n 65 rfl rfl <| s_lmul 66 rfl <| s_iload 67 rfl rfl <| s_i2l 68 rfl <| s_lmul 69 rfl <| s_ladd 70 rfl <| s_nmL (Option.some.inj ey_38) <| s_lstore [some (.ref 10), some (.int x1), some (.int q_1), some (.long (s_25.1 - q_36.toInt64)), none, some (.long (s_25.2.1 + q_33.toInt64)), none, some (.int s_25.2.2.1), some (.long s_25.2.2.2.1), none, some (.long s_25.2.2.2.2.1), none, some (.int (s_25.2.2.2.2.2.1 + 1)), some (.int s_25.2.2.2.2.2.2), some (.long y_38), none, none, none] 71 rfl (by decide) rfl <| s_iload 72 rfl rfl <| s_i2l 73 rfl <| s_iload_n 74 rfl rfl <| s_iload 75 rfl rfl <| s_isub 76 rfl <| s_i2l 77 rfl <| s_lmul 78 rfl <| s_lstore [some (.ref 10), some (.int x1), some (.int q_1), some (.long (s_25.1 - q_36.toInt64)), none, some (.long (s_25.2.1 + q_33.toInt64)), none, some (.int s_25.2.2.1), some (.long s_25.2.2.2.1), none, some (.long s_25.2.2.2.2.1), none, some (.int (s_25.2.2.2.2.2.1 + 1)), some (.int s_25.2.2.2.2.2.2), some (.long y_38), none, some (.long (((s_25.2.2.2.2.2.1 + 1).toInt64) * ((q_1 - (s_25.2.2.2.2.2.1 + 1)).toInt64))), none] 79 rfl (by decide) rfl <| s_iload 80 rfl rfl <| ?_
        rcases iteS e with ⟨g_39, e⟩ | ⟨g_39, e⟩
        · cases e
          exact s_if_lt_T 81 146 rfl (by decide) g_39 <| s_iload 90 rfl rfl <| s_istore [some (.ref 10), some (.int x1), some (.int q_1), some (.long (s_25.1 - q_36.toInt64)), none, some (.long (s_25.2.1 + q_33.toInt64)), none, some (.int (s_25.2.2.2.2.2.1 + 1)), some (.long s_25.2.2.2.1), none, some (.long s_25.2.2.2.2.1), none, some (.int (s_25.2.2.2.2.2.1 + 1)), some (.int s_25.2.2.2.2.2.2), some (.long y_38), none, some (.long (((s_25.2.2.2.2.2.1 + 1).toInt64) * ((q_1 - (s_25.2.2.2.2.2.1 + 1)).toInt64))), none] 91 rfl (by decide) rfl <| s_lload 92 rfl rfl <| s_lstore [some (.ref 10), some (.int x1), some (.int q_1), some (.long (s_25.1 - q_36.toInt64)), none, some (.long (s_25.2.1 + q_33.toInt64)), none, some (.int (s_25.2.2.2.2.2.1 + 1)), some (.long y_38), none, some (.long s_25.2.2.2.2.1), none, some (.int (s_25.2.2.2.2.2.1 + 1)), some (.int s_25.2.2.2.2.2.2), some (.long y_38), none, some (.long (((s_25.2.2.2.2.2.1 + 1).toInt64) * ((q_1 - (s_25.2.2.2.2.2.1 + 1)).toInt64))), none] 93 rfl (by decide) rfl <| s_lload 94 rfl rfl <| s_lstore [some (.ref 10), some (.int x1), some (.int q_1), some (.long (s_25.1 - q_36.toInt64)), none, some (.long (s_25.2.1 + q_33.toInt64)), none, some (.int (s_25.2.2.2.2.2.1 + 1)), some (.long y_38), none, some (.long (((s_25.2.2.2.2.2.1 + 1).toInt64) * ((q_1 - (s_25.2.2.2.2.2.1 + 1)).toInt64))), none, some (.int (s_25.2.2.2.2.2.1 + 1)), some (.int s_25.2.2.2.2.2.2), some (.long y_38), none, some (.long (((s_25.2.2.2.2.2.1 + 1).toInt64) * ((q_1 - (s_25.2.2.2.2.2.1 + 1)).toInt64))), none] 95 rfl (by decide) rfl <| s_iinc 1 [some (.ref 10), some (.int x1), some (.int q_1), some (.long (s_25.1 - q_36.toInt64)), none, some (.long (s_25.2.1 + q_33.toInt64)), none, some (.int (s_25.2.2.2.2.2.1 + 1)), some (.long y_38), none, some (.long (((s_25.2.2.2.2.2.1 + 1).toInt64) * ((q_1 - (s_25.2.2.2.2.2.1 + 1)).toInt64))), none, some (.int (s_25.2.2.2.2.2.1 + 1)), some (.int (s_25.2.2.2.2.2.2 + 1)), some (.long y_38), none, some (.long (((s_25.2.2.2.2.2.1 + 1).toInt64) * ((q_1 - (s_25.2.2.2.2.2.1 + 1)).toInt64))), none] 96 rfl (by decide) rfl (by decide) rfl <| s_goto 97 31 rfl (by decide) <| s_fgt [false, false, false, false, false, false, false, false, false, false, false, false, false, false, true, false, true] rfl <| (hk_20 (s_25.1 - q_36.toInt64, s_25.2.1 + q_33.toInt64, (s_25.2.2.2.2.2.1 + 1), y_38, ((s_25.2.2.2.2.2.1 + 1).toInt64) * ((q_1 - (s_25.2.2.2.2.2.1 + 1)).toInt64), (s_25.2.2.2.2.2.1 + 1), (s_25.2.2.2.2.2.2 + 1)) rfl)
        · refine s_if_lt_F 81 146 rfl (by decide) g_39 <| s_lload 82 rfl rfl <| s_lload 83 rfl rfl <| s_lmul 84 rfl <| s_lload 85 rfl rfl <| s_lload 86 rfl rfl <| s_lmul 87 rfl <| s_lcmp 88 rfl <| ?_
          rcases iteS e with ⟨g_40, e⟩ | ⟨g_40, e⟩
          · cases e
            exact s_if_le_T 89 158 rfl (by decide) g_40 <| s_iinc 1 [some (.ref 10), some (.int x1), some (.int q_1), some (.long (s_25.1 - q_36.toInt64)), none, some (.long (s_25.2.1 + q_33.toInt64)), none, some (.int s_25.2.2.1), some (.long s_25.2.2.2.1), none, some (.long s_25.2.2.2.2.1), none, some (.int (s_25.2.2.2.2.2.1 + 1)), some (.int (s_25.2.2.2.2.2.2 + 1)), some (.long y_38), none, some (.long (((s_25.2.2.2.2.2.1 + 1).toInt64) * ((q_1 - (s_25.2.2.2.2.2.1 + 1)).toInt64))), none] 96 rfl (by decide) rfl (by decide) rfl <| s_goto 97 31 rfl (by decide) <| s_fgt [false, false, false, false, false, false, false, false, false, false, false, false, false, false, true, false, true] rfl <| (hk_20 (s_25.1 - q_36.toInt64, s_25.2.1 + q_33.toInt64, s_25.2.2.1, s_25.2.2.2.1, s_25.2.2.2.2.1, (s_25.2.2.2.2.2.1 + 1), (s_25.2.2.2.2.2.2 + 1)) rfl)
          · cases e
            exact s_if_le_F 89 158 rfl (by decide) g_40 <| s_iload 90 rfl rfl <| s_istore [some (.ref 10), some (.int x1), some (.int q_1), some (.long (s_25.1 - q_36.toInt64)), none, some (.long (s_25.2.1 + q_33.toInt64)), none, some (.int (s_25.2.2.2.2.2.1 + 1)), some (.long s_25.2.2.2.1), none, some (.long s_25.2.2.2.2.1), none, some (.int (s_25.2.2.2.2.2.1 + 1)), some (.int s_25.2.2.2.2.2.2), some (.long y_38), none, some (.long (((s_25.2.2.2.2.2.1 + 1).toInt64) * ((q_1 - (s_25.2.2.2.2.2.1 + 1)).toInt64))), none] 91 rfl (by decide) rfl <| s_lload 92 rfl rfl <| s_lstore [some (.ref 10), some (.int x1), some (.int q_1), some (.long (s_25.1 - q_36.toInt64)), none, some (.long (s_25.2.1 + q_33.toInt64)), none, some (.int (s_25.2.2.2.2.2.1 + 1)), some (.long y_38), none, some (.long s_25.2.2.2.2.1), none, some (.int (s_25.2.2.2.2.2.1 + 1)), some (.int s_25.2.2.2.2.2.2), some (.long y_38), none, some (.long (((s_25.2.2.2.2.2.1 + 1).toInt64) * ((q_1 - (s_25.2.2.2.2.2.1 + 1)).toInt64))), none] 93 rfl (by decide) rfl <| s_lload 94 rfl rfl <| s_lstore [some (.ref 10), some (.int x1), some (.int q_1), some (.long (s_25.1 - q_36.toInt64)), none, some (.long (s_25.2.1 + q_33.toInt64)), none, some (.int (s_25.2.2.2.2.2.1 + 1)), some (.long y_38), none, some (.long (((s_25.2.2.2.2.2.1 + 1).toInt64) * ((q_1 - (s_25.2.2.2.2.2.1 + 1)).toInt64))), none, some (.int (s_25.2.2.2.2.2.1 + 1)), some (.int s_25.2.2.2.2.2.2), some (.long y_38), none, some (.long (((s_25.2.2.2.2.2.1 + 1).toInt64) * ((q_1 - (s_25.2.2.2.2.2.1 + 1)).toInt64))), none] 95 rfl (by decide) rfl <| s_iinc 1 [some (.ref 10), some (.int x1), some (.int q_1), some (.long (s_25.1 - q_36.toInt64)), none, some (.long (s_25.2.1 + q_33.toInt64)), none, some (.int (s_25.2.2.2.2.2.1 + 1)), some (.long y_38), none, some (.long (((s_25.2.2.2.2.2.1 + 1).toInt64) * ((q_1 - (s_25.2.2.2.2.2.1 + 1)).toInt64))), none, some (.int (s_25.2.2.2.2.2.1 + 1)), some (.int (s_25.2.2.2.2.2.2 + 1)), some (.long y_38), none, some (.long (((s_25.2.2.2.2.2.1 + 1).toInt64) * ((q_1 - (s_25.2.2.2.2.2.1 + 1)).toInt64))), none] 96 rfl (by decide) rfl (by decide) rfl <| s_goto 97 31 rfl (by decide) <| s_fgt [false, false, false, false, false, false, false, false, false, false, false, false, false, false, true, false, true] rfl <| (hk_20 (s_25.1 - q_36.toInt64, s_25.2.1 + q_33.toInt64, (s_25.2.2.2.2.2.1 + 1), y_38, ((s_25.2.2.2.2.2.1 + 1).toInt64) * ((q_1 - (s_25.2.2.2.2.2.1 + 1)).toInt64), (s_25.2.2.2.2.2.1 + 1), (s_25.2.2.2.2.2.2 + 1)) rfl)
      · cases e
        exact s_icmp_eq_F 35 62 rfl (by decide) g_31 <| s_goto 36 158 rfl (by decide) <| s_iinc 1 [some (.ref 10), some (.int x1), some (.int q_1), some (.long s_25.1), none, some (.long s_25.2.1), none, some (.int s_25.2.2.1), some (.long s_25.2.2.2.1), none, some (.long s_25.2.2.2.2.1), none, some (.int s_25.2.2.2.2.2.1), some (.int (s_25.2.2.2.2.2.2 + 1)), none, none, none, none] 96 rfl (by decide) rfl (by decide) rfl <| s_goto 97 31 rfl (by decide) <| (hk_20 (s_25.1, s_25.2.1, s_25.2.2.1, s_25.2.2.2.1, s_25.2.2.2.2.1, s_25.2.2.2.2.2.1, (s_25.2.2.2.2.2.2 + 1)) rfl)
def fX8_sold (x1 : Int32) (h : Sto) : Option (Int32 × Sto) :=
  (fX1_has x1 h).bind fun q_1 => if q_1 = true then ((fX0_soldPlace x1 h).bind fun q_4 => if 1 ≤ q_4 then (some (q_4, h)) else ((fX8_tellFinding (-1000004) h).bind fun q_7 => some (q_7.1, q_7.2))) else ((fX8_tellFinding (-1000001) h).bind fun q_9 => some (q_9.1, q_9.2))
set_option maxRecDepth 100000 in
set_option maxHeartbeats 4000000 in
theorem okX8_sold (d : Nat) (x1 : Int32) (h : Sto) (qv : Int32) (qh : Sto) (e : fX8_sold x1 h = some (qv, qh)) : Ok yX8_sold cX8_sold 3 (some .int) (d + 3) [.ref 0, .int x1] h (some (.int qv)) qh := by
  refine Ok_of (lst := kX8_sold) (own := RX8) ⟨by decide, rfl⟩ ckX8_sold trivial (Nat.le_of_ble_eq_true rfl) ?_
  unfold fX8_sold at e
  change Ev kX8_sold RX8 3 (d + 3) nox 0 [some (.ref 0), some (.int x1), none] [] h (some (.int qv)) qh
  obtain ⟨q_1, e_2, e⟩ := bndS e
  refine s_aload_n 0 rfl rfl <| s_getr 1 rfl fl_X8_12 sh_0 rfl <| s_getr 2 rfl fl_X8_74 sh_1 rfl <| s_iload_n 3 rfl rfl <| s_callV (b := 2) (ci := 1) 4 [.int x1] [] rfl ml_X8_88 yw_X1_has sh_2 rfl rfl (okX1_has (d + 1) _ _ _ e_2) rfl rfl (Nat.le_of_ble_eq_true rfl) <| ?_
  rcases iteS e with ⟨g_3, e⟩ | ⟨g_3, e⟩
  · obtain ⟨q_4, e_5, e⟩ := bndS e
    refine s_if_ne_T 5 21 rfl (by decide) (b2i_T g_3) <| s_aload_n 10 rfl rfl <| s_getr 11 rfl fl_X8_12 sh_0 rfl <| s_getr 12 rfl fl_X8_134 sh_1 rfl <| s_iload_n 13 rfl rfl <| s_callV (b := 10) (ci := 0) 14 [.int x1] [] rfl ml_X8_262 yw_X0_soldPlace sh_10 rfl rfl (okX0_soldPlace d _ _ _ e_5) rfl rfl (Nat.le_of_ble_eq_true rfl) <| s_istore_n [some (.ref 0), some (.int x1), some (.int q_4)] 15 rfl (by decide) rfl <| s_iload_n 16 rfl rfl <| s_iconst 1 17 rfl (by decide) <| ?_
    rcases iteS e with ⟨g_6, e⟩ | ⟨g_6, e⟩
    · obtain ⟨rfl, rfl⟩ := some2 e
      exact s_icmp_ge_T 18 47 rfl (by decide) g_6 <| s_iload_n 23 rfl rfl <| s_iret 24 rfl
    · obtain ⟨q_7, e_8, e⟩ := bndS e
      obtain ⟨rfl, rfl⟩ := some2 e
      exact s_icmp_ge_F 18 47 rfl (by decide) g_6 <| s_aload_n 19 rfl rfl <| s_ldc 20 rfl wc_X8_133 <| s_callV (b := 0) (ci := 8) 21 [.int (-1000004)] [] rfl ml_X8_70 yw_X8_tellFinding sh_0 rfl rfl (okX8_tellFinding (d + 1) _ _ q_7.1 q_7.2 e_8) rfl rfl (Nat.le_of_ble_eq_true rfl) <| s_goto 22 48 rfl (by decide) <| s_iret 24 rfl
  · obtain ⟨q_9, e_10, e⟩ := bndS e
    obtain ⟨rfl, rfl⟩ := some2 e
    exact s_if_ne_F 5 21 rfl (by decide) (b2i_F g_3) <| s_aload_n 6 rfl rfl <| s_ldc 7 rfl wc_X8_69 <| s_callV (b := 0) (ci := 8) 8 [.int (-1000001)] [] rfl ml_X8_70 yw_X8_tellFinding sh_0 rfl rfl (okX8_tellFinding (d + 1) _ _ q_9.1 q_9.2 e_10) rfl rfl (Nat.le_of_ble_eq_true rfl) <| s_iret 9 rfl
def fX9_sold_b38 (x1 : Int32) (x2 : Int32) (h : Sto) (c3 : Int64) (c5 : Int32) : Option ((Int64 × Int32) ⊕ Int64) :=
  if (h 84 2) ≤ c5 then (some (.inr c3)) else ((fX9_word c5 1 h).bind fun q_8 => if ¬ q_8 = x1 then (some (.inl (c3 + 0, (c5 + 1)))) else ((fX9_word c5 0 h).bind fun q_11 => (fX9_hourOf q_11 h).bind fun q_13 => some (.inl (c3 + q_13.toInt64, (c5 + 1)))))
def fX9_sold_b102 (x1 : Int32) (x2 : Int32) (x3 : Int64) (h : Sto) (c5 : Int32) (c6 : Int64) (c8 : Int64) (c10 : Int64) (c12 : Int32) (c13 : Int32) : Option ((Int32 × Int64 × Int64 × Int64 × Int32 × Int32) ⊕ Int32) :=
  if (h 84 2) ≤ c13 then (some (.inr c5)) else (if (x2 - 1) ≤ c12 then (some (.inr c5)) else ((fX9_word c13 1 h).bind fun q_27 => if q_27 = x1 then ((fX9_word c13 0 h).bind fun q_30 => (fX9_hourOf q_30 h).bind fun q_32 => (some ((((c10 + q_32.toInt64) * (c10 + q_32.toInt64)) * ((x2 - (c12 + 1)).toInt64)) + (((x3 - (c10 + q_32.toInt64)) * (x3 - (c10 + q_32.toInt64))) * ((c12 + 1).toInt64)))).bind fun y_34 => if c5 ≤ 0 then (some (.inl ((c12 + 1), y_34, ((c12 + 1).toInt64) * ((x2 - (c12 + 1)).toInt64), c10 + q_32.toInt64, (c12 + 1), (c13 + 1)))) else (if 0 < (lg_cmp (y_34 * c8) (c6 * (((c12 + 1).toInt64) * ((x2 - (c12 + 1)).toInt64)))) then (some (.inl ((c12 + 1), y_34, ((c12 + 1).toInt64) * ((x2 - (c12 + 1)).toInt64), c10 + q_32.toInt64, (c12 + 1), (c13 + 1)))) else (some (.inl (c5, c6, c8, c10 + q_32.toInt64, (c12 + 1), (c13 + 1)))))) else (some (.inl (c5, c6, c8, c10, c12, (c13 + 1))))))
def fX9_sold (x1 : Int32) (h : Sto) : Option (Int32 × Sto) :=
  (fX9_isName x1 h).bind fun q_1 => if q_1 = true then ((fX9_wordsOf x1 h).bind fun q_4 => if 2 ≤ q_4 then ((lp (fun s => fX9_sold_b38 x1 q_4 h s.1 s.2) FUEL (0, 0)).bind fun v_23 => (lp (fun s => fX9_sold_b102 x1 q_4 v_23 h s.1 s.2.1 s.2.2.1 s.2.2.2.1 s.2.2.2.2.1 s.2.2.2.2.2) FUEL (0, 0, 1, 0, 0, 0)).bind fun v_45 => some (v_45, h)) else ((fX9_finds (-1000004) h).bind fun q_67 => some (q_67.1, q_67.2))) else ((fX9_finds (-1000001) h).bind fun q_69 => some (q_69.1, q_69.2))
set_option maxRecDepth 100000 in
set_option maxHeartbeats 4000000 in
theorem okX9_sold (d : Nat) (x1 : Int32) (h : Sto) (qv : Int32) (qh : Sto) (e : fX9_sold x1 h = some (qv, qh)) : Ok yX9_sold cX9_sold 18 (some .int) (d + 2) [.ref 83, .int x1] h (some (.int qv)) qh := by
  refine Ok_of (lst := kX9_sold) (own := RX9) ⟨by decide, rfl⟩ ckX9_sold trivial (Nat.le_of_ble_eq_true rfl) ?_
  unfold fX9_sold at e
  change Ev kX9_sold RX9 18 (d + 2) nox 0 [some (.ref 83), some (.int x1), none, none, none, none, none, none, none, none, none, none, none, none, none, none, none, none] [] h (some (.int qv)) qh
  obtain ⟨q_1, e_2, e⟩ := bndS e
  refine s_aload_n 0 rfl rfl <| s_iload_n 1 rfl rfl <| s_callV (b := 83) (ci := 9) 2 [.int x1] [] rfl ml_X9_73 yw_X9_isName sh_83 rfl rfl (okX9_isName d _ _ _ e_2) rfl rfl (Nat.le_of_ble_eq_true rfl) <| ?_
  rcases iteS e with ⟨g_3, e⟩ | ⟨g_3, e⟩
  · obtain ⟨q_4, e_5, e⟩ := bndS e
    refine s_if_ne_T 3 15 rfl (by decide) (b2i_T g_3) <| s_aload_n 8 rfl rfl <| s_iload_n 9 rfl rfl <| s_callV (b := 83) (ci := 9) 10 [.int x1] [] rfl ml_X9_123 yw_X9_wordsOf sh_83 rfl rfl (okX9_wordsOf d _ _ _ e_5) rfl rfl (Nat.le_of_ble_eq_true rfl) <| s_istore_n [some (.ref 83), some (.int x1), some (.int q_4), none, none, none, none, none, none, none, none, none, none, none, none, none, none, none] 11 rfl (by decide) rfl <| s_iload_n 12 rfl rfl <| s_iconst 2 13 rfl (by decide) <| ?_
    rcases iteS e with ⟨g_6, e⟩ | ⟨g_6, e⟩
    · obtain ⟨y_15, e_16, e⟩ := bndS e
      have kx_19 : ∀ v_23 : Int64, v_23 = y_15 → Ev kX9_sold RX9 18 (d + 2) nox 84 [some (.ref 83), some (.int x1), some (.int q_4), some (.long v_23), none, none, none, none, none, none, none, none, none, none, none, none, none, none] [] h (some (.int qv)) qh := by
        intro v_23 hy
        subst hy
        obtain ⟨y_37, e_38, e⟩ := bndS e
        have kx_41 : ∀ v_45 : Int32, v_45 = y_37 → Ev kX9_sold RX9 18 (d + 2) nox 232 [none, none, none, none, none, some (.int v_45), none, none, none, none, none, none, none, none, none, none, none, none] [] h (some (.int qv)) qh := by
          intro v_45 hy
          subst hy
          obtain ⟨rfl, rfl⟩ := some2 e
          exact s_iload 135 rfl rfl <| s_iret 136 rfl
        refine s_iconst 0 48 rfl (by decide) <| s_istore [some (.ref 83), some (.int x1), some (.int q_4), some (.long v_23), none, some (.int 0), none, none, none, none, none, none, none, none, none, none, none, none] 49 rfl (by decide) rfl <| s_lconst 0 50 rfl (by decide) <| s_lstore [some (.ref 83), some (.int x1), some (.int q_4), some (.long v_23), none, some (.int 0), some (.long 0), none, none, none, none, none, none, none, none, none, none, none] 51 rfl (by decide) rfl <| s_lconst 1 52 rfl (by decide) <| s_lstore [some (.ref 83), some (.int x1), some (.int q_4), some (.long v_23), none, some (.int 0), some (.long 0), none, some (.long 1), none, none, none, none, none, none, none, none, none] 53 rfl (by decide) rfl <| s_lconst 0 54 rfl (by decide) <| s_lstore [some (.ref 83), some (.int x1), some (.int q_4), some (.long v_23), none, some (.int 0), some (.long 0), none, some (.long 1), none, some (.long 0), none, none, none, none, none, none, none] 55 rfl (by decide) rfl <| s_iconst 0 56 rfl (by decide) <| s_istore [some (.ref 83), some (.int x1), some (.int q_4), some (.long v_23), none, some (.int 0), some (.long 0), none, some (.long 1), none, some (.long 0), none, some (.int 0), none, none, none, none, none] 57 rfl (by decide) rfl <| s_iconst 0 58 rfl (by decide) <| s_istore [some (.ref 83), some (.int x1), some (.int q_4), some (.long v_23), none, some (.int 0), some (.long 0), none, some (.long 1), none, some (.long 0), none, some (.int 0), some (.int 0), none, none, none, none] 59 rfl (by decide) rfl <| lpS (P := fun (s_44 : (Int32 × Int64 × Int64 × Int64 × Int32 × Int32)) => Ev kX9_sold RX9 18 (d + 2) nox 102 [some (.ref 83), some (.int x1), some (.int q_4), some (.long v_23), none, some (.int s_44.1), some (.long s_44.2.1), none, some (.long s_44.2.2.1), none, some (.long s_44.2.2.2.1), none, some (.int s_44.2.2.2.2.1), some (.int s_44.2.2.2.2.2), none, none, none, none] [] h (some (.int qv)) qh) ?_ FUEL _ e_38
        intro s_44 o_43 e hk_39 hx_40
        unfold fX9_sold_b102 at e
        refine s_iload 60 rfl rfl <| s_aload_n 61 rfl rfl <| s_getr 62 rfl fl_X9_9 sh_83 rfl <| s_iconst 2 63 rfl (by decide) <| s_iald 2 64 rfl sh_84 (by decide) (by decide) <| ?_
        rcases iteS e with ⟨g_47, e⟩ | ⟨g_47, e⟩
        · cases e
          exact s_icmp_ge_T 65 232 rfl (by decide) g_47 <| s_fgt [true, true, true, true, false, false, true, false, true, false, true, false, true, true] rfl <| (kx_41 s_44.1 (hx_40 _ rfl))
        · refine s_icmp_ge_F 65 232 rfl (by decide) g_47 <| s_iload 66 rfl rfl <| s_iload_n 67 rfl rfl <| s_iconst 1 68 rfl (by decide) <| s_isub 69 rfl <| ?_
          rcases iteS e with ⟨g_48, e⟩ | ⟨g_48, e⟩
          · cases e
            exact s_icmp_ge_T 70 232 rfl (by decide) g_48 <| s_fgt [true, true, true, true, false, false, true, false, true, false, true, false, true, true] rfl <| (kx_41 s_44.1 (hx_40 _ rfl))
          · obtain ⟨q_49, e_50, e⟩ := bndS e
            refine s_icmp_ge_F 70 232 rfl (by decide) g_48 <| s_aload_n 71 rfl rfl <| s_iload 72 rfl rfl <| s_iconst 1 73 rfl (by decide) <| s_callV (b := 83) (ci := 9) 74 [.int s_44.2.2.2.2.2, .int 1] [] rfl ml_X9_101 yw_X9_word sh_83 rfl rfl (okX9_word (d + 1) _ _ _ _ e_50) rfl rfl (Nat.le_of_ble_eq_true rfl) <| s_iload_n 75 rfl rfl <| ?_
            rcases iteS e with ⟨g_51, e⟩ | ⟨g_51, e⟩
            · obtain ⟨q_52, e_53, e⟩ := bndS e
              obtain ⟨q_54, e_55, e⟩ := bndS e
              obtain ⟨y_56, ey_56, e⟩ := bndS e
              refine s_icmp_eq_T 76 135 rfl (by decide) g_51 <| s_lload 78 rfl rfl <| s_aload_n 79 rfl rfl <| s_iload 80 rfl rfl <| s_iconst 0 81 rfl (by decide) <| s_callV (b := 83) (ci := 9) 82 [.int s_44.2.2.2.2.2, .int 0] [.long s_44.2.2.2.1] rfl ml_X9_101 yw_X9_word sh_83 rfl rfl (okX9_word (d + 1) _ _ _ _ e_53) rfl rfl (Nat.le_of_ble_eq_true rfl) <| s_callS 83 [.int q_52] [.long s_44.2.2.2.1] rfl ml_X9_94 yw_X9_hourOf (okX9_hourOf (d + 1) _ _ _ e_55) rfl rfl (Nat.le_of_ble_eq_true rfl) <| s_i2l 84 rfl <| s_ladd 85 rfl <| s_lstore [some (.ref 83), some (.int x1), some (.int q_4), some (.long v_23), none, some (.int s_44.1), some (.long s_44.2.1), none, some (.long s_44.2.2.1), none, some (.long (s_44.2.2.2.1 + q_54.toInt64)), none, some (.int s_44.2.2.2.2.1), some (.int s_44.2.2.2.2.2), none, none, none, none] 86 rfl (by decide) rfl <| s_iinc 1 [some (.ref 83), some (.int x1), some (.int q_4), some (.long v_23), none, some (.int s_44.1), some (.long s_44.2.1), none, some (.long s_44.2.2.1), none, some (.long (s_44.2.2.2.1 + q_54.toInt64)), none, some (.int (s_44.2.2.2.2.1 + 1)), some (.int s_44.2.2.2.2.2), none, none, none, none] 87 rfl (by decide) rfl (by decide) rfl <| s_lload 88 rfl rfl <| s_lload 89 rfl rfl <| s_lmul 90 rfl <| s_iload_n 91 rfl rfl <| s_iload 92 rfl rfl <| s_isub 93 rfl <| s_i2l 94 rfl <| s_lmul 95 rfl <| s_lload_n 96 rfl rfl <| s_lload 97 rfl rfl <| s_lsub 98 rfl <| s_lload_n 99 rfl rfl <| s_lload 100 rfl rfl <| s_lsub 101 rfl <| s_lmul 102 rfl <| s_iload 103 rfl rfl <| s_i2l 104 rfl <| s_lmul 105 rfl <| s_ladd 106 rfl <| s_nmL (Option.some.inj ey_56) <| s_lstore [some (.ref 83), some (.int x1), some (.int q_4), some (.long v_23), none, some (.int s_44.1), some (.long s_44.2.1), none, some (.long s_44.2.2.1), none, some (.long (s_44.2.2.2.1 + q_54.toInt64)), none, some (.int (s_44.2.2.2.2.1 + 1)), some (.int s_44.2.2.2.2.2), some (.long y_56), none, none, none] 107 rfl (by decide) rfl <| s_iload 108 rfl rfl <| s_i2l 109 rfl <| s_iload_n 110 rfl rfl <| s_iload 111 rfl rfl <| s_isub 112 rfl <| s_i2l 113 rfl <| s_lmul 114 rfl <| s_lstore [some (.ref 83), some (.int x1), some (.int q_4), some (.long v_23), none, some (.int s_44.1), some (.long s_44.2.1), none, some (.long s_44.2.2.1), none, some (.long (s_44.2.2.2.1 + q_54.toInt64)), none, some (.int (s_44.2.2.2.2.1 + 1)), some (.int s_44.2.2.2.2.2), some (.long y_56), none, some (.long (((s_44.2.2.2.2.1 + 1).toInt64) * ((q_4 - (s_44.2.2.2.2.1 + 1)).toInt64))), none] 115 rfl (by decide) rfl <| s_iload 116 rfl rfl <| ?_
              rcases iteS e with ⟨g_57, e⟩ | ⟨g_57, e⟩
              · cases e
                exact s_if_le_T 117 214 rfl (by decide) g_57 <| s_iload 127 rfl rfl <| s_istore [some (.ref 83), some (.int x1), some (.int q_4), some (.long v_23), none, some (.int (s_44.2.2.2.2.1 + 1)), some (.long s_44.2.1), none, some (.long s_44.2.2.1), none, some (.long (s_44.2.2.2.1 + q_54.toInt64)), none, some (.int (s_44.2.2.2.2.1 + 1)), some (.int s_44.2.2.2.2.2), some (.long y_56), none, some (.long (((s_44.2.2.2.2.1 + 1).toInt64) * ((q_4 - (s_44.2.2.2.2.1 + 1)).toInt64))), none] 128 rfl (by decide) rfl <| s_lload 129 rfl rfl <| s_lstore [some (.ref 83), some (.int x1), some (.int q_4), some (.long v_23), none, some (.int (s_44.2.2.2.2.1 + 1)), some (.long y_56), none, some (.long s_44.2.2.1), none, some (.long (s_44.2.2.2.1 + q_54.toInt64)), none, some (.int (s_44.2.2.2.2.1 + 1)), some (.int s_44.2.2.2.2.2), some (.long y_56), none, some (.long (((s_44.2.2.2.2.1 + 1).toInt64) * ((q_4 - (s_44.2.2.2.2.1 + 1)).toInt64))), none] 130 rfl (by decide) rfl <| s_lload 131 rfl rfl <| s_lstore [some (.ref 83), some (.int x1), some (.int q_4), some (.long v_23), none, some (.int (s_44.2.2.2.2.1 + 1)), some (.long y_56), none, some (.long (((s_44.2.2.2.2.1 + 1).toInt64) * ((q_4 - (s_44.2.2.2.2.1 + 1)).toInt64))), none, some (.long (s_44.2.2.2.1 + q_54.toInt64)), none, some (.int (s_44.2.2.2.2.1 + 1)), some (.int s_44.2.2.2.2.2), some (.long y_56), none, some (.long (((s_44.2.2.2.2.1 + 1).toInt64) * ((q_4 - (s_44.2.2.2.2.1 + 1)).toInt64))), none] 132 rfl (by decide) rfl <| s_iinc 1 [some (.ref 83), some (.int x1), some (.int q_4), some (.long v_23), none, some (.int (s_44.2.2.2.2.1 + 1)), some (.long y_56), none, some (.long (((s_44.2.2.2.2.1 + 1).toInt64) * ((q_4 - (s_44.2.2.2.2.1 + 1)).toInt64))), none, some (.long (s_44.2.2.2.1 + q_54.toInt64)), none, some (.int (s_44.2.2.2.2.1 + 1)), some (.int (s_44.2.2.2.2.2 + 1)), some (.long y_56), none, some (.long (((s_44.2.2.2.2.1 + 1).toInt64) * ((q_4 - (s_44.2.2.2.2.1 + 1)).toInt64))), none] 133 rfl (by decide) rfl (by decide) rfl <| s_goto 134 102 rfl (by decide) <| s_fgt [false, false, false, false, false, false, false, false, false, false, false, false, false, false, true, false, true] rfl <| (hk_39 ((s_44.2.2.2.2.1 + 1), y_56, ((s_44.2.2.2.2.1 + 1).toInt64) * ((q_4 - (s_44.2.2.2.2.1 + 1)).toInt64), s_44.2.2.2.1 + q_54.toInt64, (s_44.2.2.2.2.1 + 1), (s_44.2.2.2.2.2 + 1)) rfl)
              · refine s_if_le_F 117 214 rfl (by decide) g_57 <| s_lload 118 rfl rfl <| s_lload 119 rfl rfl <| s_lmul 120 rfl <| s_lload 121 rfl rfl <| s_lload 122 rfl rfl <| s_lmul 123 rfl <| s_lcmp 124 rfl <| ?_
                rcases iteS e with ⟨g_58, e⟩ | ⟨g_58, e⟩
                · cases e
                  exact s_if_gt_T 125 214 rfl (by decide) g_58 <| s_iload 127 rfl rfl <| s_istore [some (.ref 83), some (.int x1), some (.int q_4), some (.long v_23), none, some (.int (s_44.2.2.2.2.1 + 1)), some (.long s_44.2.1), none, some (.long s_44.2.2.1), none, some (.long (s_44.2.2.2.1 + q_54.toInt64)), none, some (.int (s_44.2.2.2.2.1 + 1)), some (.int s_44.2.2.2.2.2), some (.long y_56), none, some (.long (((s_44.2.2.2.2.1 + 1).toInt64) * ((q_4 - (s_44.2.2.2.2.1 + 1)).toInt64))), none] 128 rfl (by decide) rfl <| s_lload 129 rfl rfl <| s_lstore [some (.ref 83), some (.int x1), some (.int q_4), some (.long v_23), none, some (.int (s_44.2.2.2.2.1 + 1)), some (.long y_56), none, some (.long s_44.2.2.1), none, some (.long (s_44.2.2.2.1 + q_54.toInt64)), none, some (.int (s_44.2.2.2.2.1 + 1)), some (.int s_44.2.2.2.2.2), some (.long y_56), none, some (.long (((s_44.2.2.2.2.1 + 1).toInt64) * ((q_4 - (s_44.2.2.2.2.1 + 1)).toInt64))), none] 130 rfl (by decide) rfl <| s_lload 131 rfl rfl <| s_lstore [some (.ref 83), some (.int x1), some (.int q_4), some (.long v_23), none, some (.int (s_44.2.2.2.2.1 + 1)), some (.long y_56), none, some (.long (((s_44.2.2.2.2.1 + 1).toInt64) * ((q_4 - (s_44.2.2.2.2.1 + 1)).toInt64))), none, some (.long (s_44.2.2.2.1 + q_54.toInt64)), none, some (.int (s_44.2.2.2.2.1 + 1)), some (.int s_44.2.2.2.2.2), some (.long y_56), none, some (.long (((s_44.2.2.2.2.1 + 1).toInt64) * ((q_4 - (s_44.2.2.2.2.1 + 1)).toInt64))), none] 132 rfl (by decide) rfl <| s_iinc 1 [some (.ref 83), some (.int x1), some (.int q_4), some (.long v_23), none, some (.int (s_44.2.2.2.2.1 + 1)), some (.long y_56), none, some (.long (((s_44.2.2.2.2.1 + 1).toInt64) * ((q_4 - (s_44.2.2.2.2.1 + 1)).toInt64))), none, some (.long (s_44.2.2.2.1 + q_54.toInt64)), none, some (.int (s_44.2.2.2.2.1 + 1)), some (.int (s_44.2.2.2.2.2 + 1)), some (.long y_56), none, some (.long (((s_44.2.2.2.2.1 + 1).toInt64) * ((q_4 - (s_44.2.2.2.2.1 + 1)).toInt64))), none] 133 rfl (by decide) rfl (by decide) rfl <| s_goto 134 102 rfl (by decide) <| s_fgt [false, false, false, false, false, false, false, false, false, false, false, false, false, false, true, false, true] rfl <| (hk_39 ((s_44.2.2.2.2.1 + 1), y_56, ((s_44.2.2.2.2.1 + 1).toInt64) * ((q_4 - (s_44.2.2.2.2.1 + 1)).toInt64), s_44.2.2.2.1 + q_54.toInt64, (s_44.2.2.2.2.1 + 1), (s_44.2.2.2.2.2 + 1)) rfl)
                · cases e
                  exact s_if_gt_F 125 214 rfl (by decide) g_58 <| s_goto 126 226 rfl (by decide) <| s_iinc 1 [some (.ref 83), some (.int x1), some (.int q_4), some (.long v_23), none, some (.int s_44.1), some (.long s_44.2.1), none, some (.long s_44.2.2.1), none, some (.long (s_44.2.2.2.1 + q_54.toInt64)), none, some (.int (s_44.2.2.2.2.1 + 1)), some (.int (s_44.2.2.2.2.2 + 1)), some (.long y_56), none, some (.long (((s_44.2.2.2.2.1 + 1).toInt64) * ((q_4 - (s_44.2.2.2.2.1 + 1)).toInt64))), none] 133 rfl (by decide) rfl (by decide) rfl <| s_goto 134 102 rfl (by decide) <| s_fgt [false, false, false, false, false, false, false, false, false, false, false, false, false, false, true, false, true] rfl <| (hk_39 (s_44.1, s_44.2.1, s_44.2.2.1, s_44.2.2.2.1 + q_54.toInt64, (s_44.2.2.2.2.1 + 1), (s_44.2.2.2.2.2 + 1)) rfl)
            · cases e
              exact s_icmp_eq_F 76 135 rfl (by decide) g_51 <| s_goto 77 226 rfl (by decide) <| s_iinc 1 [some (.ref 83), some (.int x1), some (.int q_4), some (.long v_23), none, some (.int s_44.1), some (.long s_44.2.1), none, some (.long s_44.2.2.1), none, some (.long s_44.2.2.2.1), none, some (.int s_44.2.2.2.2.1), some (.int (s_44.2.2.2.2.2 + 1)), none, none, none, none] 133 rfl (by decide) rfl (by decide) rfl <| s_goto 134 102 rfl (by decide) <| (hk_39 (s_44.1, s_44.2.1, s_44.2.2.1, s_44.2.2.2.1, s_44.2.2.2.2.1, (s_44.2.2.2.2.2 + 1)) rfl)
      refine s_icmp_ge_T 14 33 rfl (by decide) g_6 <| s_lconst 0 19 rfl (by decide) <| s_lstore_n [some (.ref 83), some (.int x1), some (.int q_4), some (.long 0), none, none, none, none, none, none, none, none, none, none, none, none, none, none] 20 rfl (by decide) rfl <| s_iconst 0 21 rfl (by decide) <| s_istore [some (.ref 83), some (.int x1), some (.int q_4), some (.long 0), none, some (.int 0), none, none, none, none, none, none, none, none, none, none, none, none] 22 rfl (by decide) rfl <| lpS (P := fun (s_22 : (Int64 × Int32)) => Ev kX9_sold RX9 18 (d + 2) nox 38 [some (.ref 83), some (.int x1), some (.int q_4), some (.long s_22.1), none, some (.int s_22.2), none, none, none, none, none, none, none, none, none, none, none, none] [] h (some (.int qv)) qh) ?_ FUEL _ e_16
      intro s_22 o_21 e hk_17 hx_18
      unfold fX9_sold_b38 at e
      refine s_iload 23 rfl rfl <| s_aload_n 24 rfl rfl <| s_getr 25 rfl fl_X9_9 sh_83 rfl <| s_iconst 2 26 rfl (by decide) <| s_iald 2 27 rfl sh_84 (by decide) (by decide) <| ?_
      rcases iteS e with ⟨g_59, e⟩ | ⟨g_59, e⟩
      · cases e
        exact s_icmp_ge_T 28 84 rfl (by decide) g_59 <| s_fgt [false, false, false, false, false, true] rfl <| (kx_19 s_22.1 (hx_18 _ rfl))
      · obtain ⟨q_60, e_61, e⟩ := bndS e
        refine s_icmp_ge_F 28 84 rfl (by decide) g_59 <| s_lload_n 29 rfl rfl <| s_aload_n 30 rfl rfl <| s_iload 31 rfl rfl <| s_iconst 1 32 rfl (by decide) <| s_callV (b := 83) (ci := 9) 33 [.int s_22.2, .int 1] [.long s_22.1] rfl ml_X9_101 yw_X9_word sh_83 rfl rfl (okX9_word (d + 1) _ _ _ _ e_61) rfl rfl (Nat.le_of_ble_eq_true rfl) <| s_iload_n 34 rfl rfl <| ?_
        rcases iteS e with ⟨g_62, e⟩ | ⟨g_62, e⟩
        · cases e
          exact s_icmp_ne_T 35 75 rfl (by decide) g_62 <| s_lconst 0 43 rfl (by decide) <| s_ladd 44 rfl <| s_lstore_n [some (.ref 83), some (.int x1), some (.int q_4), some (.long (s_22.1 + 0)), none, some (.int s_22.2), none, none, none, none, none, none, none, none, none, none, none, none] 45 rfl (by decide) rfl <| s_iinc 1 [some (.ref 83), some (.int x1), some (.int q_4), some (.long (s_22.1 + 0)), none, some (.int (s_22.2 + 1)), none, none, none, none, none, none, none, none, none, none, none, none] 46 rfl (by decide) rfl (by decide) rfl <| s_goto 47 38 rfl (by decide) <| (hk_17 (s_22.1 + 0, (s_22.2 + 1)) rfl)
        · obtain ⟨q_63, e_64, e⟩ := bndS e
          obtain ⟨q_65, e_66, e⟩ := bndS e
          cases e
          exact s_icmp_ne_F 35 75 rfl (by decide) (Decidable.not_not.mp g_62) <| s_aload_n 36 rfl rfl <| s_iload 37 rfl rfl <| s_iconst 0 38 rfl (by decide) <| s_callV (b := 83) (ci := 9) 39 [.int s_22.2, .int 0] [.long s_22.1] rfl ml_X9_101 yw_X9_word sh_83 rfl rfl (okX9_word (d + 1) _ _ _ _ e_64) rfl rfl (Nat.le_of_ble_eq_true rfl) <| s_callS 40 [.int q_63] [.long s_22.1] rfl ml_X9_94 yw_X9_hourOf (okX9_hourOf (d + 1) _ _ _ e_66) rfl rfl (Nat.le_of_ble_eq_true rfl) <| s_i2l 41 rfl <| s_goto 42 76 rfl (by decide) <| s_ladd 44 rfl <| s_lstore_n [some (.ref 83), some (.int x1), some (.int q_4), some (.long (s_22.1 + q_65.toInt64)), none, some (.int s_22.2), none, none, none, none, none, none, none, none, none, none, none, none] 45 rfl (by decide) rfl <| s_iinc 1 [some (.ref 83), some (.int x1), some (.int q_4), some (.long (s_22.1 + q_65.toInt64)), none, some (.int (s_22.2 + 1)), none, none, none, none, none, none, none, none, none, none, none, none] 46 rfl (by decide) rfl (by decide) rfl <| s_goto 47 38 rfl (by decide) <| (hk_17 (s_22.1 + q_65.toInt64, (s_22.2 + 1)) rfl)
    · obtain ⟨q_67, e_68, e⟩ := bndS e
      obtain ⟨rfl, rfl⟩ := some2 e
      exact s_icmp_ge_F 14 33 rfl (by decide) g_6 <| s_aload_n 15 rfl rfl <| s_ldc 16 rfl wc_X9_122 <| s_callV (b := 83) (ci := 9) 17 [.int (-1000004)] [] rfl ml_X9_64 yw_X9_finds sh_83 rfl rfl (okX9_finds (d + 1) _ _ q_67.1 q_67.2 e_68) rfl rfl (Nat.le_of_ble_eq_true rfl) <| s_iret 18 rfl
  · obtain ⟨q_69, e_70, e⟩ := bndS e
    obtain ⟨rfl, rfl⟩ := some2 e
    exact s_if_ne_F 3 15 rfl (by decide) (b2i_F g_3) <| s_aload_n 4 rfl rfl <| s_ldc 5 rfl wc_X9_47 <| s_callV (b := 83) (ci := 9) 6 [.int (-1000001)] [] rfl ml_X9_64 yw_X9_finds sh_83 rfl rfl (okX9_finds (d + 1) _ _ q_69.1 q_69.2 e_70) rfl rfl (Nat.le_of_ble_eq_true rfl) <| s_iret 7 rfl
def fX8_seed (x1 : Int32) (h : Sto) : Option (Int32 × Sto) :=
  (some (su h 1 4 x1)).bind fun h_1 => some ((h 1 4), h_1)
set_option maxRecDepth 100000 in
set_option maxHeartbeats 4000000 in
theorem okX8_seed (d : Nat) (x1 : Int32) (h : Sto) (qv : Int32) (qh : Sto) (e : fX8_seed x1 h = some (qv, qh)) : Ok yX8_seed cX8_seed 3 (some .int) d [.ref 0, .int x1] h (some (.int qv)) qh := by
  refine Ok_of (lst := kX8_seed) (own := RX8) ⟨by decide, rfl⟩ ckX8_seed trivial (Nat.le_of_ble_eq_true rfl) ?_
  unfold fX8_seed at e
  change Ev kX8_seed RX8 3 d nox 0 [some (.ref 0), some (.int x1), none] [] h (some (.int qv)) qh
  obtain ⟨h_1, eh_1, e⟩ := bndS e
  obtain ⟨rfl, rfl⟩ := some2 e
  exact s_aload_n 0 rfl rfl <| s_getr 1 rfl fl_X8_12 sh_0 rfl <| s_geti 2 rfl fl_X8_265 sh_1 rfl <| s_istore_n [some (.ref 0), some (.int x1), some (.int (h 1 4))] 3 rfl (by decide) rfl <| s_aload_n 4 rfl rfl <| s_getr 5 rfl fl_X8_12 sh_0 rfl <| s_iload_n 6 rfl rfl <| s_puti 7 rfl fl_X8_265 sh_1 rfl <| s_nmH (Option.some.inj eh_1) <| s_iload_n 8 rfl rfl <| s_iret 9 rfl
def fX9_seed (x1 : Int32) (h : Sto) : Option (Int32 × Sto) :=
  (some (su h 84 5 x1)).bind fun h_1 => some ((h 84 5), h_1)
set_option maxRecDepth 100000 in
set_option maxHeartbeats 4000000 in
theorem okX9_seed (d : Nat) (x1 : Int32) (h : Sto) (qv : Int32) (qh : Sto) (e : fX9_seed x1 h = some (qv, qh)) : Ok yX9_seed cX9_seed 3 (some .int) d [.ref 83, .int x1] h (some (.int qv)) qh := by
  refine Ok_of (lst := kX9_seed) (own := RX9) ⟨by decide, rfl⟩ ckX9_seed trivial (Nat.le_of_ble_eq_true rfl) ?_
  unfold fX9_seed at e
  change Ev kX9_seed RX9 3 d nox 0 [some (.ref 83), some (.int x1), none] [] h (some (.int qv)) qh
  obtain ⟨h_1, eh_1, e⟩ := bndS e
  obtain ⟨rfl, rfl⟩ := some2 e
  exact s_aload_n 0 rfl rfl <| s_getr 1 rfl fl_X9_9 sh_83 rfl <| s_iconst 5 2 rfl (by decide) <| s_iald 5 3 rfl sh_84 (by decide) (by decide) <| s_istore_n [some (.ref 83), some (.int x1), some (.int (h 84 5))] 4 rfl (by decide) rfl <| s_aload_n 5 rfl rfl <| s_getr 6 rfl fl_X9_9 sh_83 rfl <| s_iconst 5 7 rfl (by decide) <| s_iload_n 8 rfl rfl <| s_iast 5 9 rfl sh_84 (by decide) (by decide) <| s_nmH (Option.some.inj eh_1) <| s_iload_n 10 rfl rfl <| s_iret 11 rfl
def fX3_draw (h : Sto) : Option (Int32 × Sto) :=
  (some (su h 1 4 (((h 1 4) * 1103515245) + 12345))).bind fun h_1 => some ((jush (h_1 1 4) 8), h_1)
set_option maxRecDepth 100000 in
set_option maxHeartbeats 4000000 in
theorem okX3_draw (d : Nat) (h : Sto) (qv : Int32) (qh : Sto) (e : fX3_draw h = some (qv, qh)) : Ok yX3_draw cX3_draw 1 (some .int) d [.ref 1] h (some (.int qv)) qh := by
  refine Ok_of (lst := kX3_draw) (own := RX3) ⟨by decide, rfl⟩ ckX3_draw trivial (Nat.le_of_ble_eq_true rfl) ?_
  unfold fX3_draw at e
  change Ev kX3_draw RX3 1 d nox 0 [some (.ref 1)] [] h (some (.int qv)) qh
  obtain ⟨h_1, eh_1, e⟩ := bndS e
  obtain ⟨rfl, rfl⟩ := some2 e
  exact s_aload_n 0 rfl rfl <| s_aload_n 1 rfl rfl <| s_geti 2 rfl fl_X3_36 sh_1 rfl <| s_ldc 3 rfl wc_X3_122 <| s_imul 4 rfl <| s_sipush 12345 5 rfl (by decide) <| s_iadd 6 rfl <| s_puti 7 rfl fl_X3_36 sh_1 rfl <| s_nmH (Option.some.inj eh_1) <| s_aload_n 8 rfl rfl <| s_geti 9 rfl fl_X3_36 sh_1 rfl <| s_bipush 8 10 rfl (by decide) <| s_iushr 11 rfl <| s_iret 12 rfl
def fX8_sample_b41 (x1 : Int32) (c2 : Int32) (c3 : Int32) (h : Sto) : Option ((Int32 × Int32 × Sto) ⊕ (Int32 × Sto)) :=
  if x1 ≤ c3 then (some (.inr (c2, h))) else ((fX3_draw h).bind fun q_6 => (fX8_rest q_6.1 (q_6.2 2 0) q_6.2).bind fun q_8 => (fX1_isOf q_8 1 q_6.2).bind fun q_10 => if q_10 = true then (some (.inl (c2, (c3 + 1), q_6.2))) else (some (.inl ((c2 + 1), (c3 + 1), q_6.2))))
def fX8_sample (x1 : Int32) (h : Sto) : Option (Int32 × Sto) :=
  (fX8_isWithin x1 1 99 h).bind fun q_1 => if q_1 = true then (if ¬ (h 2 0) = 0 then ((lp (fun s => fX8_sample_b41 x1 s.1 s.2.1 s.2.2) FUEL (0, 0, h)).bind fun v_21 => some (v_21.1, v_21.2)) else ((fX8_tellFinding (-1000004) h).bind fun q_31 => some (q_31.1, q_31.2))) else ((fX8_tellFinding (-1000001) h).bind fun q_33 => some (q_33.1, q_33.2))
set_option maxRecDepth 100000 in
set_option maxHeartbeats 4000000 in
theorem okX8_sample (d : Nat) (x1 : Int32) (h : Sto) (qv : Int32) (qh : Sto) (e : fX8_sample x1 h = some (qv, qh)) : Ok yX8_sample cX8_sample 5 (some .int) (d + 2) [.ref 0, .int x1] h (some (.int qv)) qh := by
  refine Ok_of (lst := kX8_sample) (own := RX8) ⟨by decide, rfl⟩ ckX8_sample trivial (Nat.le_of_ble_eq_true rfl) ?_
  unfold fX8_sample at e
  change Ev kX8_sample RX8 5 (d + 2) nox 0 [some (.ref 0), some (.int x1), none, none, none] [] h (some (.int qv)) qh
  obtain ⟨q_1, e_2, e⟩ := bndS e
  refine s_iload_n 0 rfl rfl <| s_iconst 1 1 rfl (by decide) <| s_bipush 99 2 rfl (by decide) <| s_callS 3 [.int x1, .int 1, .int 99] [] rfl ml_X8_65 yw_X8_isWithin (okX8_isWithin (d + 1) _ _ _ _ _ e_2) rfl rfl (Nat.le_of_ble_eq_true rfl) <| ?_
  rcases iteS e with ⟨g_3, e⟩ | ⟨g_3, e⟩
  · refine s_if_ne_T 4 17 rfl (by decide) (b2i_T g_3) <| s_aload_n 9 rfl rfl <| s_getr 10 rfl fl_X8_12 sh_0 rfl <| s_getr 11 rfl fl_X8_74 sh_1 rfl <| s_geti 12 rfl fl_X8_78 sh_2 rfl <| ?_
    rcases iteS e with ⟨g_4, e⟩ | ⟨g_4, e⟩
    · obtain ⟨y_13, e_14, e⟩ := bndS e
      have kx_17 : ∀ v_21 : (Int32 × Sto), v_21 = y_13 → Ev kX8_sample RX8 5 (d + 2) nox 93 [none, none, some (.int v_21.1), none, none] [] v_21.2 (some (.int qv)) qh := by
        intro v_21 hy
        subst hy
        obtain ⟨rfl, rfl⟩ := some2 e
        exact s_iload_n 44 rfl rfl <| s_iret 45 rfl
      refine s_if_ne_T 13 37 rfl (by decide) g_4 <| s_iconst 0 18 rfl (by decide) <| s_istore_n [some (.ref 0), some (.int x1), some (.int 0), none, none] 19 rfl (by decide) rfl <| s_iconst 0 20 rfl (by decide) <| s_istore_n [some (.ref 0), some (.int x1), some (.int 0), some (.int 0), none] 21 rfl (by decide) rfl <| lpS (P := fun (s_20 : (Int32 × Int32 × Sto)) => Ev kX8_sample RX8 5 (d + 2) nox 41 [some (.ref 0), some (.int x1), some (.int s_20.1), some (.int s_20.2.1), none] [] s_20.2.2 (some (.int qv)) qh) ?_ FUEL _ e_14
      intro s_20 o_19 e hk_15 hx_16
      unfold fX8_sample_b41 at e
      refine s_iload_n 22 rfl rfl <| s_iload_n 23 rfl rfl <| ?_
      rcases iteS e with ⟨g_23, e⟩ | ⟨g_23, e⟩
      · cases e
        exact s_icmp_ge_T 24 93 rfl (by decide) g_23 <| s_fgt [true, true, false, true] rfl <| (kx_17 (s_20.1, s_20.2.2) (hx_16 _ rfl))
      · obtain ⟨q_24, e_25, e⟩ := bndS e
        obtain ⟨q_26, e_27, e⟩ := bndS e
        obtain ⟨q_28, e_29, e⟩ := bndS e
        refine s_icmp_ge_F 24 93 rfl (by decide) g_23 <| s_aload_n 25 rfl rfl <| s_getr 26 rfl fl_X8_12 sh_0 rfl <| s_callV (b := 1) (ci := 3) 27 [] [] rfl ml_X8_268 yw_X3_draw sh_1 rfl rfl (okX3_draw (d + 1) _ q_24.1 q_24.2 e_25) rfl rfl (Nat.le_of_ble_eq_true rfl) <| s_aload_n 28 rfl rfl <| s_getr 29 rfl fl_X8_12 sh_0 rfl <| s_getr 30 rfl fl_X8_74 sh_1 rfl <| s_geti 31 rfl fl_X8_78 sh_2 rfl <| s_callS 32 [.int q_24.1, .int (q_24.2 2 0)] [] rfl ml_X8_271 yw_X8_rest (okX8_rest (d + 1) _ _ _ _ e_27) rfl rfl (Nat.le_of_ble_eq_true rfl) <| s_istore [some (.ref 0), some (.int x1), some (.int s_20.1), some (.int s_20.2.1), some (.int q_26)] 33 rfl (by decide) rfl <| s_aload_n 34 rfl rfl <| s_getr 35 rfl fl_X8_12 sh_0 rfl <| s_getr 36 rfl fl_X8_74 sh_1 rfl <| s_iload 37 rfl rfl <| s_iconst 1 38 rfl (by decide) <| s_callV (b := 2) (ci := 1) 39 [.int q_26, .int 1] [] rfl ml_X8_103 yw_X1_isOf sh_2 rfl rfl (okX1_isOf (d + 1) _ _ _ _ e_29) rfl rfl (Nat.le_of_ble_eq_true rfl) <| ?_
        rcases iteS e with ⟨g_30, e⟩ | ⟨g_30, e⟩
        · cases e
          exact s_if_ne_T 40 87 rfl (by decide) (b2i_T g_30) <| s_iinc 1 [some (.ref 0), some (.int x1), some (.int s_20.1), some (.int (s_20.2.1 + 1)), some (.int q_26)] 42 rfl (by decide) rfl (by decide) rfl <| s_goto 43 41 rfl (by decide) <| s_fgt [false, false, false, false, true] rfl <| (hk_15 (s_20.1, (s_20.2.1 + 1), q_24.2) rfl)
        · cases e
          exact s_if_ne_F 40 87 rfl (by decide) (b2i_F g_30) <| s_iinc 1 [some (.ref 0), some (.int x1), some (.int (s_20.1 + 1)), some (.int s_20.2.1), some (.int q_26)] 41 rfl (by decide) rfl (by decide) rfl <| s_iinc 1 [some (.ref 0), some (.int x1), some (.int (s_20.1 + 1)), some (.int (s_20.2.1 + 1)), some (.int q_26)] 42 rfl (by decide) rfl (by decide) rfl <| s_goto 43 41 rfl (by decide) <| s_fgt [false, false, false, false, true] rfl <| (hk_15 ((s_20.1 + 1), (s_20.2.1 + 1), q_24.2) rfl)
    · obtain ⟨q_31, e_32, e⟩ := bndS e
      obtain ⟨rfl, rfl⟩ := some2 e
      exact s_if_ne_F 13 37 rfl (by decide) (Decidable.not_not.mp g_4) <| s_aload_n 14 rfl rfl <| s_ldc 15 rfl wc_X8_133 <| s_callV (b := 0) (ci := 8) 16 [.int (-1000004)] [] rfl ml_X8_70 yw_X8_tellFinding sh_0 rfl rfl (okX8_tellFinding d _ _ q_31.1 q_31.2 e_32) rfl rfl (Nat.le_of_ble_eq_true rfl) <| s_iret 17 rfl
  · obtain ⟨q_33, e_34, e⟩ := bndS e
    obtain ⟨rfl, rfl⟩ := some2 e
    exact s_if_ne_F 4 17 rfl (by decide) (b2i_F g_3) <| s_aload_n 5 rfl rfl <| s_ldc 6 rfl wc_X8_69 <| s_callV (b := 0) (ci := 8) 7 [.int (-1000001)] [] rfl ml_X8_70 yw_X8_tellFinding sh_0 rfl rfl (okX8_tellFinding d _ _ q_33.1 q_33.2 e_34) rfl rfl (Nat.le_of_ble_eq_true rfl) <| s_iret 8 rfl
def fX9_sample_b39 (x1 : Int32) (c2 : Int32) (c3 : Int32) (h : Sto) : Option ((Int32 × Int32 × Sto) ⊕ (Int32 × Sto)) :=
  if x1 ≤ c3 then (some (.inr (c2, h))) else ((some (su h 84 5 (((h 84 5) * 1103515245) + 12345))).bind fun h_6 => grd (¬ (h_6 84 0) = 0) <| (fX9_isPerson (jrem (jush (h_6 84 5) 8) (h_6 84 0)) h_6).bind fun q_8 => if q_8 = true then (some (.inl ((c2 + 0), (c3 + 1), h_6))) else (some (.inl ((c2 + 1), (c3 + 1), h_6))))
def fX9_sample (x1 : Int32) (h : Sto) : Option (Int32 × Sto) :=
  (fX9_in x1.toInt64 1 99 h).bind fun q_1 => if q_1 = true then (if ¬ (h 84 0) = 0 then ((lp (fun s => fX9_sample_b39 x1 s.1 s.2.1 s.2.2) FUEL (0, 0, h)).bind fun v_19 => some (v_19.1, v_19.2)) else ((fX9_finds (-1000004) h).bind fun q_27 => some (q_27.1, q_27.2))) else ((fX9_finds (-1000001) h).bind fun q_29 => some (q_29.1, q_29.2))
set_option maxRecDepth 100000 in
set_option maxHeartbeats 4000000 in
theorem okX9_sample (d : Nat) (x1 : Int32) (h : Sto) (qv : Int32) (qh : Sto) (e : fX9_sample x1 h = some (qv, qh)) : Ok yX9_sample cX9_sample 4 (some .int) (d + 2) [.ref 83, .int x1] h (some (.int qv)) qh := by
  refine Ok_of (lst := kX9_sample) (own := RX9) ⟨by decide, rfl⟩ ckX9_sample trivial (Nat.le_of_ble_eq_true rfl) ?_
  unfold fX9_sample at e
  change Ev kX9_sample RX9 4 (d + 2) nox 0 [some (.ref 83), some (.int x1), none, none] [] h (some (.int qv)) qh
  obtain ⟨q_1, e_2, e⟩ := bndS e
  refine s_iload_n 0 rfl rfl <| s_i2l 1 rfl <| s_lconst 1 2 rfl (by decide) <| s_ldc2_w 3 rfl wc_X9_82 <| s_callS 4 [.long x1.toInt64, .long 1, .long 99] [] rfl ml_X9_48 yw_X9_in (okX9_in (d + 1) _ _ _ _ _ e_2) rfl rfl (Nat.le_of_ble_eq_true rfl) <| ?_
  rcases iteS e with ⟨g_3, e⟩ | ⟨g_3, e⟩
  · refine s_if_ne_T 5 19 rfl (by decide) (b2i_T g_3) <| s_aload_n 10 rfl rfl <| s_getr 11 rfl fl_X9_9 sh_83 rfl <| s_iconst 0 12 rfl (by decide) <| s_iald 0 13 rfl sh_84 (by decide) (by decide) <| ?_
    rcases iteS e with ⟨g_4, e⟩ | ⟨g_4, e⟩
    · obtain ⟨y_11, e_12, e⟩ := bndS e
      have kx_15 : ∀ v_19 : (Int32 × Sto), v_19 = y_11 → Ev kX9_sample RX9 4 (d + 2) nox 101 [none, none, some (.int v_19.1), none] [] v_19.2 (some (.int qv)) qh := by
        intro v_19 hy
        subst hy
        obtain ⟨rfl, rfl⟩ := some2 e
        exact s_iload_n 60 rfl rfl <| s_iret 61 rfl
      refine s_if_ne_T 14 35 rfl (by decide) g_4 <| s_iconst 0 19 rfl (by decide) <| s_istore_n [some (.ref 83), some (.int x1), some (.int 0), none] 20 rfl (by decide) rfl <| s_iconst 0 21 rfl (by decide) <| s_istore_n [some (.ref 83), some (.int x1), some (.int 0), some (.int 0)] 22 rfl (by decide) rfl <| lpS (P := fun (s_18 : (Int32 × Int32 × Sto)) => Ev kX9_sample RX9 4 (d + 2) nox 39 [some (.ref 83), some (.int x1), some (.int s_18.1), some (.int s_18.2.1)] [] s_18.2.2 (some (.int qv)) qh) ?_ FUEL _ e_12
      intro s_18 o_17 e hk_13 hx_14
      unfold fX9_sample_b39 at e
      refine s_iload_n 23 rfl rfl <| s_iload_n 24 rfl rfl <| ?_
      rcases iteS e with ⟨g_21, e⟩ | ⟨g_21, e⟩
      · cases e
        exact s_icmp_ge_T 25 101 rfl (by decide) g_21 <| s_fgt [true, true, false, true] rfl <| (kx_15 (s_18.1, s_18.2.2) (hx_14 _ rfl))
      · obtain ⟨h_22, eh_22, e⟩ := bndS e
        obtain ⟨g_23, e⟩ := grdS e
        obtain ⟨q_24, e_25, e⟩ := bndS e
        refine s_icmp_ge_F 25 101 rfl (by decide) g_21 <| s_aload_n 26 rfl rfl <| s_getr 27 rfl fl_X9_9 sh_83 rfl <| s_iconst 5 28 rfl (by decide) <| s_aload_n 29 rfl rfl <| s_getr 30 rfl fl_X9_9 sh_83 rfl <| s_iconst 5 31 rfl (by decide) <| s_iald 5 32 rfl sh_84 (by decide) (by decide) <| s_ldc_w 33 rfl wc_X9_271 <| s_imul 34 rfl <| s_sipush 12345 35 rfl (by decide) <| s_iadd 36 rfl <| s_iast 5 37 rfl sh_84 (by decide) (by decide) <| s_nmH (Option.some.inj eh_22) <| s_iload_n 38 rfl rfl <| s_aload_n 39 rfl rfl <| s_aload_n 40 rfl rfl <| s_getr 41 rfl fl_X9_9 sh_83 rfl <| s_iconst 5 42 rfl (by decide) <| s_iald 5 43 rfl sh_84 (by decide) (by decide) <| s_bipush 8 44 rfl (by decide) <| s_iushr 45 rfl <| s_aload_n 46 rfl rfl <| s_getr 47 rfl fl_X9_9 sh_83 rfl <| s_iconst 0 48 rfl (by decide) <| s_iald 0 49 rfl sh_84 (by decide) (by decide) <| s_irem 50 rfl g_23 <| s_callV (b := 83) (ci := 9) 51 [.int (jrem (jush (h_22 84 5) 8) (h_22 84 0))] [.int s_18.1] rfl ml_X9_77 yw_X9_isPerson sh_83 rfl rfl (okX9_isPerson d _ _ _ e_25) rfl rfl (Nat.le_of_ble_eq_true rfl) <| ?_
        rcases iteS e with ⟨g_26, e⟩ | ⟨g_26, e⟩
        · cases e
          exact s_if_eq_F 52 92 rfl (by decide) (b2i_T g_26) <| s_iconst 0 53 rfl (by decide) <| s_goto 54 93 rfl (by decide) <| s_iadd 56 rfl <| s_istore_n [some (.ref 83), some (.int x1), some (.int (s_18.1 + 0)), some (.int s_18.2.1)] 57 rfl (by decide) rfl <| s_iinc 1 [some (.ref 83), some (.int x1), some (.int (s_18.1 + 0)), some (.int (s_18.2.1 + 1))] 58 rfl (by decide) rfl (by decide) rfl <| s_goto 59 39 rfl (by decide) <| (hk_13 ((s_18.1 + 0), (s_18.2.1 + 1), h_22) rfl)
        · cases e
          exact s_if_eq_T 52 92 rfl (by decide) (b2i_F g_26) <| s_iconst 1 55 rfl (by decide) <| s_iadd 56 rfl <| s_istore_n [some (.ref 83), some (.int x1), some (.int (s_18.1 + 1)), some (.int s_18.2.1)] 57 rfl (by decide) rfl <| s_iinc 1 [some (.ref 83), some (.int x1), some (.int (s_18.1 + 1)), some (.int (s_18.2.1 + 1))] 58 rfl (by decide) rfl (by decide) rfl <| s_goto 59 39 rfl (by decide) <| (hk_13 ((s_18.1 + 1), (s_18.2.1 + 1), h_22) rfl)
    · obtain ⟨q_27, e_28, e⟩ := bndS e
      obtain ⟨rfl, rfl⟩ := some2 e
      exact s_if_ne_F 14 35 rfl (by decide) (Decidable.not_not.mp g_4) <| s_aload_n 15 rfl rfl <| s_ldc 16 rfl wc_X9_122 <| s_callV (b := 83) (ci := 9) 17 [.int (-1000004)] [] rfl ml_X9_64 yw_X9_finds sh_83 rfl rfl (okX9_finds (d + 1) _ _ q_27.1 q_27.2 e_28) rfl rfl (Nat.le_of_ble_eq_true rfl) <| s_iret 18 rfl
  · obtain ⟨q_29, e_30, e⟩ := bndS e
    obtain ⟨rfl, rfl⟩ := some2 e
    exact s_if_ne_F 5 19 rfl (by decide) (b2i_F g_3) <| s_aload_n 6 rfl rfl <| s_ldc 7 rfl wc_X9_47 <| s_callV (b := 83) (ci := 9) 8 [.int (-1000001)] [] rfl ml_X9_64 yw_X9_finds sh_83 rfl rfl (okX9_finds (d + 1) _ _ q_29.1 q_29.2 e_30) rfl rfl (Nat.le_of_ble_eq_true rfl) <| s_iret 9 rfl
def fX8_isSpot (x0 : Int32) (h : Sto) : Option Bool :=
  (fX8_isWithin x0 0 9 h).bind fun q_1 => some q_1
set_option maxRecDepth 100000 in
set_option maxHeartbeats 4000000 in
theorem okX8_isSpot (d : Nat) (x0 : Int32) (h : Sto) (q : Bool) (e : fX8_isSpot x0 h = some q) : Ok yX8_isSpot cX8_isSpot 1 (some .boolean) (d + 1) [.int x0] h (some (.int (b2i q))) h := by
  refine Ok_of (lst := kX8_isSpot) (own := RX8) ⟨by decide, rfl⟩ ckX8_isSpot (b2i_01 _) (Nat.le_of_ble_eq_true rfl) ?_
  unfold fX8_isSpot at e
  change Ev kX8_isSpot RX8 1 (d + 1) nox 0 [some (.int x0)] [] h (some (.int (b2i q))) h
  obtain ⟨q_1, e_2, e⟩ := bndS e
  obtain rfl := Option.some.inj e
  exact s_iload_n 0 rfl rfl <| s_iconst 0 1 rfl (by decide) <| s_bipush 9 2 rfl (by decide) <| s_callS 3 [.int x0, .int 0, .int 9] [] rfl ml_X8_65 yw_X8_isWithin (okX8_isWithin d _ _ _ _ _ e_2) rfl rfl (Nat.le_of_ble_eq_true rfl) <| s_iret 4 rfl
def fX8_hold (x1 : Int32) (x2 : Int32) (h : Sto) : Option (Int32 × Sto) :=
  (fX8_isSpot x1 h).bind fun q_1 => if q_1 = true then (if x2 = (-1) then (grd (inb x1 10) <| (some (su h 25 (Int32.toNatClampNeg x1) x2)).bind fun h_6 => some (1, h_6)) else ((fX1_has x2 h).bind fun q_7 => if q_7 = true then (grd (inb x1 10) <| (some (su h 25 (Int32.toNatClampNeg x1) x2)).bind fun h_11 => some (1, h_11)) else ((fX8_tellFinding (-1000001) h).bind fun q_12 => some (q_12.1, q_12.2)))) else ((fX8_tellFinding (-1000001) h).bind fun q_14 => some (q_14.1, q_14.2))
set_option maxRecDepth 100000 in
set_option maxHeartbeats 4000000 in
theorem okX8_hold (d : Nat) (x1 : Int32) (x2 : Int32) (h : Sto) (qv : Int32) (qh : Sto) (e : fX8_hold x1 x2 h = some (qv, qh)) : Ok yX8_hold cX8_hold 3 (some .int) (d + 2) [.ref 0, .int x1, .int x2] h (some (.int qv)) qh := by
  refine Ok_of (lst := kX8_hold) (own := RX8) ⟨by decide, rfl⟩ ckX8_hold trivial (Nat.le_of_ble_eq_true rfl) ?_
  unfold fX8_hold at e
  change Ev kX8_hold RX8 3 (d + 2) nox 0 [some (.ref 0), some (.int x1), some (.int x2)] [] h (some (.int qv)) qh
  obtain ⟨q_1, e_2, e⟩ := bndS e
  refine s_iload_n 0 rfl rfl <| s_callS 1 [.int x1] [] rfl ml_X8_274 yw_X8_isSpot (okX8_isSpot d _ _ _ e_2) rfl rfl (Nat.le_of_ble_eq_true rfl) <| ?_
  rcases iteS e with ⟨g_3, e⟩ | ⟨g_3, e⟩
  · refine s_if_eq_F 2 26 rfl (by decide) (b2i_T g_3) <| s_iload_n 3 rfl rfl <| s_iconst (-1) 4 rfl (by decide) <| ?_
    rcases iteS e with ⟨g_4, e⟩ | ⟨g_4, e⟩
    · obtain ⟨g_5, e⟩ := grdS e
      obtain ⟨h_6, eh_6, e⟩ := bndS e
      obtain ⟨rfl, rfl⟩ := some2 e
      exact s_icmp_eq_T 5 33 rfl (by decide) g_4 <| s_aload_n 16 rfl rfl <| s_getr 17 rfl fl_X8_12 sh_0 rfl <| s_getr 18 rfl fl_X8_277 sh_1 rfl <| s_iload_n 19 rfl rfl <| s_iload_n 20 rfl rfl <| s_iast (Int32.toNatClampNeg x1) 21 rfl sh_25 g_5 rfl <| s_nmH (Option.some.inj eh_6) <| s_iconst 1 22 rfl (by decide) <| s_iret 23 rfl
    · obtain ⟨q_7, e_8, e⟩ := bndS e
      refine s_icmp_eq_F 5 33 rfl (by decide) g_4 <| s_aload_n 6 rfl rfl <| s_getr 7 rfl fl_X8_12 sh_0 rfl <| s_getr 8 rfl fl_X8_74 sh_1 rfl <| s_iload_n 9 rfl rfl <| s_callV (b := 2) (ci := 1) 10 [.int x2] [] rfl ml_X8_88 yw_X1_has sh_2 rfl rfl (okX1_has d _ _ _ e_8) rfl rfl (Nat.le_of_ble_eq_true rfl) <| ?_
      rcases iteS e with ⟨g_9, e⟩ | ⟨g_9, e⟩
      · obtain ⟨g_10, e⟩ := grdS e
        obtain ⟨h_11, eh_11, e⟩ := bndS e
        obtain ⟨rfl, rfl⟩ := some2 e
        exact s_if_ne_T 11 33 rfl (by decide) (b2i_T g_9) <| s_aload_n 16 rfl rfl <| s_getr 17 rfl fl_X8_12 sh_0 rfl <| s_getr 18 rfl fl_X8_277 sh_1 rfl <| s_iload_n 19 rfl rfl <| s_iload_n 20 rfl rfl <| s_iast (Int32.toNatClampNeg x1) 21 rfl sh_25 g_10 rfl <| s_nmH (Option.some.inj eh_11) <| s_iconst 1 22 rfl (by decide) <| s_iret 23 rfl
      · obtain ⟨q_12, e_13, e⟩ := bndS e
        obtain ⟨rfl, rfl⟩ := some2 e
        exact s_if_ne_F 11 33 rfl (by decide) (b2i_F g_9) <| s_aload_n 12 rfl rfl <| s_ldc 13 rfl wc_X8_69 <| s_callV (b := 0) (ci := 8) 14 [.int (-1000001)] [] rfl ml_X8_70 yw_X8_tellFinding sh_0 rfl rfl (okX8_tellFinding d _ _ q_12.1 q_12.2 e_13) rfl rfl (Nat.le_of_ble_eq_true rfl) <| s_iret 15 rfl
  · obtain ⟨q_14, e_15, e⟩ := bndS e
    obtain ⟨rfl, rfl⟩ := some2 e
    exact s_if_eq_T 2 26 rfl (by decide) (b2i_F g_3) <| s_aload_n 12 rfl rfl <| s_ldc 13 rfl wc_X8_69 <| s_callV (b := 0) (ci := 8) 14 [.int (-1000001)] [] rfl ml_X8_70 yw_X8_tellFinding sh_0 rfl rfl (okX8_tellFinding d _ _ q_14.1 q_14.2 e_15) rfl rfl (Nat.le_of_ble_eq_true rfl) <| s_iret 15 rfl
def fX9_hold (x1 : Int32) (x2 : Int32) (h : Sto) : Option (Int32 × Sto) :=
  (fX9_in x1.toInt64 0 9 h).bind fun q_1 => if q_1 = true then (if x2 = (-1) then (grd (inb (1204 + x1) 1214) <| (some (su h 84 (Int32.toNatClampNeg (1204 + x1)) x2)).bind fun h_6 => some (1, h_6)) else ((fX9_isName x2 h).bind fun q_7 => if q_7 = true then (grd (inb (1204 + x1) 1214) <| (some (su h 84 (Int32.toNatClampNeg (1204 + x1)) x2)).bind fun h_11 => some (1, h_11)) else ((fX9_finds (-1000001) h).bind fun q_12 => some (q_12.1, q_12.2)))) else ((fX9_finds (-1000001) h).bind fun q_14 => some (q_14.1, q_14.2))
set_option maxRecDepth 100000 in
set_option maxHeartbeats 4000000 in
theorem okX9_hold (d : Nat) (x1 : Int32) (x2 : Int32) (h : Sto) (qv : Int32) (qh : Sto) (e : fX9_hold x1 x2 h = some (qv, qh)) : Ok yX9_hold cX9_hold 3 (some .int) (d + 2) [.ref 83, .int x1, .int x2] h (some (.int qv)) qh := by
  refine Ok_of (lst := kX9_hold) (own := RX9) ⟨by decide, rfl⟩ ckX9_hold trivial (Nat.le_of_ble_eq_true rfl) ?_
  unfold fX9_hold at e
  change Ev kX9_hold RX9 3 (d + 2) nox 0 [some (.ref 83), some (.int x1), some (.int x2)] [] h (some (.int qv)) qh
  obtain ⟨q_1, e_2, e⟩ := bndS e
  refine s_iload_n 0 rfl rfl <| s_i2l 1 rfl <| s_lconst 0 2 rfl (by decide) <| s_ldc2_w 3 rfl wc_X9_58 <| s_callS 4 [.long x1.toInt64, .long 0, .long 9] [] rfl ml_X9_48 yw_X9_in (okX9_in (d + 1) _ _ _ _ _ e_2) rfl rfl (Nat.le_of_ble_eq_true rfl) <| ?_
  rcases iteS e with ⟨g_3, e⟩ | ⟨g_3, e⟩
  · refine s_if_eq_F 5 25 rfl (by decide) (b2i_T g_3) <| s_iload_n 6 rfl rfl <| s_iconst (-1) 7 rfl (by decide) <| ?_
    rcases iteS e with ⟨g_4, e⟩ | ⟨g_4, e⟩
    · obtain ⟨g_5, e⟩ := grdS e
      obtain ⟨h_6, eh_6, e⟩ := bndS e
      obtain ⟨rfl, rfl⟩ := some2 e
      exact s_icmp_eq_T 8 32 rfl (by decide) g_4 <| s_aload_n 17 rfl rfl <| s_getr 18 rfl fl_X9_9 sh_83 rfl <| s_sipush 1204 19 rfl (by decide) <| s_iload_n 20 rfl rfl <| s_iadd 21 rfl <| s_iload_n 22 rfl rfl <| s_iast (Int32.toNatClampNeg (1204 + x1)) 23 rfl sh_84 g_5 rfl <| s_nmH (Option.some.inj eh_6) <| s_iconst 1 24 rfl (by decide) <| s_iret 25 rfl
    · obtain ⟨q_7, e_8, e⟩ := bndS e
      refine s_icmp_eq_F 8 32 rfl (by decide) g_4 <| s_aload_n 9 rfl rfl <| s_iload_n 10 rfl rfl <| s_callV (b := 83) (ci := 9) 11 [.int x2] [] rfl ml_X9_73 yw_X9_isName sh_83 rfl rfl (okX9_isName d _ _ _ e_8) rfl rfl (Nat.le_of_ble_eq_true rfl) <| ?_
      rcases iteS e with ⟨g_9, e⟩ | ⟨g_9, e⟩
      · obtain ⟨g_10, e⟩ := grdS e
        obtain ⟨h_11, eh_11, e⟩ := bndS e
        obtain ⟨rfl, rfl⟩ := some2 e
        exact s_if_ne_T 12 32 rfl (by decide) (b2i_T g_9) <| s_aload_n 17 rfl rfl <| s_getr 18 rfl fl_X9_9 sh_83 rfl <| s_sipush 1204 19 rfl (by decide) <| s_iload_n 20 rfl rfl <| s_iadd 21 rfl <| s_iload_n 22 rfl rfl <| s_iast (Int32.toNatClampNeg (1204 + x1)) 23 rfl sh_84 g_10 rfl <| s_nmH (Option.some.inj eh_11) <| s_iconst 1 24 rfl (by decide) <| s_iret 25 rfl
      · obtain ⟨q_12, e_13, e⟩ := bndS e
        obtain ⟨rfl, rfl⟩ := some2 e
        exact s_if_ne_F 12 32 rfl (by decide) (b2i_F g_9) <| s_aload_n 13 rfl rfl <| s_ldc 14 rfl wc_X9_47 <| s_callV (b := 83) (ci := 9) 15 [.int (-1000001)] [] rfl ml_X9_64 yw_X9_finds sh_83 rfl rfl (okX9_finds (d + 1) _ _ q_12.1 q_12.2 e_13) rfl rfl (Nat.le_of_ble_eq_true rfl) <| s_iret 16 rfl
  · obtain ⟨q_14, e_15, e⟩ := bndS e
    obtain ⟨rfl, rfl⟩ := some2 e
    exact s_if_eq_T 5 25 rfl (by decide) (b2i_F g_3) <| s_aload_n 13 rfl rfl <| s_ldc 14 rfl wc_X9_47 <| s_callV (b := 83) (ci := 9) 15 [.int (-1000001)] [] rfl ml_X9_64 yw_X9_finds sh_83 rfl rfl (okX9_finds (d + 1) _ _ q_14.1 q_14.2 e_15) rfl rfl (Nat.le_of_ble_eq_true rfl) <| s_iret 16 rfl
def fX8_as (x1 : Int32) (x2 : Int32) (h : Sto) : Option (Int32 × Sto) :=
  (fX8_isSpot x1 h).bind fun q_1 => if q_1 = true then ((fX8_isWithin x2 0 7 h).bind fun q_4 => if q_4 = true then (grd (inb x1 10) <| if 0 ≤ (h 25 (Int32.toNatClampNeg x1)) then ((fX1_isOf (h 25 (Int32.toNatClampNeg x1)) x2 h).bind fun q_9 => if q_9 = true then (some ((h 25 (Int32.toNatClampNeg x1)), h)) else ((fX8_tellFinding (-1000003) h).bind fun q_12 => some (q_12.1, q_12.2))) else ((fX8_tellFinding (-1000006) h).bind fun q_14 => some (q_14.1, q_14.2))) else ((fX8_tellFinding (-1000001) h).bind fun q_16 => some (q_16.1, q_16.2))) else ((fX8_tellFinding (-1000001) h).bind fun q_18 => some (q_18.1, q_18.2))
set_option maxRecDepth 100000 in
set_option maxHeartbeats 4000000 in
theorem okX8_as (d : Nat) (x1 : Int32) (x2 : Int32) (h : Sto) (qv : Int32) (qh : Sto) (e : fX8_as x1 x2 h = some (qv, qh)) : Ok yX8_as cX8_as 4 (some .int) (d + 2) [.ref 0, .int x1, .int x2] h (some (.int qv)) qh := by
  refine Ok_of (lst := kX8_as) (own := RX8) ⟨by decide, rfl⟩ ckX8_as trivial (Nat.le_of_ble_eq_true rfl) ?_
  unfold fX8_as at e
  change Ev kX8_as RX8 4 (d + 2) nox 0 [some (.ref 0), some (.int x1), some (.int x2), none] [] h (some (.int qv)) qh
  obtain ⟨q_1, e_2, e⟩ := bndS e
  refine s_iload_n 0 rfl rfl <| s_callS 1 [.int x1] [] rfl ml_X8_274 yw_X8_isSpot (okX8_isSpot d _ _ _ e_2) rfl rfl (Nat.le_of_ble_eq_true rfl) <| ?_
  rcases iteS e with ⟨g_3, e⟩ | ⟨g_3, e⟩
  · obtain ⟨q_4, e_5, e⟩ := bndS e
    refine s_if_eq_F 2 17 rfl (by decide) (b2i_T g_3) <| s_iload_n 3 rfl rfl <| s_iconst 0 4 rfl (by decide) <| s_bipush 7 5 rfl (by decide) <| s_callS 6 [.int x2, .int 0, .int 7] [] rfl ml_X8_65 yw_X8_isWithin (okX8_isWithin (d + 1) _ _ _ _ _ e_5) rfl rfl (Nat.le_of_ble_eq_true rfl) <| ?_
    rcases iteS e with ⟨g_6, e⟩ | ⟨g_6, e⟩
    · obtain ⟨g_7, e⟩ := grdS e
      refine s_if_ne_T 7 24 rfl (by decide) (b2i_T g_6) <| s_aload_n 12 rfl rfl <| s_getr 13 rfl fl_X8_12 sh_0 rfl <| s_getr 14 rfl fl_X8_277 sh_1 rfl <| s_iload_n 15 rfl rfl <| s_iald (Int32.toNatClampNeg x1) 16 rfl sh_25 g_7 rfl <| s_istore_n [some (.ref 0), some (.int x1), some (.int x2), some (.int (h 25 (Int32.toNatClampNeg x1)))] 17 rfl (by decide) rfl <| s_iload_n 18 rfl rfl <| ?_
      rcases iteS e with ⟨g_8, e⟩ | ⟨g_8, e⟩
      · obtain ⟨q_9, e_10, e⟩ := bndS e
        refine s_if_ge_T 19 46 rfl (by decide) g_8 <| s_aload_n 24 rfl rfl <| s_getr 25 rfl fl_X8_12 sh_0 rfl <| s_getr 26 rfl fl_X8_74 sh_1 rfl <| s_iload_n 27 rfl rfl <| s_iload_n 28 rfl rfl <| s_callV (b := 2) (ci := 1) 29 [.int (h 25 (Int32.toNatClampNeg x1)), .int x2] [] rfl ml_X8_103 yw_X1_isOf sh_2 rfl rfl (okX1_isOf (d + 1) _ _ _ _ e_10) rfl rfl (Nat.le_of_ble_eq_true rfl) <| ?_
        rcases iteS e with ⟨g_11, e⟩ | ⟨g_11, e⟩
        · obtain ⟨rfl, rfl⟩ := some2 e
          exact s_if_eq_F 30 65 rfl (by decide) (b2i_T g_11) <| s_iload_n 31 rfl rfl <| s_goto 32 72 rfl (by decide) <| s_iret 36 rfl
        · obtain ⟨q_12, e_13, e⟩ := bndS e
          obtain ⟨rfl, rfl⟩ := some2 e
          exact s_if_eq_T 30 65 rfl (by decide) (b2i_F g_11) <| s_aload_n 33 rfl rfl <| s_ldc_w 34 rfl wc_X8_281 <| s_callV (b := 0) (ci := 8) 35 [.int (-1000003)] [] rfl ml_X8_70 yw_X8_tellFinding sh_0 rfl rfl (okX8_tellFinding d _ _ q_12.1 q_12.2 e_13) rfl rfl (Nat.le_of_ble_eq_true rfl) <| s_iret 36 rfl
      · obtain ⟨q_14, e_15, e⟩ := bndS e
        obtain ⟨rfl, rfl⟩ := some2 e
        exact s_if_ge_F 19 46 rfl (by decide) g_8 <| s_aload_n 20 rfl rfl <| s_ldc_w 21 rfl wc_X8_280 <| s_callV (b := 0) (ci := 8) 22 [.int (-1000006)] [] rfl ml_X8_70 yw_X8_tellFinding sh_0 rfl rfl (okX8_tellFinding d _ _ q_14.1 q_14.2 e_15) rfl rfl (Nat.le_of_ble_eq_true rfl) <| s_iret 23 rfl
    · obtain ⟨q_16, e_17, e⟩ := bndS e
      obtain ⟨rfl, rfl⟩ := some2 e
      exact s_if_ne_F 7 24 rfl (by decide) (b2i_F g_6) <| s_aload_n 8 rfl rfl <| s_ldc 9 rfl wc_X8_69 <| s_callV (b := 0) (ci := 8) 10 [.int (-1000001)] [] rfl ml_X8_70 yw_X8_tellFinding sh_0 rfl rfl (okX8_tellFinding d _ _ q_16.1 q_16.2 e_17) rfl rfl (Nat.le_of_ble_eq_true rfl) <| s_iret 11 rfl
  · obtain ⟨q_18, e_19, e⟩ := bndS e
    obtain ⟨rfl, rfl⟩ := some2 e
    exact s_if_eq_T 2 17 rfl (by decide) (b2i_F g_3) <| s_aload_n 8 rfl rfl <| s_ldc 9 rfl wc_X8_69 <| s_callV (b := 0) (ci := 8) 10 [.int (-1000001)] [] rfl ml_X8_70 yw_X8_tellFinding sh_0 rfl rfl (okX8_tellFinding d _ _ q_18.1 q_18.2 e_19) rfl rfl (Nat.le_of_ble_eq_true rfl) <| s_iret 11 rfl
def fX9_above (x0 : Int32) (h : Sto) : Option Int32 :=
  if ¬ x0 = 0 then (if x0 = 3 then (some 1) else (if ¬ x0 = 6 then (if ¬ x0 = 4 then (if ¬ x0 = 7 then (some 0) else (some 4)) else (some 2)) else (some 1))) else (some (-1))
set_option maxRecDepth 100000 in
set_option maxHeartbeats 4000000 in
theorem okX9_above (d : Nat) (x0 : Int32) (h : Sto) (q : Int32) (e : fX9_above x0 h = some q) : Ok yX9_above cX9_above 1 (some .int) d [.int x0] h (some (.int q)) h := by
  refine Ok_of (lst := kX9_above) (own := RX9) ⟨by decide, rfl⟩ ckX9_above trivial (Nat.le_of_ble_eq_true rfl) ?_
  unfold fX9_above at e
  change Ev kX9_above RX9 1 d nox 0 [some (.int x0)] [] h (some (.int q)) h
  refine s_iload_n 0 rfl rfl <| ?_
  rcases iteS e with ⟨g_1, e⟩ | ⟨g_1, e⟩
  · refine s_if_ne_T 1 8 rfl (by decide) g_1 <| s_iload_n 4 rfl rfl <| s_iconst 3 5 rfl (by decide) <| ?_
    rcases iteS e with ⟨g_2, e⟩ | ⟨g_2, e⟩
    · obtain rfl := Option.some.inj e
      exact s_icmp_eq_T 6 19 rfl (by decide) g_2 <| s_iconst 1 10 rfl (by decide) <| s_goto 11 43 rfl (by decide) <| s_iret 23 rfl
    · refine s_icmp_eq_F 6 19 rfl (by decide) g_2 <| s_iload_n 7 rfl rfl <| s_bipush 6 8 rfl (by decide) <| ?_
      rcases iteS e with ⟨g_3, e⟩ | ⟨g_3, e⟩
      · refine s_icmp_ne_T 9 23 rfl (by decide) g_3 <| s_iload_n 12 rfl rfl <| s_iconst 4 13 rfl (by decide) <| ?_
        rcases iteS e with ⟨g_4, e⟩ | ⟨g_4, e⟩
        · refine s_icmp_ne_T 14 32 rfl (by decide) g_4 <| s_iload_n 17 rfl rfl <| s_bipush 7 18 rfl (by decide) <| ?_
          rcases iteS e with ⟨g_5, e⟩ | ⟨g_5, e⟩
          · obtain rfl := Option.some.inj e
            exact s_icmp_ne_T 19 42 rfl (by decide) g_5 <| s_iconst 0 22 rfl (by decide) <| s_iret 23 rfl
          · obtain rfl := Option.some.inj e
            exact s_icmp_ne_F 19 42 rfl (by decide) (Decidable.not_not.mp g_5) <| s_iconst 4 20 rfl (by decide) <| s_goto 21 43 rfl (by decide) <| s_iret 23 rfl
        · obtain rfl := Option.some.inj e
          exact s_icmp_ne_F 14 32 rfl (by decide) (Decidable.not_not.mp g_4) <| s_iconst 2 15 rfl (by decide) <| s_goto 16 43 rfl (by decide) <| s_iret 23 rfl
      · obtain rfl := Option.some.inj e
        exact s_icmp_ne_F 9 23 rfl (by decide) (Decidable.not_not.mp g_3) <| s_iconst 1 10 rfl (by decide) <| s_goto 11 43 rfl (by decide) <| s_iret 23 rfl
  · obtain rfl := Option.some.inj e
    exact s_if_ne_F 1 8 rfl (by decide) (Decidable.not_not.mp g_1) <| s_iconst (-1) 2 rfl (by decide) <| s_goto 3 43 rfl (by decide) <| s_iret 23 rfl
def fX9_as_b62 (x2 : Int32) (x3 : Int32) (h : Sto) (c4 : Int32) : Option (Int32 ⊕ (Unit ⊕ (Int32 × Sto))) :=
  if c4 < 0 then (some (.inr (.inl ()))) else (if ¬ c4 = x2 then ((fX9_above c4 h).bind fun q_13 => some (.inl q_13)) else (some (.inr (.inr (x3, h)))))
def fX9_as (x1 : Int32) (x2 : Int32) (h : Sto) : Option (Int32 × Sto) :=
  (fX9_in x1.toInt64 0 9 h).bind fun q_1 => if q_1 = true then ((fX9_in x2.toInt64 0 7 h).bind fun q_4 => if q_4 = true then (grd (inb (1204 + x1) 1214) <| if 0 ≤ (h 84 (Int32.toNatClampNeg (1204 + x1))) then ((fX9_of (h 84 (Int32.toNatClampNeg (1204 + x1))) 0 h).bind fun q_9 => (lp (fun s => fX9_as_b62 x2 (h 84 (Int32.toNatClampNeg (1204 + x1))) h s) FUEL q_9).bind fun y_15 => Sum.elim (fun v_23 => (fX9_finds (-1000003) h).bind fun q_25 => some (q_25.1, q_25.2)) (fun z_24 => some z_24) y_15) else ((fX9_finds (-1000006) h).bind fun q_31 => some (q_31.1, q_31.2))) else ((fX9_finds (-1000001) h).bind fun q_33 => some (q_33.1, q_33.2))) else ((fX9_finds (-1000001) h).bind fun q_35 => some (q_35.1, q_35.2))
set_option maxRecDepth 100000 in
set_option maxHeartbeats 4000000 in
theorem okX9_as (d : Nat) (x1 : Int32) (x2 : Int32) (h : Sto) (qv : Int32) (qh : Sto) (e : fX9_as x1 x2 h = some (qv, qh)) : Ok yX9_as cX9_as 5 (some .int) (d + 1) [.ref 83, .int x1, .int x2] h (some (.int qv)) qh := by
  refine Ok_of (lst := kX9_as) (own := RX9) ⟨by decide, rfl⟩ ckX9_as trivial (Nat.le_of_ble_eq_true rfl) ?_
  unfold fX9_as at e
  change Ev kX9_as RX9 5 (d + 1) nox 0 [some (.ref 83), some (.int x1), some (.int x2), none, none] [] h (some (.int qv)) qh
  obtain ⟨q_1, e_2, e⟩ := bndS e
  refine s_iload_n 0 rfl rfl <| s_i2l 1 rfl <| s_lconst 0 2 rfl (by decide) <| s_ldc2_w 3 rfl wc_X9_58 <| s_callS 4 [.long x1.toInt64, .long 0, .long 9] [] rfl ml_X9_48 yw_X9_in (okX9_in d _ _ _ _ _ e_2) rfl rfl (Nat.le_of_ble_eq_true rfl) <| ?_
  rcases iteS e with ⟨g_3, e⟩ | ⟨g_3, e⟩
  · obtain ⟨q_4, e_5, e⟩ := bndS e
    refine s_if_eq_F 5 24 rfl (by decide) (b2i_T g_3) <| s_iload_n 6 rfl rfl <| s_i2l 7 rfl <| s_lconst 0 8 rfl (by decide) <| s_ldc2_w 9 rfl wc_X9_60 <| s_callS 10 [.long x2.toInt64, .long 0, .long 7] [] rfl ml_X9_48 yw_X9_in (okX9_in d _ _ _ _ _ e_5) rfl rfl (Nat.le_of_ble_eq_true rfl) <| ?_
    rcases iteS e with ⟨g_6, e⟩ | ⟨g_6, e⟩
    · obtain ⟨g_7, e⟩ := grdS e
      refine s_if_ne_T 11 31 rfl (by decide) (b2i_T g_6) <| s_aload_n 16 rfl rfl <| s_getr 17 rfl fl_X9_9 sh_83 rfl <| s_sipush 1204 18 rfl (by decide) <| s_iload_n 19 rfl rfl <| s_iadd 20 rfl <| s_iald (Int32.toNatClampNeg (1204 + x1)) 21 rfl sh_84 g_7 rfl <| s_istore_n [some (.ref 83), some (.int x1), some (.int x2), some (.int (h 84 (Int32.toNatClampNeg (1204 + x1)))), none] 22 rfl (by decide) rfl <| s_iload_n 23 rfl rfl <| ?_
      rcases iteS e with ⟨g_8, e⟩ | ⟨g_8, e⟩
      · obtain ⟨q_9, e_10, e⟩ := bndS e
        obtain ⟨y_15, e_16, e⟩ := bndS e
        have kx_19 : ∀ v_23 : Unit, .inl v_23 = y_15 → Ev kX9_as RX9 5 (d + 1) nox 85 [some (.ref 83), none, none, none, none] [] h (some (.int qv)) qh := by
          intro v_23 hy
          subst hy
          have e := elL e
          obtain ⟨q_25, e_26, e⟩ := bndS e
          obtain ⟨rfl, rfl⟩ := some2 e
          exact s_aload_n 45 rfl rfl <| s_ldc_w 46 rfl wc_X9_276 <| s_callV (b := 83) (ci := 9) 47 [.int (-1000003)] [] rfl ml_X9_64 yw_X9_finds sh_83 rfl rfl (okX9_finds d _ _ q_25.1 q_25.2 e_26) rfl rfl (Nat.le_of_ble_eq_true rfl) <| s_iret 48 rfl
        have kz_20 : ∀ z_24 : (Int32 × Sto), .inr z_24 = y_15 → z_24 = (qv, qh) := by
          intro z_24 hy
          subst hy
          have e := elR e
          exact Option.some.inj e
        refine s_if_ge_T 24 54 rfl (by decide) g_8 <| s_aload_n 29 rfl rfl <| s_iload_n 30 rfl rfl <| s_iconst 0 31 rfl (by decide) <| s_callV (b := 83) (ci := 9) 32 [.int (h 84 (Int32.toNatClampNeg (1204 + x1))), .int 0] [] rfl ml_X9_69 yw_X9_of sh_83 rfl rfl (okX9_of d _ _ _ _ e_10) rfl rfl (Nat.le_of_ble_eq_true rfl) <| s_istore [some (.ref 83), some (.int x1), some (.int x2), some (.int (h 84 (Int32.toNatClampNeg (1204 + x1)))), some (.int q_9)] 33 rfl (by decide) rfl <| s_fgt [false, true] rfl <| lpS (P := fun (s_22 : Int32) => Ev kX9_as RX9 5 (d + 1) nox 62 [some (.ref 83), none, some (.int x2), some (.int (h 84 (Int32.toNatClampNeg (1204 + x1)))), some (.int s_22)] [] h (some (.int qv)) qh) ?_ FUEL _ e_16
        intro s_22 o_21 e hk_17 hx_18
        unfold fX9_as_b62 at e
        refine s_iload 34 rfl rfl <| ?_
        rcases iteS e with ⟨g_27, e⟩ | ⟨g_27, e⟩
        · cases e
          exact s_if_lt_T 35 85 rfl (by decide) g_27 <| s_fgt [false, false, true, true, true] rfl <| (kx_19 () (hx_18 _ rfl))
        · refine s_if_lt_F 35 85 rfl (by decide) g_27 <| s_iload 36 rfl rfl <| s_iload_n 37 rfl rfl <| ?_
          rcases iteS e with ⟨g_28, e⟩ | ⟨g_28, e⟩
          · obtain ⟨q_29, e_30, e⟩ := bndS e
            cases e
            exact s_icmp_ne_T 38 75 rfl (by decide) g_28 <| s_iload 41 rfl rfl <| s_callS 42 [.int s_22] [] rfl ml_X9_273 yw_X9_above (okX9_above d _ _ _ e_30) rfl rfl (Nat.le_of_ble_eq_true rfl) <| s_istore [some (.ref 83), none, some (.int x2), some (.int (h 84 (Int32.toNatClampNeg (1204 + x1)))), some (.int q_29)] 43 rfl (by decide) rfl <| s_goto 44 62 rfl (by decide) <| (hk_17 q_29 rfl)
          · cases e
            have z0 := kz_20 _ (hx_18 _ rfl)
            obtain ⟨rfl, rfl⟩ := prod2 z0
            exact s_icmp_ne_F 38 75 rfl (by decide) (Decidable.not_not.mp g_28) <| s_iload_n 39 rfl rfl <| s_iret 40 rfl
      · obtain ⟨q_31, e_32, e⟩ := bndS e
        obtain ⟨rfl, rfl⟩ := some2 e
        exact s_if_ge_F 24 54 rfl (by decide) g_8 <| s_aload_n 25 rfl rfl <| s_ldc_w 26 rfl wc_X9_272 <| s_callV (b := 83) (ci := 9) 27 [.int (-1000006)] [] rfl ml_X9_64 yw_X9_finds sh_83 rfl rfl (okX9_finds d _ _ q_31.1 q_31.2 e_32) rfl rfl (Nat.le_of_ble_eq_true rfl) <| s_iret 28 rfl
    · obtain ⟨q_33, e_34, e⟩ := bndS e
      obtain ⟨rfl, rfl⟩ := some2 e
      exact s_if_ne_F 11 31 rfl (by decide) (b2i_F g_6) <| s_aload_n 12 rfl rfl <| s_ldc 13 rfl wc_X9_47 <| s_callV (b := 83) (ci := 9) 14 [.int (-1000001)] [] rfl ml_X9_64 yw_X9_finds sh_83 rfl rfl (okX9_finds d _ _ q_33.1 q_33.2 e_34) rfl rfl (Nat.le_of_ble_eq_true rfl) <| s_iret 15 rfl
  · obtain ⟨q_35, e_36, e⟩ := bndS e
    obtain ⟨rfl, rfl⟩ := some2 e
    exact s_if_eq_T 5 24 rfl (by decide) (b2i_F g_3) <| s_aload_n 12 rfl rfl <| s_ldc 13 rfl wc_X9_47 <| s_callV (b := 83) (ci := 9) 14 [.int (-1000001)] [] rfl ml_X9_64 yw_X9_finds sh_83 rfl rfl (okX9_finds d _ _ q_35.1 q_35.2 e_36) rfl rfl (Nat.le_of_ble_eq_true rfl) <| s_iret 15 rfl
def fX8_isSheet (x0 : Int32) (h : Sto) : Option Bool :=
  (fX8_isWithin x0 0 3 h).bind fun q_1 => some q_1
set_option maxRecDepth 100000 in
set_option maxHeartbeats 4000000 in
theorem okX8_isSheet (d : Nat) (x0 : Int32) (h : Sto) (q : Bool) (e : fX8_isSheet x0 h = some q) : Ok yX8_isSheet cX8_isSheet 1 (some .boolean) (d + 1) [.int x0] h (some (.int (b2i q))) h := by
  refine Ok_of (lst := kX8_isSheet) (own := RX8) ⟨by decide, rfl⟩ ckX8_isSheet (b2i_01 _) (Nat.le_of_ble_eq_true rfl) ?_
  unfold fX8_isSheet at e
  change Ev kX8_isSheet RX8 1 (d + 1) nox 0 [some (.int x0)] [] h (some (.int (b2i q))) h
  obtain ⟨q_1, e_2, e⟩ := bndS e
  obtain rfl := Option.some.inj e
  exact s_iload_n 0 rfl rfl <| s_iconst 0 1 rfl (by decide) <| s_iconst 3 2 rfl (by decide) <| s_callS 3 [.int x0, .int 0, .int 3] [] rfl ml_X8_65 yw_X8_isWithin (okX8_isWithin d _ _ _ _ _ e_2) rfl rfl (Nat.le_of_ble_eq_true rfl) <| s_iret 4 rfl
def fX4_begin_b20 (t0 : Nat) (c3 : Int32) (h : Sto) : Option ((Int32 × Sto) ⊕ Sto) :=
  if (h (53 + t0) 1) ≤ c3 then (some (.inr h)) else (grd (inb c3 40) <| (some (su h (57 + t0) (Int32.toNatClampNeg c3) 0)).bind fun h_8 => some (.inl ((c3 + 1), h_8)))
def fX4_begin (t0 : Nat) (x1 : Int32) (x2 : Int32) (h : Sto) : Option Sto :=
  grd (t0 < 4) <| (some (su h (53 + t0) 0 x1)).bind fun h_1 => (if ¬ x1 = 0 then (some x2) else (some 0)).bind fun q_2 => (some (su h_1 (53 + t0) 1 q_2)).bind fun h_5 => (lp (fun s => fX4_begin_b20 t0 s.1 s.2) FUEL (0, h_5)).bind fun v_17 => some v_17
set_option maxRecDepth 100000 in
set_option maxHeartbeats 4000000 in
theorem okX4_begin (d : Nat) (t0 : Nat) (x1 : Int32) (x2 : Int32) (h : Sto) (q : Sto) (e : fX4_begin t0 x1 x2 h = some q) : Ok yX4_begin cX4_begin 4 none d [.ref (53 + t0), .int x1, .int x2] h none q := by
  refine Ok_of (lst := kX4_begin) (own := RX4) ⟨by decide, rfl⟩ ckX4_begin trivial (Nat.le_of_ble_eq_true rfl) ?_
  unfold fX4_begin at e
  change Ev kX4_begin RX4 4 d nox 0 [some (.ref (53 + t0)), some (.int x1), some (.int x2), none] [] h none q
  obtain ⟨gt0, e⟩ := grdS e
  obtain ⟨h_1, eh_1, e⟩ := bndS e
  obtain ⟨q_2, e1, e⟩ := bndS e
  have k_3 : Ev kX4_begin RX4 4 d nox 15 [some (.ref (53 + t0)), none, none, none] [.int q_2, .ref (53 + t0)] h_1 none q := by
    obtain ⟨h_5, eh_5, e⟩ := bndS e
    obtain ⟨y_9, e_10, e⟩ := bndS e
    have kx_13 : ∀ v_17 : Sto, v_17 = y_9 → Ev kX4_begin RX4 4 d nox 41 [none, none, none, none] [] v_17 none q := by
      intro v_17 hy
      subst hy
      obtain rfl := Option.some.inj e
      exact s_vret 23 rfl
    refine s_puti 9 rfl fl_X4_19 (shs_53 _ gt0) rfl <| s_nmH (Option.some.inj eh_5) <| s_iconst 0 10 rfl (by decide) <| s_istore_n [some (.ref (53 + t0)), none, none, some (.int 0)] 11 rfl (by decide) rfl <| lpS (P := fun (s_16 : (Int32 × Sto)) => Ev kX4_begin RX4 4 d nox 20 [some (.ref (53 + t0)), none, none, some (.int s_16.1)] [] s_16.2 none q) ?_ FUEL _ e_10
    intro s_16 o_15 e hk_11 hx_12
    unfold fX4_begin_b20 at e
    refine s_iload_n 12 rfl rfl <| s_aload_n 13 rfl rfl <| s_geti 14 rfl fl_X4_19 (shs_53 _ gt0) rfl <| ?_
    rcases iteS e with ⟨g_19, e⟩ | ⟨g_19, e⟩
    · cases e
      exact s_icmp_ge_T 15 41 rfl (by decide) g_19 <| s_fgt [true, false, false, true] rfl <| (kx_13 s_16.2 (hx_12 _ rfl))
    · obtain ⟨g_20, e⟩ := grdS e
      obtain ⟨h_21, eh_21, e⟩ := bndS e
      cases e
      exact s_icmp_ge_F 15 41 rfl (by decide) g_19 <| s_aload_n 16 rfl rfl <| s_getr 17 rfl fl_X4_9 (shs_53 _ gt0) rfl <| s_iload_n 18 rfl rfl <| s_iconst 0 19 rfl (by decide) <| s_iast (Int32.toNatClampNeg s_16.1) 20 rfl (srw_57 _ gt0) g_20 rfl <| s_nmH (Option.some.inj eh_21) <| s_iinc 1 [some (.ref (53 + t0)), none, none, some (.int (s_16.1 + 1))] 21 rfl (by decide) rfl (by decide) rfl <| s_goto 22 20 rfl (by decide) <| (hk_11 ((s_16.1 + 1), h_21) rfl)
  clear e
  have e := e1
  clear e1
  refine s_aload_n 0 rfl rfl <| s_iload_n 1 rfl rfl <| s_puti 2 rfl fl_X4_15 (shs_53 _ gt0) rfl <| s_nmH (Option.some.inj eh_1) <| s_aload_n 3 rfl rfl <| s_iload_n 4 rfl rfl <| ?_
  rcases iteS e with ⟨g_4, e⟩ | ⟨g_4, e⟩
  · cases e
    exact s_if_ne_T 5 14 rfl (by decide) g_4 <| s_iload_n 8 rfl rfl <| s_fgt [false, true, true] rfl <| k_3
  · cases e
    exact s_if_ne_F 5 14 rfl (by decide) (Decidable.not_not.mp g_4) <| s_iconst 0 6 rfl (by decide) <| s_goto 7 15 rfl (by decide) <| s_fgt [false, true, true] rfl <| k_3
def fX8_sheet (x1 : Int32) (x2 : Int32) (x3 : Int32) (h : Sto) : Option (Int32 × Sto) :=
  (if x2 = 0 then (some true) else (if x2 = 8 then (some true) else (if x2 = 16 then (some true) else (if ¬ x2 = 32 then (some false) else (some true))))).bind fun q_1 => (fX8_isSheet x1 h).bind fun q_7 => if q_7 = true then (if q_1 = true then (if 0 ≤ x3 then (if x3 ≤ 40 then (grd (inb x1 4) <| (fX4_begin (Int32.toNatClampNeg x1) x2 x3 h).bind fun q_14 => grd (inb x1 4) <| some ((q_14 (53 + (Int32.toNatClampNeg x1)) 1), q_14)) else ((fX8_tellFinding (-1000001) h).bind fun q_17 => some (q_17.1, q_17.2))) else ((fX8_tellFinding (-1000007) h).bind fun q_19 => some (q_19.1, q_19.2))) else ((fX8_tellFinding (-1000001) h).bind fun q_21 => some (q_21.1, q_21.2))) else ((fX8_tellFinding (-1000001) h).bind fun q_23 => some (q_23.1, q_23.2))
set_option maxRecDepth 100000 in
set_option maxHeartbeats 4000000 in
theorem okX8_sheet (d : Nat) (x1 : Int32) (x2 : Int32) (x3 : Int32) (h : Sto) (qv : Int32) (qh : Sto) (e : fX8_sheet x1 x2 x3 h = some (qv, qh)) : Ok yX8_sheet cX8_sheet 5 (some .int) (d + 2) [.ref 0, .int x1, .int x2, .int x3] h (some (.int qv)) qh := by
  refine Ok_of (lst := kX8_sheet) (own := RX8) ⟨by decide, rfl⟩ ckX8_sheet trivial (Nat.le_of_ble_eq_true rfl) ?_
  unfold fX8_sheet at e
  change Ev kX8_sheet RX8 5 (d + 2) nox 0 [some (.ref 0), some (.int x1), some (.int x2), some (.int x3), none] [] h (some (.int qv)) qh
  obtain ⟨q_1, e1, e⟩ := bndS e
  have k_2 : Ev kX8_sheet RX8 5 (d + 2) nox 27 [some (.ref 0), some (.int x1), some (.int x2), some (.int x3), none] [.int (b2i q_1)] h (some (.int qv)) qh := by
    obtain ⟨q_7, e_8, e⟩ := bndS e
    refine s_istore [some (.ref 0), some (.int x1), some (.int x2), some (.int x3), some (.int (b2i q_1))] 14 rfl (by decide) rfl <| s_iload_n 15 rfl rfl <| s_callS 16 [.int x1] [] rfl ml_X8_282 yw_X8_isSheet (okX8_isSheet d _ _ _ e_8) rfl rfl (Nat.le_of_ble_eq_true rfl) <| ?_
    rcases iteS e with ⟨g_9, e⟩ | ⟨g_9, e⟩
    · refine s_if_eq_F 17 41 rfl (by decide) (b2i_T g_9) <| s_iload 18 rfl rfl <| ?_
      rcases iteS e with ⟨g_10, e⟩ | ⟨g_10, e⟩
      · refine s_if_ne_T 19 48 rfl (by decide) (b2i_T g_10) <| s_iload_n 24 rfl rfl <| ?_
        rcases iteS e with ⟨g_11, e⟩ | ⟨g_11, e⟩
        · refine s_if_ge_T 25 60 rfl (by decide) g_11 <| s_iload_n 30 rfl rfl <| s_bipush 40 31 rfl (by decide) <| ?_
          rcases iteS e with ⟨g_12, e⟩ | ⟨g_12, e⟩
          · obtain ⟨g_13, e⟩ := grdS e
            obtain ⟨q_14, e_15, e⟩ := bndS e
            obtain ⟨g_16, e⟩ := grdS e
            obtain ⟨rfl, rfl⟩ := some2 e
            exact s_icmp_le_T 32 73 rfl (by decide) g_12 <| s_aload_n 37 rfl rfl <| s_getr 38 rfl fl_X8_33 sh_0 rfl <| s_iload_n 39 rfl rfl <| s_aald3 (53 + (Int32.toNatClampNeg x1)) 40 rfl sh_52 rfl g_13 <| s_iload_n 41 rfl rfl <| s_iload_n 42 rfl rfl <| s_callV (b := (53 + (Int32.toNatClampNeg x1))) (ci := 4) 43 [.int x2, .int x3] [] rfl ml_X8_286 yw_X4_begin (shs_53 _ (inb_lt g_13)) rfl rfl (okX4_begin (d + 1) _ _ _ _ _ e_15) rfl rfl (Nat.le_of_ble_eq_true rfl) <| s_aload_n 44 rfl rfl <| s_getr 45 rfl fl_X8_33 sh_0 rfl <| s_iload_n 46 rfl rfl <| s_aald3 (53 + (Int32.toNatClampNeg x1)) 47 rfl sh_52 rfl g_16 <| s_geti 48 rfl fl_X8_290 (shs_53 _ (inb_lt g_16)) rfl <| s_iret 49 rfl
          · obtain ⟨q_17, e_18, e⟩ := bndS e
            obtain ⟨rfl, rfl⟩ := some2 e
            exact s_icmp_le_F 32 73 rfl (by decide) g_12 <| s_aload_n 33 rfl rfl <| s_ldc 34 rfl wc_X8_69 <| s_callV (b := 0) (ci := 8) 35 [.int (-1000001)] [] rfl ml_X8_70 yw_X8_tellFinding sh_0 rfl rfl (okX8_tellFinding d _ _ q_17.1 q_17.2 e_18) rfl rfl (Nat.le_of_ble_eq_true rfl) <| s_iret 36 rfl
        · obtain ⟨q_19, e_20, e⟩ := bndS e
          obtain ⟨rfl, rfl⟩ := some2 e
          exact s_if_ge_F 25 60 rfl (by decide) g_11 <| s_aload_n 26 rfl rfl <| s_ldc_w 27 rfl wc_X8_285 <| s_callV (b := 0) (ci := 8) 28 [.int (-1000007)] [] rfl ml_X8_70 yw_X8_tellFinding sh_0 rfl rfl (okX8_tellFinding d _ _ q_19.1 q_19.2 e_20) rfl rfl (Nat.le_of_ble_eq_true rfl) <| s_iret 29 rfl
      · obtain ⟨q_21, e_22, e⟩ := bndS e
        obtain ⟨rfl, rfl⟩ := some2 e
        exact s_if_ne_F 19 48 rfl (by decide) (b2i_F g_10) <| s_aload_n 20 rfl rfl <| s_ldc 21 rfl wc_X8_69 <| s_callV (b := 0) (ci := 8) 22 [.int (-1000001)] [] rfl ml_X8_70 yw_X8_tellFinding sh_0 rfl rfl (okX8_tellFinding d _ _ q_21.1 q_21.2 e_22) rfl rfl (Nat.le_of_ble_eq_true rfl) <| s_iret 23 rfl
    · obtain ⟨q_23, e_24, e⟩ := bndS e
      obtain ⟨rfl, rfl⟩ := some2 e
      exact s_if_eq_T 17 41 rfl (by decide) (b2i_F g_9) <| s_aload_n 20 rfl rfl <| s_ldc 21 rfl wc_X8_69 <| s_callV (b := 0) (ci := 8) 22 [.int (-1000001)] [] rfl ml_X8_70 yw_X8_tellFinding sh_0 rfl rfl (okX8_tellFinding d _ _ q_23.1 q_23.2 e_24) rfl rfl (Nat.le_of_ble_eq_true rfl) <| s_iret 23 rfl
  clear e
  have e := e1
  clear e1
  refine s_iload_n 0 rfl rfl <| ?_
  rcases iteS e with ⟨g_3, e⟩ | ⟨g_3, e⟩
  · cases e
    exact s_if_eq_T 1 22 rfl (by decide) g_3 <| s_iconst 1 11 rfl (by decide) <| s_goto 12 27 rfl (by decide) <| k_2
  · refine s_if_eq_F 1 22 rfl (by decide) g_3 <| s_iload_n 2 rfl rfl <| s_bipush 8 3 rfl (by decide) <| ?_
    rcases iteS e with ⟨g_4, e⟩ | ⟨g_4, e⟩
    · cases e
      exact s_icmp_eq_T 4 22 rfl (by decide) g_4 <| s_iconst 1 11 rfl (by decide) <| s_goto 12 27 rfl (by decide) <| k_2
    · refine s_icmp_eq_F 4 22 rfl (by decide) g_4 <| s_iload_n 5 rfl rfl <| s_bipush 16 6 rfl (by decide) <| ?_
      rcases iteS e with ⟨g_5, e⟩ | ⟨g_5, e⟩
      · cases e
        exact s_icmp_eq_T 7 22 rfl (by decide) g_5 <| s_iconst 1 11 rfl (by decide) <| s_goto 12 27 rfl (by decide) <| k_2
      · refine s_icmp_eq_F 7 22 rfl (by decide) g_5 <| s_iload_n 8 rfl rfl <| s_bipush 32 9 rfl (by decide) <| ?_
        rcases iteS e with ⟨g_6, e⟩ | ⟨g_6, e⟩
        · cases e
          exact s_icmp_ne_T 10 26 rfl (by decide) g_6 <| s_iconst 0 13 rfl (by decide) <| k_2
        · cases e
          exact s_icmp_ne_F 10 26 rfl (by decide) (Decidable.not_not.mp g_6) <| s_iconst 1 11 rfl (by decide) <| s_goto 12 27 rfl (by decide) <| k_2
def fX9_isSheet (x0 : Int32) (h : Sto) : Option Bool :=
  (fX9_in x0.toInt64 0 3 h).bind fun q_1 => some q_1
set_option maxRecDepth 100000 in
set_option maxHeartbeats 4000000 in
theorem okX9_isSheet (d : Nat) (x0 : Int32) (h : Sto) (q : Bool) (e : fX9_isSheet x0 h = some q) : Ok yX9_isSheet cX9_isSheet 1 (some .boolean) (d + 1) [.int x0] h (some (.int (b2i q))) h := by
  refine Ok_of (lst := kX9_isSheet) (own := RX9) ⟨by decide, rfl⟩ ckX9_isSheet (b2i_01 _) (Nat.le_of_ble_eq_true rfl) ?_
  unfold fX9_isSheet at e
  change Ev kX9_isSheet RX9 1 (d + 1) nox 0 [some (.int x0)] [] h (some (.int (b2i q))) h
  obtain ⟨q_1, e_2, e⟩ := bndS e
  obtain rfl := Option.some.inj e
  exact s_iload_n 0 rfl rfl <| s_i2l 1 rfl <| s_lconst 0 2 rfl (by decide) <| s_ldc2_w 3 rfl wc_X9_136 <| s_callS 4 [.long x0.toInt64, .long 0, .long 3] [] rfl ml_X9_48 yw_X9_in (okX9_in d _ _ _ _ _ e_2) rfl rfl (Nat.le_of_ble_eq_true rfl) <| s_iret 5 rfl
def fX9_sheet_b86 (x1 : Int32) (c4 : Int32) (h : Sto) : Option ((Int32 × Sto) ⊕ Sto) :=
  if 40 ≤ c4 then (some (.inr h)) else (grd (inb ((40 * x1) + c4) 160) <| (some (su h 95 (Int32.toNatClampNeg ((40 * x1) + c4)) 0)).bind fun h_16 => some (.inl ((c4 + 1), h_16)))
def fX9_sheet (x1 : Int32) (x2 : Int32) (x3 : Int32) (h : Sto) : Option (Int32 × Sto) :=
  (fX9_isSheet x1 h).bind fun q_1 => if q_1 = true then (if x2 = 0 then (if 0 ≤ x3 then (if x3 ≤ 40 then (grd (inb x1 4) <| (some (su h 93 (Int32.toNatClampNeg x1) x2)).bind fun h_8 => (if ¬ x2 = 0 then (some x3) else (some 0)).bind fun q_9 => grd (inb x1 4) <| (some (su h_8 94 (Int32.toNatClampNeg x1) q_9)).bind fun h_13 => (lp (fun s => fX9_sheet_b86 x1 s.1 s.2) FUEL (0, h_13)).bind fun v_25 => grd (inb x1 4) <| some ((v_25 94 (Int32.toNatClampNeg x1)), v_25)) else ((fX9_finds (-1000001) h).bind fun q_31 => some (q_31.1, q_31.2))) else ((fX9_finds (-1000007) h).bind fun q_33 => some (q_33.1, q_33.2))) else (if x2 = 8 then (if 0 ≤ x3 then (if x3 ≤ 40 then (grd (inb x1 4) <| (some (su h 93 (Int32.toNatClampNeg x1) x2)).bind fun h_39 => (if ¬ x2 = 0 then (some x3) else (some 0)).bind fun q_40 => grd (inb x1 4) <| (some (su h_39 94 (Int32.toNatClampNeg x1) q_40)).bind fun h_44 => (lp (fun s => fX9_sheet_b86 x1 s.1 s.2) FUEL (0, h_44)).bind fun v_56 => grd (inb x1 4) <| some ((v_56 94 (Int32.toNatClampNeg x1)), v_56)) else ((fX9_finds (-1000001) h).bind fun q_62 => some (q_62.1, q_62.2))) else ((fX9_finds (-1000007) h).bind fun q_64 => some (q_64.1, q_64.2))) else (if x2 = 16 then (if 0 ≤ x3 then (if x3 ≤ 40 then (grd (inb x1 4) <| (some (su h 93 (Int32.toNatClampNeg x1) x2)).bind fun h_70 => (if ¬ x2 = 0 then (some x3) else (some 0)).bind fun q_71 => grd (inb x1 4) <| (some (su h_70 94 (Int32.toNatClampNeg x1) q_71)).bind fun h_75 => (lp (fun s => fX9_sheet_b86 x1 s.1 s.2) FUEL (0, h_75)).bind fun v_87 => grd (inb x1 4) <| some ((v_87 94 (Int32.toNatClampNeg x1)), v_87)) else ((fX9_finds (-1000001) h).bind fun q_93 => some (q_93.1, q_93.2))) else ((fX9_finds (-1000007) h).bind fun q_95 => some (q_95.1, q_95.2))) else (if x2 = 32 then (if 0 ≤ x3 then (if x3 ≤ 40 then (grd (inb x1 4) <| (some (su h 93 (Int32.toNatClampNeg x1) x2)).bind fun h_101 => (if ¬ x2 = 0 then (some x3) else (some 0)).bind fun q_102 => grd (inb x1 4) <| (some (su h_101 94 (Int32.toNatClampNeg x1) q_102)).bind fun h_106 => (lp (fun s => fX9_sheet_b86 x1 s.1 s.2) FUEL (0, h_106)).bind fun v_118 => grd (inb x1 4) <| some ((v_118 94 (Int32.toNatClampNeg x1)), v_118)) else ((fX9_finds (-1000001) h).bind fun q_124 => some (q_124.1, q_124.2))) else ((fX9_finds (-1000007) h).bind fun q_126 => some (q_126.1, q_126.2))) else ((fX9_finds (-1000001) h).bind fun q_128 => some (q_128.1, q_128.2)))))) else ((fX9_finds (-1000001) h).bind fun q_130 => some (q_130.1, q_130.2))
set_option maxRecDepth 100000 in
set_option maxHeartbeats 4000000 in
theorem okX9_sheet (d : Nat) (x1 : Int32) (x2 : Int32) (x3 : Int32) (h : Sto) (qv : Int32) (qh : Sto) (e : fX9_sheet x1 x2 x3 h = some (qv, qh)) : Ok yX9_sheet cX9_sheet 5 (some .int) (d + 2) [.ref 83, .int x1, .int x2, .int x3] h (some (.int qv)) qh := by
  refine Ok_of (lst := kX9_sheet) (own := RX9) ⟨by decide, rfl⟩ ckX9_sheet trivial (Nat.le_of_ble_eq_true rfl) ?_
  unfold fX9_sheet at e
  change Ev kX9_sheet RX9 5 (d + 2) nox 0 [some (.ref 83), some (.int x1), some (.int x2), some (.int x3), none] [] h (some (.int qv)) qh
  obtain ⟨q_1, e_2, e⟩ := bndS e
  refine s_iload_n 0 rfl rfl <| s_callS 1 [.int x1] [] rfl ml_X9_277 yw_X9_isSheet (okX9_isSheet d _ _ _ e_2) rfl rfl (Nat.le_of_ble_eq_true rfl) <| ?_
  rcases iteS e with ⟨g_3, e⟩ | ⟨g_3, e⟩
  · refine s_if_eq_F 2 29 rfl (by decide) (b2i_T g_3) <| s_iload_n 3 rfl rfl <| ?_
    rcases iteS e with ⟨g_4, e⟩ | ⟨g_4, e⟩
    · refine s_if_eq_T 4 36 rfl (by decide) g_4 <| s_iload_n 18 rfl rfl <| ?_
      rcases iteS e with ⟨g_5, e⟩ | ⟨g_5, e⟩
      · refine s_if_ge_T 19 48 rfl (by decide) g_5 <| s_iload_n 24 rfl rfl <| s_bipush 40 25 rfl (by decide) <| ?_
        rcases iteS e with ⟨g_6, e⟩ | ⟨g_6, e⟩
        · obtain ⟨g_7, e⟩ := grdS e
          obtain ⟨h_8, eh_8, e⟩ := bndS e
          obtain ⟨q_9, e1, e⟩ := bndS e
          have k_10 : Ev kX9_sheet RX9 5 (d + 2) nox 82 [some (.ref 83), some (.int x1), none, none, none] [.int q_9, .int x1, .ref 94] h_8 (some (.int qv)) qh := by
            obtain ⟨g_12, e⟩ := grdS e
            obtain ⟨h_13, eh_13, e⟩ := bndS e
            obtain ⟨y_17, e_18, e⟩ := bndS e
            have kx_21 : ∀ v_25 : Sto, v_25 = y_17 → Ev kX9_sheet RX9 5 (d + 2) nox 112 [some (.ref 83), some (.int x1), none, none, none] [] v_25 (some (.int qv)) qh := by
              intro v_25 hy
              subst hy
              obtain ⟨g_27, e⟩ := grdS e
              obtain ⟨rfl, rfl⟩ := some2 e
              exact s_aload_n 61 rfl rfl <| s_getr 62 rfl fl_X9_41 sh_83 rfl <| s_iload_n 63 rfl rfl <| s_iald (Int32.toNatClampNeg x1) 64 rfl sh_94 g_27 rfl <| s_iret 65 rfl
            refine s_iast (Int32.toNatClampNeg x1) 44 rfl sh_94 g_12 rfl <| s_nmH (Option.some.inj eh_13) <| s_iconst 0 45 rfl (by decide) <| s_istore [some (.ref 83), some (.int x1), none, none, some (.int 0)] 46 rfl (by decide) rfl <| lpS (P := fun (s_24 : (Int32 × Sto)) => Ev kX9_sheet RX9 5 (d + 2) nox 86 [some (.ref 83), some (.int x1), none, none, some (.int s_24.1)] [] s_24.2 (some (.int qv)) qh) ?_ FUEL _ e_18
            intro s_24 o_23 e hk_19 hx_20
            unfold fX9_sheet_b86 at e
            refine s_iload 47 rfl rfl <| s_bipush 40 48 rfl (by decide) <| ?_
            rcases iteS e with ⟨g_28, e⟩ | ⟨g_28, e⟩
            · cases e
              exact s_icmp_ge_T 49 112 rfl (by decide) g_28 <| s_fgt [false, false, false, false, true] rfl <| (kx_21 s_24.2 (hx_20 _ rfl))
            · obtain ⟨g_29, e⟩ := grdS e
              obtain ⟨h_30, eh_30, e⟩ := bndS e
              cases e
              exact s_icmp_ge_F 49 112 rfl (by decide) g_28 <| s_aload_n 50 rfl rfl <| s_getr 51 rfl fl_X9_44 sh_83 rfl <| s_bipush 40 52 rfl (by decide) <| s_iload_n 53 rfl rfl <| s_imul 54 rfl <| s_iload 55 rfl rfl <| s_iadd 56 rfl <| s_iconst 0 57 rfl (by decide) <| s_iast (Int32.toNatClampNeg ((40 * x1) + s_24.1)) 58 rfl sh_95 g_29 rfl <| s_nmH (Option.some.inj eh_30) <| s_iinc 1 [some (.ref 83), some (.int x1), none, none, some (.int (s_24.1 + 1))] 59 rfl (by decide) rfl (by decide) rfl <| s_goto 60 86 rfl (by decide) <| (hk_19 ((s_24.1 + 1), h_30) rfl)
          clear e
          have e := e1
          clear e1
          refine s_icmp_le_T 26 61 rfl (by decide) g_6 <| s_aload_n 31 rfl rfl <| s_getr 32 rfl fl_X9_38 sh_83 rfl <| s_iload_n 33 rfl rfl <| s_iload_n 34 rfl rfl <| s_iast (Int32.toNatClampNeg x1) 35 rfl sh_93 g_7 rfl <| s_nmH (Option.some.inj eh_8) <| s_aload_n 36 rfl rfl <| s_getr 37 rfl fl_X9_41 sh_83 rfl <| s_iload_n 38 rfl rfl <| s_iload_n 39 rfl rfl <| ?_
          rcases iteS e with ⟨g_11, e⟩ | ⟨g_11, e⟩
          · cases e
            exact s_if_ne_T 40 81 rfl (by decide) g_11 <| s_iload_n 43 rfl rfl <| s_fgt [false, false, true, true] rfl <| k_10
          · cases e
            exact s_if_ne_F 40 81 rfl (by decide) (Decidable.not_not.mp g_11) <| s_iconst 0 41 rfl (by decide) <| s_goto 42 82 rfl (by decide) <| s_fgt [false, false, true, true] rfl <| k_10
        · obtain ⟨q_31, e_32, e⟩ := bndS e
          obtain ⟨rfl, rfl⟩ := some2 e
          exact s_icmp_le_F 26 61 rfl (by decide) g_6 <| s_aload_n 27 rfl rfl <| s_ldc 28 rfl wc_X9_47 <| s_callV (b := 83) (ci := 9) 29 [.int (-1000001)] [] rfl ml_X9_64 yw_X9_finds sh_83 rfl rfl (okX9_finds (d + 1) _ _ q_31.1 q_31.2 e_32) rfl rfl (Nat.le_of_ble_eq_true rfl) <| s_iret 30 rfl
      · obtain ⟨q_33, e_34, e⟩ := bndS e
        obtain ⟨rfl, rfl⟩ := some2 e
        exact s_if_ge_F 19 48 rfl (by decide) g_5 <| s_aload_n 20 rfl rfl <| s_ldc_w 21 rfl wc_X9_280 <| s_callV (b := 83) (ci := 9) 22 [.int (-1000007)] [] rfl ml_X9_64 yw_X9_finds sh_83 rfl rfl (okX9_finds (d + 1) _ _ q_33.1 q_33.2 e_34) rfl rfl (Nat.le_of_ble_eq_true rfl) <| s_iret 23 rfl
    · refine s_if_eq_F 4 36 rfl (by decide) g_4 <| s_iload_n 5 rfl rfl <| s_bipush 8 6 rfl (by decide) <| ?_
      rcases iteS e with ⟨g_35, e⟩ | ⟨g_35, e⟩
      · refine s_icmp_eq_T 7 36 rfl (by decide) g_35 <| s_iload_n 18 rfl rfl <| ?_
        rcases iteS e with ⟨g_36, e⟩ | ⟨g_36, e⟩
        · refine s_if_ge_T 19 48 rfl (by decide) g_36 <| s_iload_n 24 rfl rfl <| s_bipush 40 25 rfl (by decide) <| ?_
          rcases iteS e with ⟨g_37, e⟩ | ⟨g_37, e⟩
          · obtain ⟨g_38, e⟩ := grdS e
            obtain ⟨h_39, eh_39, e⟩ := bndS e
            obtain ⟨q_40, e1, e⟩ := bndS e
            have k_41 : Ev kX9_sheet RX9 5 (d + 2) nox 82 [some (.ref 83), some (.int x1), none, none, none] [.int q_40, .int x1, .ref 94] h_39 (some (.int qv)) qh := by
              obtain ⟨g_43, e⟩ := grdS e
              obtain ⟨h_44, eh_44, e⟩ := bndS e
              obtain ⟨y_48, e_49, e⟩ := bndS e
              have kx_52 : ∀ v_56 : Sto, v_56 = y_48 → Ev kX9_sheet RX9 5 (d + 2) nox 112 [some (.ref 83), some (.int x1), none, none, none] [] v_56 (some (.int qv)) qh := by
                intro v_56 hy
                subst hy
                obtain ⟨g_58, e⟩ := grdS e
                obtain ⟨rfl, rfl⟩ := some2 e
                exact s_aload_n 61 rfl rfl <| s_getr 62 rfl fl_X9_41 sh_83 rfl <| s_iload_n 63 rfl rfl <| s_iald (Int32.toNatClampNeg x1) 64 rfl sh_94 g_58 rfl <| s_iret 65 rfl
              refine s_iast (Int32.toNatClampNeg x1) 44 rfl sh_94 g_43 rfl <| s_nmH (Option.some.inj eh_44) <| s_iconst 0 45 rfl (by decide) <| s_istore [some (.ref 83), some (.int x1), none, none, some (.int 0)] 46 rfl (by decide) rfl <| lpS (P := fun (s_55 : (Int32 × Sto)) => Ev kX9_sheet RX9 5 (d + 2) nox 86 [some (.ref 83), some (.int x1), none, none, some (.int s_55.1)] [] s_55.2 (some (.int qv)) qh) ?_ FUEL _ e_49
              intro s_55 o_54 e hk_50 hx_51
              unfold fX9_sheet_b86 at e
              refine s_iload 47 rfl rfl <| s_bipush 40 48 rfl (by decide) <| ?_
              rcases iteS e with ⟨g_59, e⟩ | ⟨g_59, e⟩
              · cases e
                exact s_icmp_ge_T 49 112 rfl (by decide) g_59 <| s_fgt [false, false, false, false, true] rfl <| (kx_52 s_55.2 (hx_51 _ rfl))
              · obtain ⟨g_60, e⟩ := grdS e
                obtain ⟨h_61, eh_61, e⟩ := bndS e
                cases e
                exact s_icmp_ge_F 49 112 rfl (by decide) g_59 <| s_aload_n 50 rfl rfl <| s_getr 51 rfl fl_X9_44 sh_83 rfl <| s_bipush 40 52 rfl (by decide) <| s_iload_n 53 rfl rfl <| s_imul 54 rfl <| s_iload 55 rfl rfl <| s_iadd 56 rfl <| s_iconst 0 57 rfl (by decide) <| s_iast (Int32.toNatClampNeg ((40 * x1) + s_55.1)) 58 rfl sh_95 g_60 rfl <| s_nmH (Option.some.inj eh_61) <| s_iinc 1 [some (.ref 83), some (.int x1), none, none, some (.int (s_55.1 + 1))] 59 rfl (by decide) rfl (by decide) rfl <| s_goto 60 86 rfl (by decide) <| (hk_50 ((s_55.1 + 1), h_61) rfl)
            clear e
            have e := e1
            clear e1
            refine s_icmp_le_T 26 61 rfl (by decide) g_37 <| s_aload_n 31 rfl rfl <| s_getr 32 rfl fl_X9_38 sh_83 rfl <| s_iload_n 33 rfl rfl <| s_iload_n 34 rfl rfl <| s_iast (Int32.toNatClampNeg x1) 35 rfl sh_93 g_38 rfl <| s_nmH (Option.some.inj eh_39) <| s_aload_n 36 rfl rfl <| s_getr 37 rfl fl_X9_41 sh_83 rfl <| s_iload_n 38 rfl rfl <| s_iload_n 39 rfl rfl <| ?_
            rcases iteS e with ⟨g_42, e⟩ | ⟨g_42, e⟩
            · cases e
              exact s_if_ne_T 40 81 rfl (by decide) g_42 <| s_iload_n 43 rfl rfl <| s_fgt [false, false, true, true] rfl <| k_41
            · cases e
              exact s_if_ne_F 40 81 rfl (by decide) (Decidable.not_not.mp g_42) <| s_iconst 0 41 rfl (by decide) <| s_goto 42 82 rfl (by decide) <| s_fgt [false, false, true, true] rfl <| k_41
          · obtain ⟨q_62, e_63, e⟩ := bndS e
            obtain ⟨rfl, rfl⟩ := some2 e
            exact s_icmp_le_F 26 61 rfl (by decide) g_37 <| s_aload_n 27 rfl rfl <| s_ldc 28 rfl wc_X9_47 <| s_callV (b := 83) (ci := 9) 29 [.int (-1000001)] [] rfl ml_X9_64 yw_X9_finds sh_83 rfl rfl (okX9_finds (d + 1) _ _ q_62.1 q_62.2 e_63) rfl rfl (Nat.le_of_ble_eq_true rfl) <| s_iret 30 rfl
        · obtain ⟨q_64, e_65, e⟩ := bndS e
          obtain ⟨rfl, rfl⟩ := some2 e
          exact s_if_ge_F 19 48 rfl (by decide) g_36 <| s_aload_n 20 rfl rfl <| s_ldc_w 21 rfl wc_X9_280 <| s_callV (b := 83) (ci := 9) 22 [.int (-1000007)] [] rfl ml_X9_64 yw_X9_finds sh_83 rfl rfl (okX9_finds (d + 1) _ _ q_64.1 q_64.2 e_65) rfl rfl (Nat.le_of_ble_eq_true rfl) <| s_iret 23 rfl
      · refine s_icmp_eq_F 7 36 rfl (by decide) g_35 <| s_iload_n 8 rfl rfl <| s_bipush 16 9 rfl (by decide) <| ?_
        rcases iteS e with ⟨g_66, e⟩ | ⟨g_66, e⟩
        · refine s_icmp_eq_T 10 36 rfl (by decide) g_66 <| s_iload_n 18 rfl rfl <| ?_
          rcases iteS e with ⟨g_67, e⟩ | ⟨g_67, e⟩
          · refine s_if_ge_T 19 48 rfl (by decide) g_67 <| s_iload_n 24 rfl rfl <| s_bipush 40 25 rfl (by decide) <| ?_
            rcases iteS e with ⟨g_68, e⟩ | ⟨g_68, e⟩
            · obtain ⟨g_69, e⟩ := grdS e
              obtain ⟨h_70, eh_70, e⟩ := bndS e
              obtain ⟨q_71, e1, e⟩ := bndS e
              have k_72 : Ev kX9_sheet RX9 5 (d + 2) nox 82 [some (.ref 83), some (.int x1), none, none, none] [.int q_71, .int x1, .ref 94] h_70 (some (.int qv)) qh := by
                obtain ⟨g_74, e⟩ := grdS e
                obtain ⟨h_75, eh_75, e⟩ := bndS e
                obtain ⟨y_79, e_80, e⟩ := bndS e
                have kx_83 : ∀ v_87 : Sto, v_87 = y_79 → Ev kX9_sheet RX9 5 (d + 2) nox 112 [some (.ref 83), some (.int x1), none, none, none] [] v_87 (some (.int qv)) qh := by
                  intro v_87 hy
                  subst hy
                  obtain ⟨g_89, e⟩ := grdS e
                  obtain ⟨rfl, rfl⟩ := some2 e
                  exact s_aload_n 61 rfl rfl <| s_getr 62 rfl fl_X9_41 sh_83 rfl <| s_iload_n 63 rfl rfl <| s_iald (Int32.toNatClampNeg x1) 64 rfl sh_94 g_89 rfl <| s_iret 65 rfl
                refine s_iast (Int32.toNatClampNeg x1) 44 rfl sh_94 g_74 rfl <| s_nmH (Option.some.inj eh_75) <| s_iconst 0 45 rfl (by decide) <| s_istore [some (.ref 83), some (.int x1), none, none, some (.int 0)] 46 rfl (by decide) rfl <| lpS (P := fun (s_86 : (Int32 × Sto)) => Ev kX9_sheet RX9 5 (d + 2) nox 86 [some (.ref 83), some (.int x1), none, none, some (.int s_86.1)] [] s_86.2 (some (.int qv)) qh) ?_ FUEL _ e_80
                intro s_86 o_85 e hk_81 hx_82
                unfold fX9_sheet_b86 at e
                refine s_iload 47 rfl rfl <| s_bipush 40 48 rfl (by decide) <| ?_
                rcases iteS e with ⟨g_90, e⟩ | ⟨g_90, e⟩
                · cases e
                  exact s_icmp_ge_T 49 112 rfl (by decide) g_90 <| s_fgt [false, false, false, false, true] rfl <| (kx_83 s_86.2 (hx_82 _ rfl))
                · obtain ⟨g_91, e⟩ := grdS e
                  obtain ⟨h_92, eh_92, e⟩ := bndS e
                  cases e
                  exact s_icmp_ge_F 49 112 rfl (by decide) g_90 <| s_aload_n 50 rfl rfl <| s_getr 51 rfl fl_X9_44 sh_83 rfl <| s_bipush 40 52 rfl (by decide) <| s_iload_n 53 rfl rfl <| s_imul 54 rfl <| s_iload 55 rfl rfl <| s_iadd 56 rfl <| s_iconst 0 57 rfl (by decide) <| s_iast (Int32.toNatClampNeg ((40 * x1) + s_86.1)) 58 rfl sh_95 g_91 rfl <| s_nmH (Option.some.inj eh_92) <| s_iinc 1 [some (.ref 83), some (.int x1), none, none, some (.int (s_86.1 + 1))] 59 rfl (by decide) rfl (by decide) rfl <| s_goto 60 86 rfl (by decide) <| (hk_81 ((s_86.1 + 1), h_92) rfl)
              clear e
              have e := e1
              clear e1
              refine s_icmp_le_T 26 61 rfl (by decide) g_68 <| s_aload_n 31 rfl rfl <| s_getr 32 rfl fl_X9_38 sh_83 rfl <| s_iload_n 33 rfl rfl <| s_iload_n 34 rfl rfl <| s_iast (Int32.toNatClampNeg x1) 35 rfl sh_93 g_69 rfl <| s_nmH (Option.some.inj eh_70) <| s_aload_n 36 rfl rfl <| s_getr 37 rfl fl_X9_41 sh_83 rfl <| s_iload_n 38 rfl rfl <| s_iload_n 39 rfl rfl <| ?_
              rcases iteS e with ⟨g_73, e⟩ | ⟨g_73, e⟩
              · cases e
                exact s_if_ne_T 40 81 rfl (by decide) g_73 <| s_iload_n 43 rfl rfl <| s_fgt [false, false, true, true] rfl <| k_72
              · cases e
                exact s_if_ne_F 40 81 rfl (by decide) (Decidable.not_not.mp g_73) <| s_iconst 0 41 rfl (by decide) <| s_goto 42 82 rfl (by decide) <| s_fgt [false, false, true, true] rfl <| k_72
            · obtain ⟨q_93, e_94, e⟩ := bndS e
              obtain ⟨rfl, rfl⟩ := some2 e
              exact s_icmp_le_F 26 61 rfl (by decide) g_68 <| s_aload_n 27 rfl rfl <| s_ldc 28 rfl wc_X9_47 <| s_callV (b := 83) (ci := 9) 29 [.int (-1000001)] [] rfl ml_X9_64 yw_X9_finds sh_83 rfl rfl (okX9_finds (d + 1) _ _ q_93.1 q_93.2 e_94) rfl rfl (Nat.le_of_ble_eq_true rfl) <| s_iret 30 rfl
          · obtain ⟨q_95, e_96, e⟩ := bndS e
            obtain ⟨rfl, rfl⟩ := some2 e
            exact s_if_ge_F 19 48 rfl (by decide) g_67 <| s_aload_n 20 rfl rfl <| s_ldc_w 21 rfl wc_X9_280 <| s_callV (b := 83) (ci := 9) 22 [.int (-1000007)] [] rfl ml_X9_64 yw_X9_finds sh_83 rfl rfl (okX9_finds (d + 1) _ _ q_95.1 q_95.2 e_96) rfl rfl (Nat.le_of_ble_eq_true rfl) <| s_iret 23 rfl
        · refine s_icmp_eq_F 10 36 rfl (by decide) g_66 <| s_iload_n 11 rfl rfl <| s_bipush 32 12 rfl (by decide) <| ?_
          rcases iteS e with ⟨g_97, e⟩ | ⟨g_97, e⟩
          · refine s_icmp_eq_T 13 36 rfl (by decide) g_97 <| s_iload_n 18 rfl rfl <| ?_
            rcases iteS e with ⟨g_98, e⟩ | ⟨g_98, e⟩
            · refine s_if_ge_T 19 48 rfl (by decide) g_98 <| s_iload_n 24 rfl rfl <| s_bipush 40 25 rfl (by decide) <| ?_
              rcases iteS e with ⟨g_99, e⟩ | ⟨g_99, e⟩
              · obtain ⟨g_100, e⟩ := grdS e
                obtain ⟨h_101, eh_101, e⟩ := bndS e
                obtain ⟨q_102, e1, e⟩ := bndS e
                have k_103 : Ev kX9_sheet RX9 5 (d + 2) nox 82 [some (.ref 83), some (.int x1), none, none, none] [.int q_102, .int x1, .ref 94] h_101 (some (.int qv)) qh := by
                  obtain ⟨g_105, e⟩ := grdS e
                  obtain ⟨h_106, eh_106, e⟩ := bndS e
                  obtain ⟨y_110, e_111, e⟩ := bndS e
                  have kx_114 : ∀ v_118 : Sto, v_118 = y_110 → Ev kX9_sheet RX9 5 (d + 2) nox 112 [some (.ref 83), some (.int x1), none, none, none] [] v_118 (some (.int qv)) qh := by
                    intro v_118 hy
                    subst hy
                    obtain ⟨g_120, e⟩ := grdS e
                    obtain ⟨rfl, rfl⟩ := some2 e
                    exact s_aload_n 61 rfl rfl <| s_getr 62 rfl fl_X9_41 sh_83 rfl <| s_iload_n 63 rfl rfl <| s_iald (Int32.toNatClampNeg x1) 64 rfl sh_94 g_120 rfl <| s_iret 65 rfl
                  refine s_iast (Int32.toNatClampNeg x1) 44 rfl sh_94 g_105 rfl <| s_nmH (Option.some.inj eh_106) <| s_iconst 0 45 rfl (by decide) <| s_istore [some (.ref 83), some (.int x1), none, none, some (.int 0)] 46 rfl (by decide) rfl <| lpS (P := fun (s_117 : (Int32 × Sto)) => Ev kX9_sheet RX9 5 (d + 2) nox 86 [some (.ref 83), some (.int x1), none, none, some (.int s_117.1)] [] s_117.2 (some (.int qv)) qh) ?_ FUEL _ e_111
                  intro s_117 o_116 e hk_112 hx_113
                  unfold fX9_sheet_b86 at e
                  refine s_iload 47 rfl rfl <| s_bipush 40 48 rfl (by decide) <| ?_
                  rcases iteS e with ⟨g_121, e⟩ | ⟨g_121, e⟩
                  · cases e
                    exact s_icmp_ge_T 49 112 rfl (by decide) g_121 <| s_fgt [false, false, false, false, true] rfl <| (kx_114 s_117.2 (hx_113 _ rfl))
                  · obtain ⟨g_122, e⟩ := grdS e
                    obtain ⟨h_123, eh_123, e⟩ := bndS e
                    cases e
                    exact s_icmp_ge_F 49 112 rfl (by decide) g_121 <| s_aload_n 50 rfl rfl <| s_getr 51 rfl fl_X9_44 sh_83 rfl <| s_bipush 40 52 rfl (by decide) <| s_iload_n 53 rfl rfl <| s_imul 54 rfl <| s_iload 55 rfl rfl <| s_iadd 56 rfl <| s_iconst 0 57 rfl (by decide) <| s_iast (Int32.toNatClampNeg ((40 * x1) + s_117.1)) 58 rfl sh_95 g_122 rfl <| s_nmH (Option.some.inj eh_123) <| s_iinc 1 [some (.ref 83), some (.int x1), none, none, some (.int (s_117.1 + 1))] 59 rfl (by decide) rfl (by decide) rfl <| s_goto 60 86 rfl (by decide) <| (hk_112 ((s_117.1 + 1), h_123) rfl)
                clear e
                have e := e1
                clear e1
                refine s_icmp_le_T 26 61 rfl (by decide) g_99 <| s_aload_n 31 rfl rfl <| s_getr 32 rfl fl_X9_38 sh_83 rfl <| s_iload_n 33 rfl rfl <| s_iload_n 34 rfl rfl <| s_iast (Int32.toNatClampNeg x1) 35 rfl sh_93 g_100 rfl <| s_nmH (Option.some.inj eh_101) <| s_aload_n 36 rfl rfl <| s_getr 37 rfl fl_X9_41 sh_83 rfl <| s_iload_n 38 rfl rfl <| s_iload_n 39 rfl rfl <| ?_
                rcases iteS e with ⟨g_104, e⟩ | ⟨g_104, e⟩
                · cases e
                  exact s_if_ne_T 40 81 rfl (by decide) g_104 <| s_iload_n 43 rfl rfl <| s_fgt [false, false, true, true] rfl <| k_103
                · cases e
                  exact s_if_ne_F 40 81 rfl (by decide) (Decidable.not_not.mp g_104) <| s_iconst 0 41 rfl (by decide) <| s_goto 42 82 rfl (by decide) <| s_fgt [false, false, true, true] rfl <| k_103
              · obtain ⟨q_124, e_125, e⟩ := bndS e
                obtain ⟨rfl, rfl⟩ := some2 e
                exact s_icmp_le_F 26 61 rfl (by decide) g_99 <| s_aload_n 27 rfl rfl <| s_ldc 28 rfl wc_X9_47 <| s_callV (b := 83) (ci := 9) 29 [.int (-1000001)] [] rfl ml_X9_64 yw_X9_finds sh_83 rfl rfl (okX9_finds (d + 1) _ _ q_124.1 q_124.2 e_125) rfl rfl (Nat.le_of_ble_eq_true rfl) <| s_iret 30 rfl
            · obtain ⟨q_126, e_127, e⟩ := bndS e
              obtain ⟨rfl, rfl⟩ := some2 e
              exact s_if_ge_F 19 48 rfl (by decide) g_98 <| s_aload_n 20 rfl rfl <| s_ldc_w 21 rfl wc_X9_280 <| s_callV (b := 83) (ci := 9) 22 [.int (-1000007)] [] rfl ml_X9_64 yw_X9_finds sh_83 rfl rfl (okX9_finds (d + 1) _ _ q_126.1 q_126.2 e_127) rfl rfl (Nat.le_of_ble_eq_true rfl) <| s_iret 23 rfl
          · obtain ⟨q_128, e_129, e⟩ := bndS e
            obtain ⟨rfl, rfl⟩ := some2 e
            exact s_icmp_eq_F 13 36 rfl (by decide) g_97 <| s_aload_n 14 rfl rfl <| s_ldc 15 rfl wc_X9_47 <| s_callV (b := 83) (ci := 9) 16 [.int (-1000001)] [] rfl ml_X9_64 yw_X9_finds sh_83 rfl rfl (okX9_finds (d + 1) _ _ q_128.1 q_128.2 e_129) rfl rfl (Nat.le_of_ble_eq_true rfl) <| s_iret 17 rfl
  · obtain ⟨q_130, e_131, e⟩ := bndS e
    obtain ⟨rfl, rfl⟩ := some2 e
    exact s_if_eq_T 2 29 rfl (by decide) (b2i_F g_3) <| s_aload_n 14 rfl rfl <| s_ldc 15 rfl wc_X9_47 <| s_callV (b := 83) (ci := 9) 16 [.int (-1000001)] [] rfl ml_X9_64 yw_X9_finds sh_83 rfl rfl (okX9_finds (d + 1) _ _ q_130.1 q_130.2 e_131) rfl rfl (Nat.le_of_ble_eq_true rfl) <| s_iret 17 rfl
def fX4_isMissing (t0 : Nat) (h : Sto) : Option Bool :=
  grd (t0 < 4) <| if ¬ (h (53 + t0) 0) = 0 then (some false) else (some true)
set_option maxRecDepth 100000 in
set_option maxHeartbeats 4000000 in
theorem okX4_isMissing (d : Nat) (t0 : Nat) (h : Sto) (q : Bool) (e : fX4_isMissing t0 h = some q) : Ok yX4_isMissing cX4_isMissing 1 (some .boolean) d [.ref (53 + t0)] h (some (.int (b2i q))) h := by
  refine Ok_of (lst := kX4_isMissing) (own := RX4) ⟨by decide, rfl⟩ ckX4_isMissing (b2i_01 _) (Nat.le_of_ble_eq_true rfl) ?_
  unfold fX4_isMissing at e
  change Ev kX4_isMissing RX4 1 d nox 0 [some (.ref (53 + t0))] [] h (some (.int (b2i q))) h
  obtain ⟨gt0, e⟩ := grdS e
  refine s_aload_n 0 rfl rfl <| s_geti 1 rfl fl_X4_15 (shs_53 _ gt0) rfl <| ?_
  rcases iteS e with ⟨g_1, e⟩ | ⟨g_1, e⟩
  · obtain rfl := Option.some.inj e
    exact s_if_ne_T 2 11 rfl (by decide) g_1 <| s_iconst 0 5 rfl (by decide) <| s_iret 6 rfl
  · obtain rfl := Option.some.inj e
    exact s_if_ne_F 2 11 rfl (by decide) (Decidable.not_not.mp g_1) <| s_iconst 1 3 rfl (by decide) <| s_goto 4 12 rfl (by decide) <| s_iret 6 rfl
def fX4_put (t0 : Nat) (x1 : Int32) (x2 : Int32) (h : Sto) : Option Sto :=
  grd (t0 < 4) <| if ¬ (h (53 + t0) 0) = 8 then (if ¬ (h (53 + t0) 0) = 16 then (grd (inb x1 40) <| (some (su h (57 + t0) (Int32.toNatClampNeg x1) x2)).bind fun h_4 => some h_4) else (grd (inb x1 40) <| (some (su h (57 + t0) (Int32.toNatClampNeg x1) x2.toInt16.toInt32)).bind fun h_6 => some h_6)) else (grd (inb x1 40) <| (some (su h (57 + t0) (Int32.toNatClampNeg x1) x2.toInt8.toInt32)).bind fun h_8 => some h_8)
set_option maxRecDepth 100000 in
set_option maxHeartbeats 4000000 in
theorem okX4_put (d : Nat) (t0 : Nat) (x1 : Int32) (x2 : Int32) (h : Sto) (q : Sto) (e : fX4_put t0 x1 x2 h = some q) : Ok yX4_put cX4_put 3 none d [.ref (53 + t0), .int x1, .int x2] h none q := by
  refine Ok_of (lst := kX4_put) (own := RX4) ⟨by decide, rfl⟩ ckX4_put trivial (Nat.le_of_ble_eq_true rfl) ?_
  unfold fX4_put at e
  change Ev kX4_put RX4 3 d nox 0 [some (.ref (53 + t0)), some (.int x1), some (.int x2)] [] h none q
  obtain ⟨gt0, e⟩ := grdS e
  refine s_aload_n 0 rfl rfl <| s_geti 1 rfl fl_X4_15 (shs_53 _ gt0) rfl <| s_bipush 8 2 rfl (by decide) <| ?_
  rcases iteS e with ⟨g_1, e⟩ | ⟨g_1, e⟩
  · refine s_icmp_ne_T 3 20 rfl (by decide) g_1 <| s_aload_n 11 rfl rfl <| s_geti 12 rfl fl_X4_15 (shs_53 _ gt0) rfl <| s_bipush 16 13 rfl (by decide) <| ?_
    rcases iteS e with ⟨g_2, e⟩ | ⟨g_2, e⟩
    · obtain ⟨g_3, e⟩ := grdS e
      obtain ⟨h_4, eh_4, e⟩ := bndS e
      obtain rfl := Option.some.inj e
      exact s_icmp_ne_T 14 40 rfl (by decide) g_2 <| s_aload_n 22 rfl rfl <| s_getr 23 rfl fl_X4_9 (shs_53 _ gt0) rfl <| s_iload_n 24 rfl rfl <| s_iload_n 25 rfl rfl <| s_iast (Int32.toNatClampNeg x1) 26 rfl (srw_57 _ gt0) g_3 rfl <| s_nmH (Option.some.inj eh_4) <| s_vret 27 rfl
    · obtain ⟨g_5, e⟩ := grdS e
      obtain ⟨h_6, eh_6, e⟩ := bndS e
      obtain rfl := Option.some.inj e
      exact s_icmp_ne_F 14 40 rfl (by decide) (Decidable.not_not.mp g_2) <| s_aload_n 15 rfl rfl <| s_getr 16 rfl fl_X4_9 (shs_53 _ gt0) rfl <| s_iload_n 17 rfl rfl <| s_iload_n 18 rfl rfl <| s_i2s 19 rfl <| s_iast (Int32.toNatClampNeg x1) 20 rfl (srw_57 _ gt0) g_5 rfl <| s_nmH (Option.some.inj eh_6) <| s_goto 21 47 rfl (by decide) <| s_vret 27 rfl
  · obtain ⟨g_7, e⟩ := grdS e
    obtain ⟨h_8, eh_8, e⟩ := bndS e
    obtain rfl := Option.some.inj e
    exact s_icmp_ne_F 3 20 rfl (by decide) (Decidable.not_not.mp g_1) <| s_aload_n 4 rfl rfl <| s_getr 5 rfl fl_X4_9 (shs_53 _ gt0) rfl <| s_iload_n 6 rfl rfl <| s_iload_n 7 rfl rfl <| s_i2b 8 rfl <| s_iast (Int32.toNatClampNeg x1) 9 rfl (srw_57 _ gt0) g_7 rfl <| s_nmH (Option.some.inj eh_8) <| s_goto 10 47 rfl (by decide) <| s_vret 27 rfl
def fX8_write (x1 : Int32) (x2 : Int32) (x3 : Int32) (h : Sto) : Option (Int32 × Sto) :=
  (fX8_isSheet x1 h).bind fun q_1 => if q_1 = true then (grd (inb x1 4) <| (fX4_isMissing (Int32.toNatClampNeg x1) h).bind fun q_5 => if q_5 = true then ((fX8_tellFinding (-1000006) h).bind fun q_8 => some (q_8.1, q_8.2)) else ((fX8_isWithin x2 0 ((h (53 + (Int32.toNatClampNeg x1)) 1) - 1) h).bind fun q_10 => if q_10 = true then ((fX4_put (Int32.toNatClampNeg x1) x2 x3 h).bind fun q_13 => some (1, q_13)) else ((fX8_tellFinding (-1000001) h).bind fun q_15 => some (q_15.1, q_15.2)))) else ((fX8_tellFinding (-1000001) h).bind fun q_17 => some (q_17.1, q_17.2))
set_option maxRecDepth 100000 in
set_option maxHeartbeats 4000000 in
theorem okX8_write (d : Nat) (x1 : Int32) (x2 : Int32) (x3 : Int32) (h : Sto) (qv : Int32) (qh : Sto) (e : fX8_write x1 x2 x3 h = some (qv, qh)) : Ok yX8_write cX8_write 5 (some .int) (d + 2) [.ref 0, .int x1, .int x2, .int x3] h (some (.int qv)) qh := by
  refine Ok_of (lst := kX8_write) (own := RX8) ⟨by decide, rfl⟩ ckX8_write trivial (Nat.le_of_ble_eq_true rfl) ?_
  unfold fX8_write at e
  change Ev kX8_write RX8 5 (d + 2) nox 0 [some (.ref 0), some (.int x1), some (.int x2), some (.int x3), none] [] h (some (.int qv)) qh
  obtain ⟨q_1, e_2, e⟩ := bndS e
  refine s_iload_n 0 rfl rfl <| s_callS 1 [.int x1] [] rfl ml_X8_282 yw_X8_isSheet (okX8_isSheet d _ _ _ e_2) rfl rfl (Nat.le_of_ble_eq_true rfl) <| ?_
  rcases iteS e with ⟨g_3, e⟩ | ⟨g_3, e⟩
  · obtain ⟨g_4, e⟩ := grdS e
    obtain ⟨q_5, e_6, e⟩ := bndS e
    refine s_if_ne_T 2 14 rfl (by decide) (b2i_T g_3) <| s_aload_n 7 rfl rfl <| s_getr 8 rfl fl_X8_33 sh_0 rfl <| s_iload_n 9 rfl rfl <| s_aald3 (53 + (Int32.toNatClampNeg x1)) 10 rfl sh_52 rfl g_4 <| s_astore [some (.ref 0), some (.int x1), some (.int x2), some (.int x3), some (.ref (53 + (Int32.toNatClampNeg x1)))] 11 rfl (by decide) rfl <| s_aload 12 rfl rfl <| s_callV (b := (53 + (Int32.toNatClampNeg x1))) (ci := 4) 13 [] [] rfl ml_X8_291 yw_X4_isMissing (shs_53 _ (inb_lt g_4)) rfl rfl (okX4_isMissing (d + 1) _ _ _ e_6) rfl rfl (Nat.le_of_ble_eq_true rfl) <| ?_
    rcases iteS e with ⟨g_7, e⟩ | ⟨g_7, e⟩
    · obtain ⟨q_8, e_9, e⟩ := bndS e
      obtain ⟨rfl, rfl⟩ := some2 e
      exact s_if_eq_F 14 38 rfl (by decide) (b2i_T g_7) <| s_aload_n 15 rfl rfl <| s_ldc_w 16 rfl wc_X8_280 <| s_callV (b := 0) (ci := 8) 17 [.int (-1000006)] [] rfl ml_X8_70 yw_X8_tellFinding sh_0 rfl rfl (okX8_tellFinding d _ _ q_8.1 q_8.2 e_9) rfl rfl (Nat.le_of_ble_eq_true rfl) <| s_iret 18 rfl
    · obtain ⟨q_10, e_11, e⟩ := bndS e
      refine s_if_eq_T 14 38 rfl (by decide) (b2i_F g_7) <| s_iload_n 19 rfl rfl <| s_iconst 0 20 rfl (by decide) <| s_aload 21 rfl rfl <| s_geti 22 rfl fl_X8_290 (shs_53 _ (inb_lt g_4)) rfl <| s_iconst 1 23 rfl (by decide) <| s_isub 24 rfl <| s_callS 25 [.int x2, .int 0, .int ((h (53 + (Int32.toNatClampNeg x1)) 1) - 1)] [] rfl ml_X8_65 yw_X8_isWithin (okX8_isWithin (d + 1) _ _ _ _ _ e_11) rfl rfl (Nat.le_of_ble_eq_true rfl) <| ?_
      rcases iteS e with ⟨g_12, e⟩ | ⟨g_12, e⟩
      · obtain ⟨q_13, e_14, e⟩ := bndS e
        obtain ⟨rfl, rfl⟩ := some2 e
        exact s_if_ne_T 26 60 rfl (by decide) (b2i_T g_12) <| s_aload 31 rfl rfl <| s_iload_n 32 rfl rfl <| s_iload_n 33 rfl rfl <| s_callV (b := (53 + (Int32.toNatClampNeg x1))) (ci := 4) 34 [.int x2, .int x3] [] rfl ml_X8_294 yw_X4_put (shs_53 _ (inb_lt g_4)) rfl rfl (okX4_put (d + 1) _ _ _ _ _ e_14) rfl rfl (Nat.le_of_ble_eq_true rfl) <| s_iconst 1 35 rfl (by decide) <| s_iret 36 rfl
      · obtain ⟨q_15, e_16, e⟩ := bndS e
        obtain ⟨rfl, rfl⟩ := some2 e
        exact s_if_ne_F 26 60 rfl (by decide) (b2i_F g_12) <| s_aload_n 27 rfl rfl <| s_ldc 28 rfl wc_X8_69 <| s_callV (b := 0) (ci := 8) 29 [.int (-1000001)] [] rfl ml_X8_70 yw_X8_tellFinding sh_0 rfl rfl (okX8_tellFinding d _ _ q_15.1 q_15.2 e_16) rfl rfl (Nat.le_of_ble_eq_true rfl) <| s_iret 30 rfl
  · obtain ⟨q_17, e_18, e⟩ := bndS e
    obtain ⟨rfl, rfl⟩ := some2 e
    exact s_if_ne_F 2 14 rfl (by decide) (b2i_F g_3) <| s_aload_n 3 rfl rfl <| s_ldc 4 rfl wc_X8_69 <| s_callV (b := 0) (ci := 8) 5 [.int (-1000001)] [] rfl ml_X8_70 yw_X8_tellFinding sh_0 rfl rfl (okX8_tellFinding d _ _ q_17.1 q_17.2 e_18) rfl rfl (Nat.le_of_ble_eq_true rfl) <| s_iret 6 rfl
def fX9_write (x1 : Int32) (x2 : Int32) (x3 : Int32) (h : Sto) : Option (Int32 × Sto) :=
  (fX9_isSheet x1 h).bind fun q_1 => if q_1 = true then (grd (inb x1 4) <| if ¬ (h 93 (Int32.toNatClampNeg x1)) = 0 then (grd (inb x1 4) <| (fX9_in x2.toInt64 0 (((h 94 (Int32.toNatClampNeg x1)) - 1).toInt64) h).bind fun q_7 => if q_7 = true then (grd (inb x1 4) <| if ¬ (h 93 (Int32.toNatClampNeg x1)) = 8 then (grd (inb x1 4) <| if ¬ (h 93 (Int32.toNatClampNeg x1)) = 16 then (grd (inb ((40 * x1) + x2) 160) <| (some (su h 95 (Int32.toNatClampNeg ((40 * x1) + x2)) x3)).bind fun h_15 => some (1, h_15)) else (grd (inb ((40 * x1) + x2) 160) <| (some (su h 95 (Int32.toNatClampNeg ((40 * x1) + x2)) x3.toInt16.toInt32)).bind fun h_17 => some (1, h_17))) else (grd (inb ((40 * x1) + x2) 160) <| (some (su h 95 (Int32.toNatClampNeg ((40 * x1) + x2)) x3.toInt8.toInt32)).bind fun h_19 => some (1, h_19))) else ((fX9_finds (-1000001) h).bind fun q_20 => some (q_20.1, q_20.2))) else ((fX9_finds (-1000006) h).bind fun q_22 => some (q_22.1, q_22.2))) else ((fX9_finds (-1000001) h).bind fun q_24 => some (q_24.1, q_24.2))
set_option maxRecDepth 100000 in
set_option maxHeartbeats 4000000 in
theorem okX9_write (d : Nat) (x1 : Int32) (x2 : Int32) (x3 : Int32) (h : Sto) (qv : Int32) (qh : Sto) (e : fX9_write x1 x2 x3 h = some (qv, qh)) : Ok yX9_write cX9_write 4 (some .int) (d + 2) [.ref 83, .int x1, .int x2, .int x3] h (some (.int qv)) qh := by
  refine Ok_of (lst := kX9_write) (own := RX9) ⟨by decide, rfl⟩ ckX9_write trivial (Nat.le_of_ble_eq_true rfl) ?_
  unfold fX9_write at e
  change Ev kX9_write RX9 4 (d + 2) nox 0 [some (.ref 83), some (.int x1), some (.int x2), some (.int x3)] [] h (some (.int qv)) qh
  obtain ⟨q_1, e_2, e⟩ := bndS e
  refine s_iload_n 0 rfl rfl <| s_callS 1 [.int x1] [] rfl ml_X9_277 yw_X9_isSheet (okX9_isSheet d _ _ _ e_2) rfl rfl (Nat.le_of_ble_eq_true rfl) <| ?_
  rcases iteS e with ⟨g_3, e⟩ | ⟨g_3, e⟩
  · obtain ⟨g_4, e⟩ := grdS e
    refine s_if_ne_T 2 14 rfl (by decide) (b2i_T g_3) <| s_aload_n 7 rfl rfl <| s_getr 8 rfl fl_X9_38 sh_83 rfl <| s_iload_n 9 rfl rfl <| s_iald (Int32.toNatClampNeg x1) 10 rfl sh_93 g_4 rfl <| ?_
    rcases iteS e with ⟨g_5, e⟩ | ⟨g_5, e⟩
    · obtain ⟨g_6, e⟩ := grdS e
      obtain ⟨q_7, e_8, e⟩ := bndS e
      refine s_if_ne_T 11 31 rfl (by decide) g_5 <| s_iload_n 16 rfl rfl <| s_i2l 17 rfl <| s_lconst 0 18 rfl (by decide) <| s_aload_n 19 rfl rfl <| s_getr 20 rfl fl_X9_41 sh_83 rfl <| s_iload_n 21 rfl rfl <| s_iald (Int32.toNatClampNeg x1) 22 rfl sh_94 g_6 rfl <| s_iconst 1 23 rfl (by decide) <| s_isub 24 rfl <| s_i2l 25 rfl <| s_callS 26 [.long x2.toInt64, .long 0, .long (((h 94 (Int32.toNatClampNeg x1)) - 1).toInt64)] [] rfl ml_X9_48 yw_X9_in (okX9_in (d + 1) _ _ _ _ _ e_8) rfl rfl (Nat.le_of_ble_eq_true rfl) <| ?_
      rcases iteS e with ⟨g_9, e⟩ | ⟨g_9, e⟩
      · obtain ⟨g_10, e⟩ := grdS e
        refine s_if_ne_T 27 56 rfl (by decide) (b2i_T g_9) <| s_aload_n 32 rfl rfl <| s_getr 33 rfl fl_X9_44 sh_83 rfl <| s_bipush 40 34 rfl (by decide) <| s_iload_n 35 rfl rfl <| s_imul 36 rfl <| s_iload_n 37 rfl rfl <| s_iadd 38 rfl <| s_aload_n 39 rfl rfl <| s_getr 40 rfl fl_X9_38 sh_83 rfl <| s_iload_n 41 rfl rfl <| s_iald (Int32.toNatClampNeg x1) 42 rfl sh_93 g_10 rfl <| s_bipush 8 43 rfl (by decide) <| ?_
        rcases iteS e with ⟨g_11, e⟩ | ⟨g_11, e⟩
        · obtain ⟨g_12, e⟩ := grdS e
          refine s_icmp_ne_T 44 82 rfl (by decide) g_11 <| s_aload_n 48 rfl rfl <| s_getr 49 rfl fl_X9_38 sh_83 rfl <| s_iload_n 50 rfl rfl <| s_iald (Int32.toNatClampNeg x1) 51 rfl sh_93 g_12 rfl <| s_bipush 16 52 rfl (by decide) <| ?_
          rcases iteS e with ⟨g_13, e⟩ | ⟨g_13, e⟩
          · obtain ⟨g_14, e⟩ := grdS e
            obtain ⟨h_15, eh_15, e⟩ := bndS e
            obtain ⟨rfl, rfl⟩ := some2 e
            exact s_icmp_ne_T 53 98 rfl (by decide) g_13 <| s_iload_n 57 rfl rfl <| s_iast (Int32.toNatClampNeg ((40 * x1) + x2)) 58 rfl sh_95 g_14 rfl <| s_nmH (Option.some.inj eh_15) <| s_iconst 1 59 rfl (by decide) <| s_iret 60 rfl
          · obtain ⟨g_16, e⟩ := grdS e
            obtain ⟨h_17, eh_17, e⟩ := bndS e
            obtain ⟨rfl, rfl⟩ := some2 e
            exact s_icmp_ne_F 53 98 rfl (by decide) (Decidable.not_not.mp g_13) <| s_iload_n 54 rfl rfl <| s_i2s 55 rfl <| s_goto 56 99 rfl (by decide) <| s_iast (Int32.toNatClampNeg ((40 * x1) + x2)) 58 rfl sh_95 g_16 rfl <| s_nmH (Option.some.inj eh_17) <| s_iconst 1 59 rfl (by decide) <| s_iret 60 rfl
        · obtain ⟨g_18, e⟩ := grdS e
          obtain ⟨h_19, eh_19, e⟩ := bndS e
          obtain ⟨rfl, rfl⟩ := some2 e
          exact s_icmp_ne_F 44 82 rfl (by decide) (Decidable.not_not.mp g_11) <| s_iload_n 45 rfl rfl <| s_i2b 46 rfl <| s_goto 47 99 rfl (by decide) <| s_iast (Int32.toNatClampNeg ((40 * x1) + x2)) 58 rfl sh_95 g_18 rfl <| s_nmH (Option.some.inj eh_19) <| s_iconst 1 59 rfl (by decide) <| s_iret 60 rfl
      · obtain ⟨q_20, e_21, e⟩ := bndS e
        obtain ⟨rfl, rfl⟩ := some2 e
        exact s_if_ne_F 27 56 rfl (by decide) (b2i_F g_9) <| s_aload_n 28 rfl rfl <| s_ldc 29 rfl wc_X9_47 <| s_callV (b := 83) (ci := 9) 30 [.int (-1000001)] [] rfl ml_X9_64 yw_X9_finds sh_83 rfl rfl (okX9_finds (d + 1) _ _ q_20.1 q_20.2 e_21) rfl rfl (Nat.le_of_ble_eq_true rfl) <| s_iret 31 rfl
    · obtain ⟨q_22, e_23, e⟩ := bndS e
      obtain ⟨rfl, rfl⟩ := some2 e
      exact s_if_ne_F 11 31 rfl (by decide) (Decidable.not_not.mp g_5) <| s_aload_n 12 rfl rfl <| s_ldc_w 13 rfl wc_X9_272 <| s_callV (b := 83) (ci := 9) 14 [.int (-1000006)] [] rfl ml_X9_64 yw_X9_finds sh_83 rfl rfl (okX9_finds (d + 1) _ _ q_22.1 q_22.2 e_23) rfl rfl (Nat.le_of_ble_eq_true rfl) <| s_iret 15 rfl
  · obtain ⟨q_24, e_25, e⟩ := bndS e
    obtain ⟨rfl, rfl⟩ := some2 e
    exact s_if_ne_F 2 14 rfl (by decide) (b2i_F g_3) <| s_aload_n 3 rfl rfl <| s_ldc 4 rfl wc_X9_47 <| s_callV (b := 83) (ci := 9) 5 [.int (-1000001)] [] rfl ml_X9_64 yw_X9_finds sh_83 rfl rfl (okX9_finds (d + 1) _ _ q_24.1 q_24.2 e_25) rfl rfl (Nat.le_of_ble_eq_true rfl) <| s_iret 6 rfl
