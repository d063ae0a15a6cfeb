/-! 12 methods (written by wip/whole/gen_m.py) -/
def fX5_gatherGaps_b16 (x2 : Int32) (h : Sto) (c3 : Int32) (c4 : Int32) (c5 : Int32) (c6 : Int32) (c7 : Int32) : Option ((Int32 × Int32 × Int32 × Int32 × Int32) ⊕ (Int32 × Int32 × Int32)) :=
  if (h 10 1) ≤ c7 then (some (.inr (c3, c4, c5))) else (grd (inb c7 200) <| if (h 12 (Int32.toNatClampNeg c7)) = x2 then ((if c3 ≤ 0 then (some (c4, c5)) else (grd (inb c7 200) <| some ((c4 + ((h 11 (Int32.toNatClampNeg c7)) - c6)), (jmin c5 ((h 11 (Int32.toNatClampNeg c7)) - c6))))).bind fun q_4 => grd (inb c7 200) <| some (.inl ((c3 + 1), q_4.1, q_4.2, (h 11 (Int32.toNatClampNeg c7)), (c7 + 1)))) else (some (.inl (c3, c4, c5, c6, (c7 + 1)))))
def fX5_gatherGaps (x2 : Int32) (h : Sto) : Option Sto :=
  (lp (fun s => fX5_gatherGaps_b16 x2 h s.1 s.2.1 s.2.2.1 s.2.2.2.1 s.2.2.2.2) FUEL (0, 0, 29999, 0, 0)).bind fun v_17 => (some (su h 63 0 v_17.1)).bind fun h_19 => (if 2 ≤ v_17.1 then ((fX8_cut v_17.2.1 (v_17.1 - 1) h_19).bind fun q_23 => some q_23) else (some 0)).bind fun q_20 => (some (su h_19 63 1 q_20)).bind fun h_25 => if 2 ≤ v_17.1 then ((some (su h_25 63 2 v_17.2.2)).bind fun h_27 => some h_27) else ((some (su h_25 63 2 0)).bind fun h_28 => some h_28)
set_option maxRecDepth 100000 in
set_option maxHeartbeats 4000000 in
theorem okX5_gatherGaps (d : Nat) (x2 : Int32) (h : Sto) (q : Sto) (e : fX5_gatherGaps x2 h = some q) : Ok yX5_gatherGaps cX5_gatherGaps 9 none (d + 1) [.ref 62, .ref 10, .int x2] h none q := by
  refine Ok_of (lst := kX5_gatherGaps) (own := RX5) ⟨by decide, rfl⟩ ckX5_gatherGaps trivial (Nat.le_of_ble_eq_true rfl) ?_
  unfold fX5_gatherGaps at e
  change Ev kX5_gatherGaps RX5 9 (d + 1) nox 0 [some (.ref 62), some (.ref 10), some (.int x2), none, none, none, none, none, none] [] h none q
  obtain ⟨y_9, e_10, e⟩ := bndS e
  have kx_13 : ∀ v_17 : (Int32 × Int32 × Int32), v_17 = y_9 → Ev kX5_gatherGaps RX5 9 (d + 1) nox 89 [some (.ref 62), none, none, some (.int v_17.1), some (.int v_17.2.1), some (.int v_17.2.2), none, none, none] [] h none q := by
    intro v_17 hy
    subst hy
    obtain ⟨h_19, eh_19, e⟩ := bndS e
    obtain ⟨q_20, e1, e⟩ := bndS e
    have k_21 : Ev kX5_gatherGaps RX5 9 (d + 1) nox 118 [some (.ref 62), none, none, some (.int v_17.1), none, some (.int v_17.2.2), none, none, none] [.int q_20, .int 1, .ref 63] h_19 none q := by
      obtain ⟨h_25, eh_25, e⟩ := bndS e
      refine s_iast 1 64 rfl sh_63 (by decide) (by decide) <| s_nmH (Option.some.inj eh_25) <| s_aload_n 65 rfl rfl <| s_getr 66 rfl fl_X5_9 sh_62 rfl <| s_iconst 2 67 rfl (by decide) <| s_iload_n 68 rfl rfl <| s_iconst 2 69 rfl (by decide) <| ?_
      rcases iteS e with ⟨g_26, e⟩ | ⟨g_26, e⟩
      · obtain ⟨h_27, eh_27, e⟩ := bndS e
        obtain rfl := Option.some.inj e
        exact s_icmp_ge_T 70 133 rfl (by decide) g_26 <| s_iload 73 rfl rfl <| s_iast 2 74 rfl sh_63 (by decide) (by decide) <| s_nmH (Option.some.inj eh_27) <| s_vret 75 rfl
      · obtain ⟨h_28, eh_28, e⟩ := bndS e
        obtain rfl := Option.some.inj e
        exact s_icmp_ge_F 70 133 rfl (by decide) g_26 <| s_iconst 0 71 rfl (by decide) <| s_goto 72 135 rfl (by decide) <| s_iast 2 74 rfl sh_63 (by decide) (by decide) <| s_nmH (Option.some.inj eh_28) <| s_vret 75 rfl
    clear e
    have e := e1
    clear e1
    refine s_aload_n 46 rfl rfl <| s_getr 47 rfl fl_X5_9 sh_62 rfl <| s_iconst 0 48 rfl (by decide) <| s_iload_n 49 rfl rfl <| s_iast 0 50 rfl sh_63 (by decide) (by decide) <| s_nmH (Option.some.inj eh_19) <| s_aload_n 51 rfl rfl <| s_getr 52 rfl fl_X5_9 sh_62 rfl <| s_iconst 1 53 rfl (by decide) <| s_iload_n 54 rfl rfl <| s_iconst 2 55 rfl (by decide) <| ?_
    rcases iteS e with ⟨g_22, e⟩ | ⟨g_22, e⟩
    · obtain ⟨q_23, e_24, e⟩ := bndS e
      cases e
      exact s_icmp_ge_T 56 110 rfl (by decide) g_22 <| s_iload 59 rfl rfl <| s_iload_n 60 rfl rfl <| s_iconst 1 61 rfl (by decide) <| s_isub 62 rfl <| s_callSN 63 [.int v_17.2.1, .int (v_17.1 - 1)] [.int 1, .ref 63] rfl ml_X5_53 yw_X8_cut (okX8_cut d _ _ _ _ e_24) rfl rfl (Nat.le_of_ble_eq_true rfl) <| s_fgt [false, false, false, false, true] rfl <| k_21
    · cases e
      exact s_icmp_ge_F 56 110 rfl (by decide) g_22 <| s_iconst 0 57 rfl (by decide) <| s_goto 58 118 rfl (by decide) <| s_fgt [false, false, false, false, true] rfl <| k_21
  refine s_iconst 0 0 rfl (by decide) <| s_istore_n [some (.ref 62), some (.ref 10), some (.int x2), some (.int 0), none, none, none, none, none] 1 rfl (by decide) rfl <| s_iconst 0 2 rfl (by decide) <| s_istore [some (.ref 62), some (.ref 10), some (.int x2), some (.int 0), some (.int 0), none, none, none, none] 3 rfl (by decide) rfl <| s_sipush 29999 4 rfl (by decide) <| s_istore [some (.ref 62), some (.ref 10), some (.int x2), some (.int 0), some (.int 0), some (.int 29999), none, none, none] 5 rfl (by decide) rfl <| s_iconst 0 6 rfl (by decide) <| s_istore [some (.ref 62), some (.ref 10), some (.int x2), some (.int 0), some (.int 0), some (.int 29999), some (.int 0), none, none] 7 rfl (by decide) rfl <| s_iconst 0 8 rfl (by decide) <| s_istore [some (.ref 62), some (.ref 10), some (.int x2), some (.int 0), some (.int 0), some (.int 29999), some (.int 0), some (.int 0), none] 9 rfl (by decide) rfl <| lpS (P := fun (s_16 : (Int32 × Int32 × Int32 × Int32 × Int32)) => Ev kX5_gatherGaps RX5 9 (d + 1) nox 16 [some (.ref 62), some (.ref 10), some (.int x2), some (.int s_16.1), some (.int s_16.2.1), some (.int s_16.2.2.1), some (.int s_16.2.2.2.1), some (.int s_16.2.2.2.2), none] [] h none q) ?_ FUEL _ e_10
  intro s_16 o_15 e hk_11 hx_12
  unfold fX5_gatherGaps_b16 at e
  refine s_iload 10 rfl rfl <| s_aload_n 11 rfl rfl <| s_geti 12 rfl fl_X5_37 sh_10 rfl <| ?_
  rcases iteS e with ⟨g_29, e⟩ | ⟨g_29, e⟩
  · cases e
    exact s_icmp_ge_T 13 89 rfl (by decide) g_29 <| s_fgt [false, true, true, false, false, false, true, true] rfl <| (kx_13 (s_16.1, s_16.2.1, s_16.2.2.1) (hx_12 _ rfl))
  · obtain ⟨g_30, e⟩ := grdS e
    refine s_icmp_ge_F 13 89 rfl (by decide) g_29 <| s_aload_n 14 rfl rfl <| s_getr 15 rfl fl_X5_41 sh_10 rfl <| s_iload 16 rfl rfl <| s_iald (Int32.toNatClampNeg s_16.2.2.2.2) 17 rfl sh_12 g_30 rfl <| s_iload_n 18 rfl rfl <| ?_
    rcases iteS e with ⟨g_31, e⟩ | ⟨g_31, e⟩
    · obtain ⟨q_32, e1, e⟩ := bndS e
      have k_33 : Ev kX5_gatherGaps RX5 9 (d + 1) nox 71 [some (.ref 62), some (.ref 10), some (.int x2), some (.int s_16.1), some (.int q_32.1), some (.int q_32.2), none, some (.int s_16.2.2.2.2), none] [] h none q := by
        obtain ⟨g_36, e⟩ := grdS e
        cases e
        exact s_aload_n 38 rfl rfl <| s_getr 39 rfl fl_X5_44 sh_10 rfl <| s_iload 40 rfl rfl <| s_iald (Int32.toNatClampNeg s_16.2.2.2.2) 41 rfl sh_11 g_36 rfl <| s_istore [some (.ref 62), some (.ref 10), some (.int x2), some (.int s_16.1), some (.int q_32.1), some (.int q_32.2), some (.int (h 11 (Int32.toNatClampNeg s_16.2.2.2.2))), some (.int s_16.2.2.2.2), none] 42 rfl (by decide) rfl <| s_iinc 1 [some (.ref 62), some (.ref 10), some (.int x2), some (.int (s_16.1 + 1)), some (.int q_32.1), some (.int q_32.2), some (.int (h 11 (Int32.toNatClampNeg s_16.2.2.2.2))), some (.int s_16.2.2.2.2), none] 43 rfl (by decide) rfl (by decide) rfl <| s_iinc 1 [some (.ref 62), some (.ref 10), some (.int x2), some (.int (s_16.1 + 1)), some (.int q_32.1), some (.int q_32.2), some (.int (h 11 (Int32.toNatClampNeg s_16.2.2.2.2))), some (.int (s_16.2.2.2.2 + 1)), none] 44 rfl (by decide) rfl (by decide) rfl <| s_goto 45 16 rfl (by decide) <| (hk_11 ((s_16.1 + 1), q_32.1, q_32.2, (h 11 (Int32.toNatClampNeg s_16.2.2.2.2)), (s_16.2.2.2.2 + 1)) rfl)
      clear e
      have e := e1
      clear e1
      refine s_icmp_eq_T 19 39 rfl (by decide) g_31 <| s_iload_n 21 rfl rfl <| ?_
      rcases iteS e with ⟨g_34, e⟩ | ⟨g_34, e⟩
      · cases e
        exact s_if_le_T 22 71 rfl (by decide) g_34 <| s_fgt [false, false, false, false, false, false, true] rfl <| k_33
      · obtain ⟨g_35, e⟩ := grdS e
        cases e
        exact s_if_le_F 22 71 rfl (by decide) g_34 <| s_aload_n 23 rfl rfl <| s_getr 24 rfl fl_X5_44 sh_10 rfl <| s_iload 25 rfl rfl <| s_iald (Int32.toNatClampNeg s_16.2.2.2.2) 26 rfl sh_11 g_35 rfl <| s_iload 27 rfl rfl <| s_isub 28 rfl <| s_istore [some (.ref 62), some (.ref 10), some (.int x2), some (.int s_16.1), some (.int s_16.2.1), some (.int s_16.2.2.1), some (.int s_16.2.2.2.1), some (.int s_16.2.2.2.2), some (.int ((h 11 (Int32.toNatClampNeg s_16.2.2.2.2)) - s_16.2.2.2.1))] 29 rfl (by decide) rfl <| s_iload 30 rfl rfl <| s_iload 31 rfl rfl <| s_iadd 32 rfl <| s_istore [some (.ref 62), some (.ref 10), some (.int x2), some (.int s_16.1), some (.int (s_16.2.1 + ((h 11 (Int32.toNatClampNeg s_16.2.2.2.2)) - s_16.2.2.2.1))), some (.int s_16.2.2.1), some (.int s_16.2.2.2.1), some (.int s_16.2.2.2.2), some (.int ((h 11 (Int32.toNatClampNeg s_16.2.2.2.2)) - s_16.2.2.2.1))] 33 rfl (by decide) rfl <| s_iload 34 rfl rfl <| s_iload 35 rfl rfl <| s_min 36 rfl ml_X5_47 wMin (Nat.le_of_ble_eq_true rfl) <| s_istore [some (.ref 62), some (.ref 10), some (.int x2), some (.int s_16.1), some (.int (s_16.2.1 + ((h 11 (Int32.toNatClampNeg s_16.2.2.2.2)) - s_16.2.2.2.1))), some (.int (jmin s_16.2.2.1 ((h 11 (Int32.toNatClampNeg s_16.2.2.2.2)) - s_16.2.2.2.1))), some (.int s_16.2.2.2.1), some (.int s_16.2.2.2.2), some (.int ((h 11 (Int32.toNatClampNeg s_16.2.2.2.2)) - s_16.2.2.2.1))] 37 rfl (by decide) rfl <| s_fgt [false, false, false, false, false, false, true, false, true] rfl <| k_33
    · cases e
      exact s_icmp_eq_F 19 39 rfl (by decide) g_31 <| s_goto 20 83 rfl (by decide) <| s_iinc 1 [some (.ref 62), some (.ref 10), some (.int x2), some (.int s_16.1), some (.int s_16.2.1), some (.int s_16.2.2.1), some (.int s_16.2.2.2.1), some (.int (s_16.2.2.2.2 + 1)), none] 44 rfl (by decide) rfl (by decide) rfl <| s_goto 45 16 rfl (by decide) <| (hk_11 (s_16.1, s_16.2.1, s_16.2.2.1, s_16.2.2.2.1, (s_16.2.2.2.2 + 1)) rfl)
def fX5_gatherFollowing_b9 (x2 : Int32) (h : Sto) (c3 : Int32) (c4 : Int32) (c5 : Int32) : Option ((Int32 × Int32 × Int32) ⊕ (Int32 × Int32)) :=
  if (h 10 1) ≤ c5 then (some (.inr (c3, c4))) else (grd (inb c5 200) <| grd (inb c5 200) <| if ¬ (h 12 (Int32.toNatClampNeg c5)) = x2 then (some (.inl (c3, c4, (c5 + 1)))) else (if (h 14 (Int32.toNatClampNeg c5)) < 0 then (some (.inl (c3, c4, (c5 + 1)))) else (grd (inb c5 200) <| grd (inb (h 14 (Int32.toNatClampNeg c5)) 200) <| (some (jmin c4 ((h 11 (Int32.toNatClampNeg c5)) - (h 11 (Int32.toNatClampNeg (h 14 (Int32.toNatClampNeg c5))))))).bind fun y_8 => some (.inl ((c3 + 1), y_8, (c5 + 1))))))
def fX5_gatherFollowing (x2 : Int32) (h : Sto) : Option Sto :=
  (lp (fun s => fX5_gatherFollowing_b9 x2 h s.1 s.2.1 s.2.2) FUEL (0, 99, 0)).bind fun v_17 => (some (su h 63 4 v_17.1)).bind fun h_19 => (some (su h_19 63 5 v_17.2)).bind fun h_20 => some h_20
set_option maxRecDepth 100000 in
set_option maxHeartbeats 4000000 in
theorem okX5_gatherFollowing (d : Nat) (x2 : Int32) (h : Sto) (q : Sto) (e : fX5_gatherFollowing x2 h = some q) : Ok yX5_gatherFollowing cX5_gatherFollowing 7 none (d + 1) [.ref 62, .ref 10, .int x2] h none q := by
  refine Ok_of (lst := kX5_gatherFollowing) (own := RX5) ⟨by decide, rfl⟩ ckX5_gatherFollowing trivial (Nat.le_of_ble_eq_true rfl) ?_
  unfold fX5_gatherFollowing at e
  change Ev kX5_gatherFollowing RX5 7 (d + 1) nox 0 [some (.ref 62), some (.ref 10), some (.int x2), none, none, none, none] [] h none q
  obtain ⟨y_9, e_10, e⟩ := bndS e
  have kx_13 : ∀ v_17 : (Int32 × Int32), v_17 = y_9 → Ev kX5_gatherFollowing RX5 7 (d + 1) nox 74 [some (.ref 62), none, none, some (.int v_17.1), some (.int v_17.2), none, none] [] h none q := by
    intro v_17 hy
    subst hy
    obtain ⟨h_19, eh_19, e⟩ := bndS e
    obtain ⟨h_20, eh_20, e⟩ := bndS e
    obtain rfl := Option.some.inj e
    exact s_aload_n 38 rfl rfl <| s_getr 39 rfl fl_X5_9 sh_62 rfl <| s_iconst 4 40 rfl (by decide) <| s_iload_n 41 rfl rfl <| s_iast 4 42 rfl sh_63 (by decide) (by decide) <| s_nmH (Option.some.inj eh_19) <| s_aload_n 43 rfl rfl <| s_getr 44 rfl fl_X5_9 sh_62 rfl <| s_iconst 5 45 rfl (by decide) <| s_iload 46 rfl rfl <| s_iast 5 47 rfl sh_63 (by decide) (by decide) <| s_nmH (Option.some.inj eh_20) <| s_vret 48 rfl
  refine s_iconst 0 0 rfl (by decide) <| s_istore_n [some (.ref 62), some (.ref 10), some (.int x2), some (.int 0), none, none, none] 1 rfl (by decide) rfl <| s_bipush 99 2 rfl (by decide) <| s_istore [some (.ref 62), some (.ref 10), some (.int x2), some (.int 0), some (.int 99), none, none] 3 rfl (by decide) rfl <| s_iconst 0 4 rfl (by decide) <| s_istore [some (.ref 62), some (.ref 10), some (.int x2), some (.int 0), some (.int 99), some (.int 0), none] 5 rfl (by decide) rfl <| lpS (P := fun (s_16 : (Int32 × Int32 × Int32)) => Ev kX5_gatherFollowing RX5 7 (d + 1) nox 9 [some (.ref 62), some (.ref 10), some (.int x2), some (.int s_16.1), some (.int s_16.2.1), some (.int s_16.2.2), none] [] h none q) ?_ FUEL _ e_10
  intro s_16 o_15 e hk_11 hx_12
  unfold fX5_gatherFollowing_b9 at e
  refine s_iload 6 rfl rfl <| s_aload_n 7 rfl rfl <| s_geti 8 rfl fl_X5_37 sh_10 rfl <| ?_
  rcases iteS e with ⟨g_21, e⟩ | ⟨g_21, e⟩
  · cases e
    exact s_icmp_ge_T 9 74 rfl (by decide) g_21 <| s_fgt [false, true, true, false, false, true] rfl <| (kx_13 (s_16.1, s_16.2.1) (hx_12 _ rfl))
  · obtain ⟨g_22, e⟩ := grdS e
    obtain ⟨g_23, e⟩ := grdS e
    refine s_icmp_ge_F 9 74 rfl (by decide) g_21 <| s_aload_n 10 rfl rfl <| s_getr 11 rfl fl_X5_56 sh_10 rfl <| s_iload 12 rfl rfl <| s_iald (Int32.toNatClampNeg s_16.2.2) 13 rfl sh_14 g_22 rfl <| s_istore [some (.ref 62), some (.ref 10), some (.int x2), some (.int s_16.1), some (.int s_16.2.1), some (.int s_16.2.2), some (.int (h 14 (Int32.toNatClampNeg s_16.2.2)))] 14 rfl (by decide) rfl <| s_aload_n 15 rfl rfl <| s_getr 16 rfl fl_X5_41 sh_10 rfl <| s_iload 17 rfl rfl <| s_iald (Int32.toNatClampNeg s_16.2.2) 18 rfl sh_12 g_23 rfl <| s_iload_n 19 rfl rfl <| ?_
    rcases iteS e with ⟨g_24, e⟩ | ⟨g_24, e⟩
    · cases e
      exact s_icmp_ne_T 20 68 rfl (by decide) g_24 <| s_iinc 1 [some (.ref 62), some (.ref 10), some (.int x2), some (.int s_16.1), some (.int s_16.2.1), some (.int (s_16.2.2 + 1)), some (.int (h 14 (Int32.toNatClampNeg s_16.2.2)))] 36 rfl (by decide) rfl (by decide) rfl <| s_goto 37 9 rfl (by decide) <| s_fgt [false, false, false, false, false, false, true] rfl <| (hk_11 (s_16.1, s_16.2.1, (s_16.2.2 + 1)) rfl)
    · refine s_icmp_ne_F 20 68 rfl (by decide) (Decidable.not_not.mp g_24) <| s_iload 21 rfl rfl <| ?_
      rcases iteS e with ⟨g_25, e⟩ | ⟨g_25, e⟩
      · cases e
        exact s_if_lt_T 22 68 rfl (by decide) g_25 <| s_iinc 1 [some (.ref 62), some (.ref 10), some (.int x2), some (.int s_16.1), some (.int s_16.2.1), some (.int (s_16.2.2 + 1)), some (.int (h 14 (Int32.toNatClampNeg s_16.2.2)))] 36 rfl (by decide) rfl (by decide) rfl <| s_goto 37 9 rfl (by decide) <| s_fgt [false, false, false, false, false, false, true] rfl <| (hk_11 (s_16.1, s_16.2.1, (s_16.2.2 + 1)) rfl)
      · obtain ⟨g_26, e⟩ := grdS e
        obtain ⟨g_27, e⟩ := grdS e
        obtain ⟨y_28, ey_28, e⟩ := bndS e
        cases e
        exact s_if_lt_F 22 68 rfl (by decide) g_25 <| s_iinc 1 [some (.ref 62), some (.ref 10), some (.int x2), some (.int (s_16.1 + 1)), some (.int s_16.2.1), some (.int s_16.2.2), some (.int (h 14 (Int32.toNatClampNeg s_16.2.2)))] 23 rfl (by decide) rfl (by decide) rfl <| s_iload 24 rfl rfl <| s_aload_n 25 rfl rfl <| s_getr 26 rfl fl_X5_44 sh_10 rfl <| s_iload 27 rfl rfl <| s_iald (Int32.toNatClampNeg s_16.2.2) 28 rfl sh_11 g_26 rfl <| s_aload_n 29 rfl rfl <| s_getr 30 rfl fl_X5_44 sh_10 rfl <| s_iload 31 rfl rfl <| s_iald (Int32.toNatClampNeg (h 14 (Int32.toNatClampNeg s_16.2.2))) 32 rfl sh_11 g_27 rfl <| s_isub 33 rfl <| s_min 34 rfl ml_X5_47 wMin (Nat.le_of_ble_eq_true rfl) <| s_nmI (Option.some.inj ey_28) <| s_istore [some (.ref 62), some (.ref 10), some (.int x2), some (.int (s_16.1 + 1)), some (.int y_28), some (.int s_16.2.2), some (.int (h 14 (Int32.toNatClampNeg s_16.2.2)))] 35 rfl (by decide) rfl <| s_iinc 1 [some (.ref 62), some (.ref 10), some (.int x2), some (.int (s_16.1 + 1)), some (.int y_28), some (.int (s_16.2.2 + 1)), some (.int (h 14 (Int32.toNatClampNeg s_16.2.2)))] 36 rfl (by decide) rfl (by decide) rfl <| s_goto 37 9 rfl (by decide) <| s_fgt [false, false, false, false, false, false, true] rfl <| (hk_11 ((s_16.1 + 1), y_28, (s_16.2.2 + 1)) rfl)
def fX0_hourSet_b4 (x1 : Int32) (h : Sto) (c2 : Int32) (c3 : Int32) : Option ((Int32 × Int32) ⊕ Int32) :=
  if (h 10 1) ≤ c3 then (some (.inr c2)) else (grd (inb c3 200) <| if ¬ (h 12 (Int32.toNatClampNeg c3)) = x1 then (some (.inl (c2, (c3 + 1)))) else (grd (inb c3 200) <| (fX8_hourOf (h 11 (Int32.toNatClampNeg c3)) h).bind fun q_5 => some (.inl ((c2 ||| (jshl 1 q_5)), (c3 + 1)))))
def fX0_hourSet (x1 : Int32) (h : Sto) : Option Int32 :=
  (lp (fun s => fX0_hourSet_b4 x1 h s.1 s.2) FUEL (0, 0)).bind fun v_15 => some v_15
set_option maxRecDepth 100000 in
set_option maxHeartbeats 4000000 in
theorem okX0_hourSet (d : Nat) (x1 : Int32) (h : Sto) (q : Int32) (e : fX0_hourSet x1 h = some q) : Ok yX0_hourSet cX0_hourSet 4 (some .int) (d + 1) [.ref 10, .int x1] h (some (.int q)) h := by
  refine Ok_of (lst := kX0_hourSet) (own := RX0) ⟨by decide, rfl⟩ ckX0_hourSet trivial (Nat.le_of_ble_eq_true rfl) ?_
  unfold fX0_hourSet at e
  change Ev kX0_hourSet RX0 4 (d + 1) nox 0 [some (.ref 10), some (.int x1), none, none] [] h (some (.int q)) h
  obtain ⟨y_7, e_8, e⟩ := bndS e
  have kx_11 : ∀ v_15 : Int32, v_15 = y_7 → Ev kX0_hourSet RX0 4 (d + 1) nox 42 [none, none, some (.int v_15), none] [] h (some (.int q)) h := by
    intro v_15 hy
    subst hy
    obtain rfl := Option.some.inj e
    exact s_iload_n 26 rfl rfl <| s_iret 27 rfl
  refine s_iconst 0 0 rfl (by decide) <| s_istore_n [some (.ref 10), some (.int x1), some (.int 0), none] 1 rfl (by decide) rfl <| s_iconst 0 2 rfl (by decide) <| s_istore_n [some (.ref 10), some (.int x1), some (.int 0), some (.int 0)] 3 rfl (by decide) rfl <| lpS (P := fun (s_14 : (Int32 × Int32)) => Ev kX0_hourSet RX0 4 (d + 1) nox 4 [some (.ref 10), some (.int x1), some (.int s_14.1), some (.int s_14.2)] [] h (some (.int q)) h) ?_ FUEL _ e_8
  intro s_14 o_13 e hk_9 hx_10
  unfold fX0_hourSet_b4 at e
  refine s_iload_n 4 rfl rfl <| s_aload_n 5 rfl rfl <| s_geti 6 rfl fl_X0_28 sh_10 rfl <| ?_
  rcases iteS e with ⟨g_17, e⟩ | ⟨g_17, e⟩
  · cases e
    exact s_icmp_ge_T 7 42 rfl (by decide) g_17 <| s_fgt [true, true, false, true] rfl <| (kx_11 s_14.1 (hx_10 _ rfl))
  · obtain ⟨g_18, e⟩ := grdS e
    refine s_icmp_ge_F 7 42 rfl (by decide) g_17 <| s_aload_n 8 rfl rfl <| s_getr 9 rfl fl_X0_15 sh_10 rfl <| s_iload_n 10 rfl rfl <| s_iald (Int32.toNatClampNeg s_14.2) 11 rfl sh_12 g_18 rfl <| s_iload_n 12 rfl rfl <| ?_
    rcases iteS e with ⟨g_19, e⟩ | ⟨g_19, e⟩
    · cases e
      exact s_icmp_ne_T 13 36 rfl (by decide) g_19 <| s_iinc 1 [some (.ref 10), some (.int x1), some (.int s_14.1), some (.int (s_14.2 + 1))] 24 rfl (by decide) rfl (by decide) rfl <| s_goto 25 4 rfl (by decide) <| (hk_9 (s_14.1, (s_14.2 + 1)) rfl)
    · obtain ⟨g_20, e⟩ := grdS e
      obtain ⟨q_21, e_22, e⟩ := bndS e
      cases e
      exact s_icmp_ne_F 13 36 rfl (by decide) (Decidable.not_not.mp g_19) <| s_iload_n 14 rfl rfl <| s_iconst 1 15 rfl (by decide) <| s_aload_n 16 rfl rfl <| s_getr 17 rfl fl_X0_9 sh_10 rfl <| s_iload_n 18 rfl rfl <| s_iald (Int32.toNatClampNeg s_14.2) 19 rfl sh_11 g_20 rfl <| s_callSN 20 [.int (h 11 (Int32.toNatClampNeg s_14.2))] [.int 1, .int s_14.1] rfl ml_X0_47 yw_X8_hourOf (okX8_hourOf d _ _ _ e_22) rfl rfl (Nat.le_of_ble_eq_true rfl) <| s_ishl 21 rfl <| s_ior 22 rfl <| s_istore_n [some (.ref 10), some (.int x1), some (.int (s_14.1 ||| (jshl 1 q_21))), some (.int s_14.2)] 23 rfl (by decide) rfl <| s_iinc 1 [some (.ref 10), some (.int x1), some (.int (s_14.1 ||| (jshl 1 q_21))), some (.int (s_14.2 + 1))] 24 rfl (by decide) rfl (by decide) rfl <| s_goto 25 4 rfl (by decide) <| (hk_9 ((s_14.1 ||| (jshl 1 q_21)), (s_14.2 + 1)) rfl)
def fX5_countTopics_b4 (x1 : Int32) (h : Sto) (c2 : Int32) (c3 : Int32) : Option ((Int32 × Int32) ⊕ Int32) :=
  if (h 10 1) ≤ c3 then (some (.inr c2)) else (grd (inb c3 200) <| if ¬ (h 12 (Int32.toNatClampNeg c3)) = x1 then (some (.inl (c2, (c3 + 1)))) else (grd (inb c3 200) <| some (.inl ((c2 ||| (jshl 1 (h 13 (Int32.toNatClampNeg c3)))), (c3 + 1)))))
def fX5_countTopics (x1 : Int32) (h : Sto) : Option Int32 :=
  (lp (fun s => fX5_countTopics_b4 x1 h s.1 s.2) FUEL (0, 0)).bind fun v_13 => (fJ6_bitCount_0f7a4 v_13 h).bind fun q_15 => some q_15
set_option maxRecDepth 100000 in
set_option maxHeartbeats 4000000 in
theorem okX5_countTopics (d : Nat) (x1 : Int32) (h : Sto) (q : Int32) (e : fX5_countTopics x1 h = some q) : Ok yX5_countTopics cX5_countTopics 4 (some .int) (d + 1) [.ref 10, .int x1] h (some (.int q)) h := by
  refine Ok_of (lst := kX5_countTopics) (own := RX5) ⟨by decide, rfl⟩ ckX5_countTopics trivial (Nat.le_of_ble_eq_true rfl) ?_
  unfold fX5_countTopics at e
  change Ev kX5_countTopics RX5 4 (d + 1) nox 0 [some (.ref 10), some (.int x1), none, none] [] h (some (.int q)) h
  obtain ⟨y_5, e_6, e⟩ := bndS e
  have kx_9 : ∀ v_13 : Int32, v_13 = y_5 → Ev kX5_countTopics RX5 4 (d + 1) nox 39 [none, none, some (.int v_13), none] [] h (some (.int q)) h := by
    intro v_13 hy
    subst hy
    obtain ⟨q_15, e_16, e⟩ := bndS e
    obtain rfl := Option.some.inj e
    exact s_iload_n 25 rfl rfl <| s_callS 26 [.int v_13] [] rfl ml_X5_28 yw_J6_bitCount_0f7a4 (okJ6_bitCount_0f7a4 d _ _ _ e_16) rfl rfl (Nat.le_of_ble_eq_true rfl) <| s_iret 27 rfl
  refine s_iconst 0 0 rfl (by decide) <| s_istore_n [some (.ref 10), some (.int x1), some (.int 0), none] 1 rfl (by decide) rfl <| s_iconst 0 2 rfl (by decide) <| s_istore_n [some (.ref 10), some (.int x1), some (.int 0), some (.int 0)] 3 rfl (by decide) rfl <| lpS (P := fun (s_12 : (Int32 × Int32)) => Ev kX5_countTopics RX5 4 (d + 1) nox 4 [some (.ref 10), some (.int x1), some (.int s_12.1), some (.int s_12.2)] [] h (some (.int q)) h) ?_ FUEL _ e_6
  intro s_12 o_11 e hk_7 hx_8
  unfold fX5_countTopics_b4 at e
  refine s_iload_n 4 rfl rfl <| s_aload_n 5 rfl rfl <| s_geti 6 rfl fl_X5_37 sh_10 rfl <| ?_
  rcases iteS e with ⟨g_17, e⟩ | ⟨g_17, e⟩
  · cases e
    exact s_icmp_ge_T 7 39 rfl (by decide) g_17 <| s_fgt [true, true, false, true] rfl <| (kx_9 s_12.1 (hx_8 _ rfl))
  · obtain ⟨g_18, e⟩ := grdS e
    refine s_icmp_ge_F 7 39 rfl (by decide) g_17 <| s_aload_n 8 rfl rfl <| s_getr 9 rfl fl_X5_41 sh_10 rfl <| s_iload_n 10 rfl rfl <| s_iald (Int32.toNatClampNeg s_12.2) 11 rfl sh_12 g_18 rfl <| s_iload_n 12 rfl rfl <| ?_
    rcases iteS e with ⟨g_19, e⟩ | ⟨g_19, e⟩
    · cases e
      exact s_icmp_ne_T 13 33 rfl (by decide) g_19 <| s_iinc 1 [some (.ref 10), some (.int x1), some (.int s_12.1), some (.int (s_12.2 + 1))] 23 rfl (by decide) rfl (by decide) rfl <| s_goto 24 4 rfl (by decide) <| (hk_7 (s_12.1, (s_12.2 + 1)) rfl)
    · obtain ⟨g_20, e⟩ := grdS e
      cases e
      exact s_icmp_ne_F 13 33 rfl (by decide) (Decidable.not_not.mp g_19) <| s_iload_n 14 rfl rfl <| s_iconst 1 15 rfl (by decide) <| s_aload_n 16 rfl rfl <| s_getr 17 rfl fl_X5_59 sh_10 rfl <| s_iload_n 18 rfl rfl <| s_iald (Int32.toNatClampNeg s_12.2) 19 rfl sh_13 g_20 rfl <| s_ishl 20 rfl <| s_ior 21 rfl <| s_istore_n [some (.ref 10), some (.int x1), some (.int (s_12.1 ||| (jshl 1 (h 13 (Int32.toNatClampNeg s_12.2))))), some (.int s_12.2)] 22 rfl (by decide) rfl <| s_iinc 1 [some (.ref 10), some (.int x1), some (.int (s_12.1 ||| (jshl 1 (h 13 (Int32.toNatClampNeg s_12.2))))), some (.int (s_12.2 + 1))] 23 rfl (by decide) rfl (by decide) rfl <| s_goto 24 4 rfl (by decide) <| (hk_7 ((s_12.1 ||| (jshl 1 (h 13 (Int32.toNatClampNeg s_12.2)))), (s_12.2 + 1)) rfl)
def fX5_gather (x2 : Int32) (h : Sto) : Option Sto :=
  (fX5_gatherGaps x2 h).bind fun q_1 => (fX5_gatherFollowing x2 q_1).bind fun q_3 => (fX0_hourSet x2 q_3).bind fun q_5 => (fJ6_bitCount_0f7a4 q_5 q_3).bind fun q_7 => (some (su q_3 63 3 q_7)).bind fun h_9 => (fX5_countTopics x2 h_9).bind fun q_10 => (some (su h_9 63 6 q_10)).bind fun h_12 => (some (su h_12 63 7 x2)).bind fun h_13 => some h_13
set_option maxRecDepth 100000 in
set_option maxHeartbeats 4000000 in
theorem okX5_gather (d : Nat) (x2 : Int32) (h : Sto) (q : Sto) (e : fX5_gather x2 h = some q) : Ok yX5_gather cX5_gather 3 none (d + 2) [.ref 62, .ref 10, .int x2] h none q := by
  refine Ok_of (lst := kX5_gather) (own := RX5) ⟨by decide, rfl⟩ ckX5_gather trivial (Nat.le_of_ble_eq_true rfl) ?_
  unfold fX5_gather at e
  change Ev kX5_gather RX5 3 (d + 2) nox 0 [some (.ref 62), some (.ref 10), some (.int x2)] [] h none q
  obtain ⟨q_1, e_2, e⟩ := bndS e
  obtain ⟨q_3, e_4, e⟩ := bndS e
  obtain ⟨q_5, e_6, e⟩ := bndS e
  obtain ⟨q_7, e_8, e⟩ := bndS e
  obtain ⟨h_9, eh_9, e⟩ := bndS e
  obtain ⟨q_10, e_11, e⟩ := bndS e
  obtain ⟨h_12, eh_12, e⟩ := bndS e
  obtain ⟨h_13, eh_13, e⟩ := bndS e
  obtain rfl := Option.some.inj e
  exact s_aload_n 0 rfl rfl <| s_aload_n 1 rfl rfl <| s_iload_n 2 rfl rfl <| s_callV (b := 62) (ci := 5) 3 [.ref 10, .int x2] [] rfl ml_X5_15 yw_X5_gatherGaps sh_62 rfl rfl (okX5_gatherGaps d _ _ _ e_2) rfl rfl (Nat.le_of_ble_eq_true rfl) <| s_aload_n 4 rfl rfl <| s_aload_n 5 rfl rfl <| s_iload_n 6 rfl rfl <| s_callV (b := 62) (ci := 5) 7 [.ref 10, .int x2] [] rfl ml_X5_19 yw_X5_gatherFollowing sh_62 rfl rfl (okX5_gatherFollowing d _ _ _ e_4) rfl rfl (Nat.le_of_ble_eq_true rfl) <| s_aload_n 8 rfl rfl <| s_getr 9 rfl fl_X5_9 sh_62 rfl <| s_iconst 3 10 rfl (by decide) <| s_aload_n 11 rfl rfl <| s_iload_n 12 rfl rfl <| s_callV (b := 10) (ci := 0) 13 [.int x2] [.int 3, .ref 63] rfl ml_X5_22 yw_X0_hourSet sh_10 rfl rfl (okX0_hourSet d _ _ _ e_6) rfl rfl (Nat.le_of_ble_eq_true rfl) <| s_callS 14 [.int q_5] [.int 3, .ref 63] rfl ml_X5_28 yw_J6_bitCount_0f7a4 (okJ6_bitCount_0f7a4 (d + 1) _ _ _ e_8) rfl rfl (Nat.le_of_ble_eq_true rfl) <| s_iast 3 15 rfl sh_63 (by decide) (by decide) <| s_nmH (Option.some.inj eh_9) <| s_aload_n 16 rfl rfl <| s_getr 17 rfl fl_X5_9 sh_62 rfl <| s_bipush 6 18 rfl (by decide) <| s_aload_n 19 rfl rfl <| s_iload_n 20 rfl rfl <| s_callS 21 [.ref 10, .int x2] [.int 6, .ref 63] rfl ml_X5_33 yw_X5_countTopics (okX5_countTopics d _ _ _ e_11) rfl rfl (Nat.le_of_ble_eq_true rfl) <| s_iast 6 22 rfl sh_63 (by decide) (by decide) <| s_nmH (Option.some.inj eh_12) <| s_aload_n 23 rfl rfl <| s_getr 24 rfl fl_X5_9 sh_62 rfl <| s_bipush 7 25 rfl (by decide) <| s_iload_n 26 rfl rfl <| s_iast 7 27 rfl sh_63 (by decide) (by decide) <| s_nmH (Option.some.inj eh_13) <| s_vret 28 rfl
def fX8_sign (x1 : Int32) (x2 : Int32) (h : Sto) : Option (Int32 × Sto) :=
  (fX1_has x1 h).bind fun q_1 => if q_1 = true then ((fX8_isWithin x2 0 6 h).bind fun q_4 => if q_4 = true then ((fX5_gather x1 h).bind fun q_7 => grd (inb x2 8) <| some ((q_7 63 (Int32.toNatClampNeg x2)), q_7)) else ((fX8_tellFinding (-1000001) h).bind fun q_10 => some (q_10.1, q_10.2))) else ((fX8_tellFinding (-1000001) h).bind fun q_12 => some (q_12.1, q_12.2))
set_option maxRecDepth 100000 in
set_option maxHeartbeats 4000000 in
theorem okX8_sign (d : Nat) (x1 : Int32) (x2 : Int32) (h : Sto) (qv : Int32) (qh : Sto) (e : fX8_sign x1 x2 h = some (qv, qh)) : Ok yX8_sign cX8_sign 3 (some .int) (d + 3) [.ref 0, .int x1, .int x2] h (some (.int qv)) qh := by
  refine Ok_of (lst := kX8_sign) (own := RX8) ⟨by decide, rfl⟩ ckX8_sign trivial (Nat.le_of_ble_eq_true rfl) ?_
  unfold fX8_sign at e
  change Ev kX8_sign RX8 3 (d + 3) nox 0 [some (.ref 0), some (.int x1), some (.int x2)] [] h (some (.int qv)) qh
  obtain ⟨q_1, e_2, e⟩ := bndS e
  refine s_aload_n 0 rfl rfl <| s_getr 1 rfl fl_X8_12 sh_0 rfl <| s_getr 2 rfl fl_X8_74 sh_1 rfl <| s_iload_n 3 rfl rfl <| s_callV (b := 2) (ci := 1) 4 [.int x1] [] rfl ml_X8_88 yw_X1_has sh_2 rfl rfl (okX1_has (d + 1) _ _ _ e_2) rfl rfl (Nat.le_of_ble_eq_true rfl) <| ?_
  rcases iteS e with ⟨g_3, e⟩ | ⟨g_3, e⟩
  · obtain ⟨q_4, e_5, e⟩ := bndS e
    refine s_if_eq_F 5 24 rfl (by decide) (b2i_T g_3) <| s_iload_n 6 rfl rfl <| s_iconst 0 7 rfl (by decide) <| s_bipush 6 8 rfl (by decide) <| s_callS 9 [.int x2, .int 0, .int 6] [] rfl ml_X8_65 yw_X8_isWithin (okX8_isWithin (d + 2) _ _ _ _ _ e_5) rfl rfl (Nat.le_of_ble_eq_true rfl) <| ?_
    rcases iteS e with ⟨g_6, e⟩ | ⟨g_6, e⟩
    · obtain ⟨q_7, e_8, e⟩ := bndS e
      obtain ⟨g_9, e⟩ := grdS e
      obtain ⟨rfl, rfl⟩ := some2 e
      exact s_if_ne_T 10 31 rfl (by decide) (b2i_T g_6) <| s_aload_n 15 rfl rfl <| s_getr 16 rfl fl_X8_44 sh_0 rfl <| s_aload_n 17 rfl rfl <| s_getr 18 rfl fl_X8_12 sh_0 rfl <| s_getr 19 rfl fl_X8_134 sh_1 rfl <| s_iload_n 20 rfl rfl <| s_callV (b := 62) (ci := 5) 21 [.ref 10, .int x1] [] rfl ml_X8_171 yw_X5_gather sh_62 rfl rfl (okX5_gather d _ _ _ e_8) rfl rfl (Nat.le_of_ble_eq_true rfl) <| s_aload_n 22 rfl rfl <| s_getr 23 rfl fl_X8_44 sh_0 rfl <| s_getr 24 rfl fl_X8_175 sh_62 rfl <| s_iload_n 25 rfl rfl <| s_iald (Int32.toNatClampNeg x2) 26 rfl sh_63 g_9 rfl <| s_iret 27 rfl
    · obtain ⟨q_10, e_11, e⟩ := bndS e
      obtain ⟨rfl, rfl⟩ := some2 e
      exact s_if_ne_F 10 31 rfl (by decide) (b2i_F g_6) <| s_aload_n 11 rfl rfl <| s_ldc 12 rfl wc_X8_69 <| s_callV (b := 0) (ci := 8) 13 [.int (-1000001)] [] rfl ml_X8_70 yw_X8_tellFinding sh_0 rfl rfl (okX8_tellFinding (d + 1) _ _ q_10.1 q_10.2 e_11) rfl rfl (Nat.le_of_ble_eq_true rfl) <| s_iret 14 rfl
  · obtain ⟨q_12, e_13, e⟩ := bndS e
    obtain ⟨rfl, rfl⟩ := some2 e
    exact s_if_eq_T 5 24 rfl (by decide) (b2i_F g_3) <| s_aload_n 11 rfl rfl <| s_ldc 12 rfl wc_X8_69 <| s_callV (b := 0) (ci := 8) 13 [.int (-1000001)] [] rfl ml_X8_70 yw_X8_tellFinding sh_0 rfl rfl (okX8_tellFinding (d + 1) _ _ q_12.1 q_12.2 e_13) rfl rfl (Nat.le_of_ble_eq_true rfl) <| s_iret 14 rfl
def fX9_gapOf_b14 (x1 : Int32) (x2 : Int32) (h : Sto) (c3 : Int32) (c4 : Int32) (c5 : Int32) (c6 : Int32) (c7 : Int32) : Option ((Int32 × Int32 × Int32 × Int32 × Int32) ⊕ (Int32 × Int32 × Int32)) :=
  if (h 84 2) ≤ c7 then (some (.inr (c3, c4, c5))) else ((fX9_word c7 1 h).bind fun q_2 => if q_2 = x1 then ((fX9_word c7 0 h).bind fun q_5 => (if c6 < 0 then (some (c3, c4, c5)) else (if c4 = 0 then (some ((c3 + (q_5 - c6)), (c4 + 1), (q_5 - c6))) else (if c5 ≤ (q_5 - c6) then (some ((c3 + (q_5 - c6)), (c4 + 1), c5)) else (some ((c3 + (q_5 - c6)), (c4 + 1), (q_5 - c6)))))).bind fun q_7 => (fX9_word c7 0 h).bind fun q_12 => some (.inl (q_7.1, q_7.2.1, q_7.2.2, q_12, (c7 + 1)))) else (some (.inl (c3, c4, c5, c6, (c7 + 1)))))
def fX9_gapOf (x1 : Int32) (x2 : Int32) (h : Sto) : Option Int32 :=
  (lp (fun s => fX9_gapOf_b14 x1 x2 h s.1 s.2.1 s.2.2.1 s.2.2.2.1 s.2.2.2.2) FUEL (0, 0, 0, (-1), 0)).bind fun v_22 => if ¬ v_22.2.1 = 0 then (if x2 = 0 then (grd (¬ v_22.2.1 = 0) <| some (v_22.1 / v_22.2.1)) else (some v_22.2.2)) else (some 0)
set_option maxRecDepth 100000 in
set_option maxHeartbeats 4000000 in
theorem okX9_gapOf (d : Nat) (x1 : Int32) (x2 : Int32) (h : Sto) (q : Int32) (e : fX9_gapOf x1 x2 h = some q) : Ok yX9_gapOf cX9_gapOf 9 (some .int) (d + 1) [.ref 83, .int x1, .int x2] h (some (.int q)) h := by
  refine Ok_of (lst := kX9_gapOf) (own := RX9) ⟨by decide, rfl⟩ ckX9_gapOf trivial (Nat.le_of_ble_eq_true rfl) ?_
  unfold fX9_gapOf at e
  change Ev kX9_gapOf RX9 9 (d + 1) nox 0 [some (.ref 83), some (.int x1), some (.int x2), none, none, none, none, none, none] [] h (some (.int q)) h
  obtain ⟨y_14, e_15, e⟩ := bndS e
  have kx_18 : ∀ v_22 : (Int32 × Int32 × Int32), v_22 = y_14 → Ev kX9_gapOf RX9 9 (d + 1) nox 100 [none, none, some (.int x2), some (.int v_22.1), some (.int v_22.2.1), some (.int v_22.2.2), none, none, none] [] h (some (.int q)) h := by
    intro v_22 hy
    subst hy
    refine s_iload 53 rfl rfl <| ?_
    rcases iteS e with ⟨g_24, e⟩ | ⟨g_24, e⟩
    · refine s_if_ne_T 54 109 rfl (by decide) g_24 <| s_iload_n 57 rfl rfl <| ?_
      rcases iteS e with ⟨g_25, e⟩ | ⟨g_25, e⟩
      · obtain ⟨g_26, e⟩ := grdS e
        obtain rfl := Option.some.inj e
        exact s_if_eq_T 58 118 rfl (by decide) g_25 <| s_iload_n 61 rfl rfl <| s_iload 62 rfl rfl <| s_idiv 63 rfl g_26 <| s_iret 64 rfl
      · obtain rfl := Option.some.inj e
        exact s_if_eq_F 58 118 rfl (by decide) g_25 <| s_iload 59 rfl rfl <| s_goto 60 122 rfl (by decide) <| s_iret 64 rfl
    · obtain rfl := Option.some.inj e
      exact s_if_ne_F 54 109 rfl (by decide) (Decidable.not_not.mp g_24) <| s_iconst 0 55 rfl (by decide) <| s_goto 56 122 rfl (by decide) <| s_iret 64 rfl
  refine s_iconst 0 0 rfl (by decide) <| s_istore_n [some (.ref 83), some (.int x1), some (.int x2), some (.int 0), none, none, none, none, none] 1 rfl (by decide) rfl <| s_iconst 0 2 rfl (by decide) <| s_istore [some (.ref 83), some (.int x1), some (.int x2), some (.int 0), some (.int 0), none, none, none, none] 3 rfl (by decide) rfl <| s_iconst 0 4 rfl (by decide) <| s_istore [some (.ref 83), some (.int x1), some (.int x2), some (.int 0), some (.int 0), some (.int 0), none, none, none] 5 rfl (by decide) rfl <| s_iconst (-1) 6 rfl (by decide) <| s_istore [some (.ref 83), some (.int x1), some (.int x2), some (.int 0), some (.int 0), some (.int 0), some (.int (-1)), none, none] 7 rfl (by decide) rfl <| s_iconst 0 8 rfl (by decide) <| s_istore [some (.ref 83), some (.int x1), some (.int x2), some (.int 0), some (.int 0), some (.int 0), some (.int (-1)), some (.int 0), none] 9 rfl (by decide) rfl <| lpS (P := fun (s_21 : (Int32 × Int32 × Int32 × Int32 × Int32)) => Ev kX9_gapOf RX9 9 (d + 1) nox 14 [some (.ref 83), some (.int x1), some (.int x2), some (.int s_21.1), some (.int s_21.2.1), some (.int s_21.2.2.1), some (.int s_21.2.2.2.1), some (.int s_21.2.2.2.2), none] [] h (some (.int q)) h) ?_ FUEL _ e_15
  intro s_21 o_20 e hk_16 hx_17
  unfold fX9_gapOf_b14 at e
  refine s_iload 10 rfl rfl <| s_aload_n 11 rfl rfl <| s_getr 12 rfl fl_X9_9 sh_83 rfl <| s_iconst 2 13 rfl (by decide) <| s_iald 2 14 rfl sh_84 (by decide) (by decide) <| ?_
  rcases iteS e with ⟨g_27, e⟩ | ⟨g_27, e⟩
  · cases e
    exact s_icmp_ge_T 15 100 rfl (by decide) g_27 <| s_fgt [true, true, false, false, false, false, true, true] rfl <| (kx_18 (s_21.1, s_21.2.1, s_21.2.2.1) (hx_17 _ rfl))
  · obtain ⟨q_28, e_29, e⟩ := bndS e
    refine s_icmp_ge_F 15 100 rfl (by decide) g_27 <| s_aload_n 16 rfl rfl <| s_iload 17 rfl rfl <| s_iconst 1 18 rfl (by decide) <| s_callV (b := 83) (ci := 9) 19 [.int s_21.2.2.2.2, .int 1] [] rfl ml_X9_101 yw_X9_word sh_83 rfl rfl (okX9_word d _ _ _ _ e_29) rfl rfl (Nat.le_of_ble_eq_true rfl) <| s_iload_n 20 rfl rfl <| ?_
    rcases iteS e with ⟨g_30, e⟩ | ⟨g_30, e⟩
    · obtain ⟨q_31, e_32, e⟩ := bndS e
      obtain ⟨q_33, e1, e⟩ := bndS e
      have k_34 : Ev kX9_gapOf RX9 9 (d + 1) nox 85 [some (.ref 83), some (.int x1), some (.int x2), some (.int q_33.1), some (.int q_33.2.1), some (.int q_33.2.2), none, some (.int s_21.2.2.2.2), none] [] h (some (.int q)) h := by
        obtain ⟨q_38, e_39, e⟩ := bndS e
        cases e
        exact s_aload_n 46 rfl rfl <| s_iload 47 rfl rfl <| s_iconst 0 48 rfl (by decide) <| s_callV (b := 83) (ci := 9) 49 [.int s_21.2.2.2.2, .int 0] [] rfl ml_X9_101 yw_X9_word sh_83 rfl rfl (okX9_word d _ _ _ _ e_39) rfl rfl (Nat.le_of_ble_eq_true rfl) <| s_istore [some (.ref 83), some (.int x1), some (.int x2), some (.int q_33.1), some (.int q_33.2.1), some (.int q_33.2.2), some (.int q_38), some (.int s_21.2.2.2.2), none] 50 rfl (by decide) rfl <| s_iinc 1 [some (.ref 83), some (.int x1), some (.int x2), some (.int q_33.1), some (.int q_33.2.1), some (.int q_33.2.2), some (.int q_38), some (.int (s_21.2.2.2.2 + 1)), none] 51 rfl (by decide) rfl (by decide) rfl <| s_goto 52 14 rfl (by decide) <| (hk_16 (q_33.1, q_33.2.1, q_33.2.2, q_38, (s_21.2.2.2.2 + 1)) rfl)
      clear e
      have e := e1
      clear e1
      refine s_icmp_eq_T 21 39 rfl (by decide) g_30 <| s_aload_n 23 rfl rfl <| s_iload 24 rfl rfl <| s_iconst 0 25 rfl (by decide) <| s_callV (b := 83) (ci := 9) 26 [.int s_21.2.2.2.2, .int 0] [] rfl ml_X9_101 yw_X9_word sh_83 rfl rfl (okX9_word d _ _ _ _ e_32) rfl rfl (Nat.le_of_ble_eq_true rfl) <| s_iload 27 rfl rfl <| s_isub 28 rfl <| s_istore [some (.ref 83), some (.int x1), some (.int x2), some (.int s_21.1), some (.int s_21.2.1), some (.int s_21.2.2.1), some (.int s_21.2.2.2.1), some (.int s_21.2.2.2.2), some (.int (q_31 - s_21.2.2.2.1))] 29 rfl (by decide) rfl <| s_iload 30 rfl rfl <| ?_
      rcases iteS e with ⟨g_35, e⟩ | ⟨g_35, e⟩
      · cases e
        exact s_if_lt_T 31 85 rfl (by decide) g_35 <| s_fgt [false, false, false, false, false, false, true, false, true] rfl <| k_34
      · refine s_if_lt_F 31 85 rfl (by decide) g_35 <| s_iload 32 rfl rfl <| ?_
        rcases iteS e with ⟨g_36, e⟩ | ⟨g_36, e⟩
        · cases e
          exact s_if_eq_T 33 68 rfl (by decide) g_36 <| s_iload 37 rfl rfl <| s_goto 38 75 rfl (by decide) <| s_istore [some (.ref 83), some (.int x1), some (.int x2), some (.int s_21.1), some (.int s_21.2.1), some (.int (q_31 - s_21.2.2.2.1)), some (.int s_21.2.2.2.1), some (.int s_21.2.2.2.2), some (.int (q_31 - s_21.2.2.2.1))] 40 rfl (by decide) rfl <| s_iload_n 41 rfl rfl <| s_iload 42 rfl rfl <| s_iadd 43 rfl <| s_istore_n [some (.ref 83), some (.int x1), some (.int x2), some (.int (s_21.1 + (q_31 - s_21.2.2.2.1))), some (.int s_21.2.1), some (.int (q_31 - s_21.2.2.2.1)), some (.int s_21.2.2.2.1), some (.int s_21.2.2.2.2), some (.int (q_31 - s_21.2.2.2.1))] 44 rfl (by decide) rfl <| s_iinc 1 [some (.ref 83), some (.int x1), some (.int x2), some (.int (s_21.1 + (q_31 - s_21.2.2.2.1))), some (.int (s_21.2.1 + 1)), some (.int (q_31 - s_21.2.2.2.1)), some (.int s_21.2.2.2.1), some (.int s_21.2.2.2.2), some (.int (q_31 - s_21.2.2.2.1))] 45 rfl (by decide) rfl (by decide) rfl <| s_fgt [false, false, false, false, false, false, true, false, true] rfl <| k_34
        · refine s_if_eq_F 33 68 rfl (by decide) g_36 <| s_iload 34 rfl rfl <| s_iload 35 rfl rfl <| ?_
          rcases iteS e with ⟨g_37, e⟩ | ⟨g_37, e⟩
          · cases e
            exact s_icmp_ge_T 36 73 rfl (by decide) g_37 <| s_iload 39 rfl rfl <| s_istore [some (.ref 83), some (.int x1), some (.int x2), some (.int s_21.1), some (.int s_21.2.1), some (.int s_21.2.2.1), some (.int s_21.2.2.2.1), some (.int s_21.2.2.2.2), some (.int (q_31 - s_21.2.2.2.1))] 40 rfl (by decide) rfl <| s_iload_n 41 rfl rfl <| s_iload 42 rfl rfl <| s_iadd 43 rfl <| s_istore_n [some (.ref 83), some (.int x1), some (.int x2), some (.int (s_21.1 + (q_31 - s_21.2.2.2.1))), some (.int s_21.2.1), some (.int s_21.2.2.1), some (.int s_21.2.2.2.1), some (.int s_21.2.2.2.2), some (.int (q_31 - s_21.2.2.2.1))] 44 rfl (by decide) rfl <| s_iinc 1 [some (.ref 83), some (.int x1), some (.int x2), some (.int (s_21.1 + (q_31 - s_21.2.2.2.1))), some (.int (s_21.2.1 + 1)), some (.int s_21.2.2.1), some (.int s_21.2.2.2.1), some (.int s_21.2.2.2.2), some (.int (q_31 - s_21.2.2.2.1))] 45 rfl (by decide) rfl (by decide) rfl <| s_fgt [false, false, false, false, false, false, true, false, true] rfl <| k_34
          · cases e
            exact s_icmp_ge_F 36 73 rfl (by decide) g_37 <| s_iload 37 rfl rfl <| s_goto 38 75 rfl (by decide) <| s_istore [some (.ref 83), some (.int x1), some (.int x2), some (.int s_21.1), some (.int s_21.2.1), some (.int (q_31 - s_21.2.2.2.1)), some (.int s_21.2.2.2.1), some (.int s_21.2.2.2.2), some (.int (q_31 - s_21.2.2.2.1))] 40 rfl (by decide) rfl <| s_iload_n 41 rfl rfl <| s_iload 42 rfl rfl <| s_iadd 43 rfl <| s_istore_n [some (.ref 83), some (.int x1), some (.int x2), some (.int (s_21.1 + (q_31 - s_21.2.2.2.1))), some (.int s_21.2.1), some (.int (q_31 - s_21.2.2.2.1)), some (.int s_21.2.2.2.1), some (.int s_21.2.2.2.2), some (.int (q_31 - s_21.2.2.2.1))] 44 rfl (by decide) rfl <| s_iinc 1 [some (.ref 83), some (.int x1), some (.int x2), some (.int (s_21.1 + (q_31 - s_21.2.2.2.1))), some (.int (s_21.2.1 + 1)), some (.int (q_31 - s_21.2.2.2.1)), some (.int s_21.2.2.2.1), some (.int s_21.2.2.2.2), some (.int (q_31 - s_21.2.2.2.1))] 45 rfl (by decide) rfl (by decide) rfl <| s_fgt [false, false, false, false, false, false, true, false, true] rfl <| k_34
    · cases e
      exact s_icmp_eq_F 21 39 rfl (by decide) g_30 <| s_goto 22 94 rfl (by decide) <| s_iinc 1 [some (.ref 83), some (.int x1), some (.int x2), some (.int s_21.1), some (.int s_21.2.1), some (.int s_21.2.2.1), some (.int s_21.2.2.2.1), some (.int (s_21.2.2.2.2 + 1)), none] 51 rfl (by decide) rfl (by decide) rfl <| s_goto 52 14 rfl (by decide) <| (hk_16 (s_21.1, s_21.2.1, s_21.2.2.1, s_21.2.2.2.1, (s_21.2.2.2.2 + 1)) rfl)
def fX9_hoursOf_b4 (x1 : Int32) (h : Sto) (c2 : Int32) (c3 : Int32) : Option ((Int32 × Int32) ⊕ Int32) :=
  if (h 84 2) ≤ c3 then (some (.inr c2)) else ((fX9_word c3 1 h).bind fun q_2 => if ¬ q_2 = x1 then (some (.inl ((c2 ||| 0), (c3 + 1)))) else ((fX9_word c3 0 h).bind fun q_5 => (fX9_hourOf q_5 h).bind fun q_7 => some (.inl ((c2 ||| (jshl 1 q_7)), (c3 + 1)))))
def fX9_hoursOf (x1 : Int32) (h : Sto) : Option Int32 :=
  (lp (fun s => fX9_hoursOf_b4 x1 h s.1 s.2) FUEL (0, 0)).bind fun v_17 => some v_17
set_option maxRecDepth 100000 in
set_option maxHeartbeats 4000000 in
theorem okX9_hoursOf (d : Nat) (x1 : Int32) (h : Sto) (q : Int32) (e : fX9_hoursOf x1 h = some q) : Ok yX9_hoursOf cX9_hoursOf 4 (some .int) (d + 1) [.ref 83, .int x1] h (some (.int q)) h := by
  refine Ok_of (lst := kX9_hoursOf) (own := RX9) ⟨by decide, rfl⟩ ckX9_hoursOf trivial (Nat.le_of_ble_eq_true rfl) ?_
  unfold fX9_hoursOf at e
  change Ev kX9_hoursOf RX9 4 (d + 1) nox 0 [some (.ref 83), some (.int x1), none, none] [] h (some (.int q)) h
  obtain ⟨y_9, e_10, e⟩ := bndS e
  have kx_13 : ∀ v_17 : Int32, v_17 = y_9 → Ev kX9_hoursOf RX9 4 (d + 1) nox 48 [none, none, some (.int v_17), none] [] h (some (.int q)) h := by
    intro v_17 hy
    subst hy
    obtain rfl := Option.some.inj e
    exact s_iload_n 30 rfl rfl <| s_iret 31 rfl
  refine s_iconst 0 0 rfl (by decide) <| s_istore_n [some (.ref 83), some (.int x1), some (.int 0), none] 1 rfl (by decide) rfl <| s_iconst 0 2 rfl (by decide) <| s_istore_n [some (.ref 83), some (.int x1), some (.int 0), some (.int 0)] 3 rfl (by decide) rfl <| lpS (P := fun (s_16 : (Int32 × Int32)) => Ev kX9_hoursOf RX9 4 (d + 1) nox 4 [some (.ref 83), some (.int x1), some (.int s_16.1), some (.int s_16.2)] [] h (some (.int q)) h) ?_ FUEL _ e_10
  intro s_16 o_15 e hk_11 hx_12
  unfold fX9_hoursOf_b4 at e
  refine s_iload_n 4 rfl rfl <| s_aload_n 5 rfl rfl <| s_getr 6 rfl fl_X9_9 sh_83 rfl <| s_iconst 2 7 rfl (by decide) <| s_iald 2 8 rfl sh_84 (by decide) (by decide) <| ?_
  rcases iteS e with ⟨g_19, e⟩ | ⟨g_19, e⟩
  · cases e
    exact s_icmp_ge_T 9 48 rfl (by decide) g_19 <| s_fgt [true, true, false, true] rfl <| (kx_13 s_16.1 (hx_12 _ rfl))
  · obtain ⟨q_20, e_21, e⟩ := bndS e
    refine s_icmp_ge_F 9 48 rfl (by decide) g_19 <| s_iload_n 10 rfl rfl <| s_aload_n 11 rfl rfl <| s_iload_n 12 rfl rfl <| s_iconst 1 13 rfl (by decide) <| s_callV (b := 83) (ci := 9) 14 [.int s_16.2, .int 1] [.int s_16.1] rfl ml_X9_101 yw_X9_word sh_83 rfl rfl (okX9_word d _ _ _ _ e_21) rfl rfl (Nat.le_of_ble_eq_true rfl) <| s_iload_n 15 rfl rfl <| ?_
    rcases iteS e with ⟨g_22, e⟩ | ⟨g_22, e⟩
    · cases e
      exact s_icmp_ne_T 16 39 rfl (by decide) g_22 <| s_iconst 0 25 rfl (by decide) <| s_ior 26 rfl <| s_istore_n [some (.ref 83), some (.int x1), some (.int (s_16.1 ||| 0)), some (.int s_16.2)] 27 rfl (by decide) rfl <| s_iinc 1 [some (.ref 83), some (.int x1), some (.int (s_16.1 ||| 0)), some (.int (s_16.2 + 1))] 28 rfl (by decide) rfl (by decide) rfl <| s_goto 29 4 rfl (by decide) <| (hk_11 ((s_16.1 ||| 0), (s_16.2 + 1)) rfl)
    · obtain ⟨q_23, e_24, e⟩ := bndS e
      obtain ⟨q_25, e_26, e⟩ := bndS e
      cases e
      exact s_icmp_ne_F 16 39 rfl (by decide) (Decidable.not_not.mp g_22) <| s_iconst 1 17 rfl (by decide) <| s_aload_n 18 rfl rfl <| s_iload_n 19 rfl rfl <| s_iconst 0 20 rfl (by decide) <| s_callV (b := 83) (ci := 9) 21 [.int s_16.2, .int 0] [.int 1, .int s_16.1] rfl ml_X9_101 yw_X9_word sh_83 rfl rfl (okX9_word d _ _ _ _ e_24) rfl rfl (Nat.le_of_ble_eq_true rfl) <| s_callS 22 [.int q_23] [.int 1, .int s_16.1] rfl ml_X9_94 yw_X9_hourOf (okX9_hourOf d _ _ _ e_26) rfl rfl (Nat.le_of_ble_eq_true rfl) <| s_ishl 23 rfl <| s_goto 24 40 rfl (by decide) <| s_ior 26 rfl <| s_istore_n [some (.ref 83), some (.int x1), some (.int (s_16.1 ||| (jshl 1 q_25))), some (.int s_16.2)] 27 rfl (by decide) rfl <| s_iinc 1 [some (.ref 83), some (.int x1), some (.int (s_16.1 ||| (jshl 1 q_25))), some (.int (s_16.2 + 1))] 28 rfl (by decide) rfl (by decide) rfl <| s_goto 29 4 rfl (by decide) <| (hk_11 ((s_16.1 ||| (jshl 1 q_25)), (s_16.2 + 1)) rfl)
def fX9_many_b4 (x0 : Int32) (h : Sto) (c1 : Int32) (c2 : Int32) : Option ((Int32 × Int32) ⊕ Int32) :=
  if 14 ≤ c2 then (some (.inr c1)) else (some (.inl ((c1 + ((jshr x0 c2) &&& 1)), (c2 + 1))))
def fX9_many (x0 : Int32) (h : Sto) : Option Int32 :=
  (lp (fun s => fX9_many_b4 x0 h s.1 s.2) FUEL (0, 0)).bind fun v_10 => some v_10
set_option maxRecDepth 100000 in
set_option maxHeartbeats 4000000 in
theorem okX9_many (d : Nat) (x0 : Int32) (h : Sto) (q : Int32) (e : fX9_many x0 h = some q) : Ok yX9_many cX9_many 3 (some .int) d [.int x0] h (some (.int q)) h := by
  refine Ok_of (lst := kX9_many) (own := RX9) ⟨by decide, rfl⟩ ckX9_many trivial (Nat.le_of_ble_eq_true rfl) ?_
  unfold fX9_many at e
  change Ev kX9_many RX9 3 d nox 0 [some (.int x0), none, none] [] h (some (.int q)) h
  obtain ⟨y_2, e_3, e⟩ := bndS e
  have kx_6 : ∀ v_10 : Int32, v_10 = y_2 → Ev kX9_many RX9 3 d nox 24 [none, some (.int v_10), none] [] h (some (.int q)) h := by
    intro v_10 hy
    subst hy
    obtain rfl := Option.some.inj e
    exact s_iload_n 17 rfl rfl <| s_iret 18 rfl
  refine s_iconst 0 0 rfl (by decide) <| s_istore_n [some (.int x0), some (.int 0), none] 1 rfl (by decide) rfl <| s_iconst 0 2 rfl (by decide) <| s_istore_n [some (.int x0), some (.int 0), some (.int 0)] 3 rfl (by decide) rfl <| lpS (P := fun (s_9 : (Int32 × Int32)) => Ev kX9_many RX9 3 d nox 4 [some (.int x0), some (.int s_9.1), some (.int s_9.2)] [] h (some (.int q)) h) ?_ FUEL _ e_3
  intro s_9 o_8 e hk_4 hx_5
  unfold fX9_many_b4 at e
  refine s_iload_n 4 rfl rfl <| s_bipush 14 5 rfl (by decide) <| ?_
  rcases iteS e with ⟨g_12, e⟩ | ⟨g_12, e⟩
  · cases e
    exact s_icmp_ge_T 6 24 rfl (by decide) g_12 <| s_fgt [true, false, true] rfl <| (kx_6 s_9.1 (hx_5 _ rfl))
  · cases e
    exact s_icmp_ge_F 6 24 rfl (by decide) g_12 <| s_iload_n 7 rfl rfl <| s_iload_n 8 rfl rfl <| s_iload_n 9 rfl rfl <| s_ishr 10 rfl <| s_iconst 1 11 rfl (by decide) <| s_iand 12 rfl <| s_iadd 13 rfl <| s_istore_n [some (.int x0), some (.int (s_9.1 + ((jshr x0 s_9.2) &&& 1))), some (.int s_9.2)] 14 rfl (by decide) rfl <| s_iinc 1 [some (.int x0), some (.int (s_9.1 + ((jshr x0 s_9.2) &&& 1))), some (.int (s_9.2 + 1))] 15 rfl (by decide) rfl (by decide) rfl <| s_goto 16 4 rfl (by decide) <| (hk_4 ((s_9.1 + ((jshr x0 s_9.2) &&& 1)), (s_9.2 + 1)) rfl)
def fX9_followOf_b9 (x1 : Int32) (x2 : Int32) (h : Sto) (c3 : Int32) (c4 : Int32) (c5 : Int32) : Option ((Int32 × Int32 × Int32) ⊕ (Int32 × Int32)) :=
  if (h 84 2) ≤ c5 then (some (.inr (c3, c4))) else ((fX9_word c5 1 h).bind fun q_2 => (if ¬ q_2 = x1 then (some (-1)) else ((fX9_follows c5 h).bind fun q_7 => some q_7)).bind fun q_4 => if 0 ≤ q_4 then ((fX9_word c5 0 h).bind fun q_10 => (fX9_word q_4 0 h).bind fun q_12 => if c4 ≤ (q_10 - q_12) then (some (.inl ((c3 + 1), c4, (c5 + 1)))) else (some (.inl ((c3 + 1), (q_10 - q_12), (c5 + 1))))) else (some (.inl (c3, c4, (c5 + 1)))))
def fX9_followOf (x1 : Int32) (x2 : Int32) (h : Sto) : Option Int32 :=
  (lp (fun s => fX9_followOf_b9 x1 x2 h s.1 s.2.1 s.2.2) FUEL (0, 99, 0)).bind fun v_23 => if x2 = 0 then (some v_23.1) else (some v_23.2)
set_option maxRecDepth 100000 in
set_option maxHeartbeats 4000000 in
theorem okX9_followOf (d : Nat) (x1 : Int32) (x2 : Int32) (h : Sto) (q : Int32) (e : fX9_followOf x1 x2 h = some q) : Ok yX9_followOf cX9_followOf 8 (some .int) (d + 2) [.ref 83, .int x1, .int x2] h (some (.int q)) h := by
  refine Ok_of (lst := kX9_followOf) (own := RX9) ⟨by decide, rfl⟩ ckX9_followOf trivial (Nat.le_of_ble_eq_true rfl) ?_
  unfold fX9_followOf at e
  change Ev kX9_followOf RX9 8 (d + 2) nox 0 [some (.ref 83), some (.int x1), some (.int x2), none, none, none, none, none] [] h (some (.int q)) h
  obtain ⟨y_15, e_16, e⟩ := bndS e
  have kx_19 : ∀ v_23 : (Int32 × Int32), v_23 = y_15 → Ev kX9_followOf RX9 8 (d + 2) nox 93 [none, none, some (.int x2), some (.int v_23.1), some (.int v_23.2), none, none, none] [] h (some (.int q)) h := by
    intro v_23 hy
    subst hy
    refine s_iload_n 47 rfl rfl <| ?_
    rcases iteS e with ⟨g_25, e⟩ | ⟨g_25, e⟩
    · obtain rfl := Option.some.inj e
      exact s_if_eq_T 48 102 rfl (by decide) g_25 <| s_iload_n 51 rfl rfl <| s_iret 52 rfl
    · obtain rfl := Option.some.inj e
      exact s_if_eq_F 48 102 rfl (by decide) g_25 <| s_iload 49 rfl rfl <| s_goto 50 103 rfl (by decide) <| s_iret 52 rfl
  refine s_iconst 0 0 rfl (by decide) <| s_istore_n [some (.ref 83), some (.int x1), some (.int x2), some (.int 0), none, none, none, none] 1 rfl (by decide) rfl <| s_bipush 99 2 rfl (by decide) <| s_istore [some (.ref 83), some (.int x1), some (.int x2), some (.int 0), some (.int 99), none, none, none] 3 rfl (by decide) rfl <| s_iconst 0 4 rfl (by decide) <| s_istore [some (.ref 83), some (.int x1), some (.int x2), some (.int 0), some (.int 99), some (.int 0), none, none] 5 rfl (by decide) rfl <| lpS (P := fun (s_22 : (Int32 × Int32 × Int32)) => Ev kX9_followOf RX9 8 (d + 2) nox 9 [some (.ref 83), some (.int x1), some (.int x2), some (.int s_22.1), some (.int s_22.2.1), some (.int s_22.2.2), none, none] [] h (some (.int q)) h) ?_ FUEL _ e_16
  intro s_22 o_21 e hk_17 hx_18
  unfold fX9_followOf_b9 at e
  refine s_iload 6 rfl rfl <| s_aload_n 7 rfl rfl <| s_getr 8 rfl fl_X9_9 sh_83 rfl <| s_iconst 2 9 rfl (by decide) <| s_iald 2 10 rfl sh_84 (by decide) (by decide) <| ?_
  rcases iteS e with ⟨g_26, e⟩ | ⟨g_26, e⟩
  · cases e
    exact s_icmp_ge_T 11 93 rfl (by decide) g_26 <| s_fgt [true, true, false, false, false, true] rfl <| (kx_19 (s_22.1, s_22.2.1) (hx_18 _ rfl))
  · obtain ⟨q_27, e_28, e⟩ := bndS e
    obtain ⟨q_29, e1, e⟩ := bndS e
    have k_30 : Ev kX9_followOf RX9 8 (d + 2) nox 41 [some (.ref 83), some (.int x1), some (.int x2), some (.int s_22.1), some (.int s_22.2.1), some (.int s_22.2.2), none, none] [.int q_29] h (some (.int q)) h := by
      refine s_istore [some (.ref 83), some (.int x1), some (.int x2), some (.int s_22.1), some (.int s_22.2.1), some (.int s_22.2.2), some (.int q_29), none] 23 rfl (by decide) rfl <| s_iload 24 rfl rfl <| ?_
      rcases iteS e with ⟨g_34, e⟩ | ⟨g_34, e⟩
      · obtain ⟨q_35, e_36, e⟩ := bndS e
        obtain ⟨q_37, e_38, e⟩ := bndS e
        refine s_if_ge_T 25 51 rfl (by decide) g_34 <| s_iinc 1 [some (.ref 83), some (.int x1), some (.int x2), some (.int (s_22.1 + 1)), some (.int s_22.2.1), some (.int s_22.2.2), some (.int q_29), none] 27 rfl (by decide) rfl (by decide) rfl <| s_aload_n 28 rfl rfl <| s_iload 29 rfl rfl <| s_iconst 0 30 rfl (by decide) <| s_callV (b := 83) (ci := 9) 31 [.int s_22.2.2, .int 0] [] rfl ml_X9_101 yw_X9_word sh_83 rfl rfl (okX9_word (d + 1) _ _ _ _ e_36) rfl rfl (Nat.le_of_ble_eq_true rfl) <| s_aload_n 32 rfl rfl <| s_iload 33 rfl rfl <| s_iconst 0 34 rfl (by decide) <| s_callV (b := 83) (ci := 9) 35 [.int q_29, .int 0] [.int q_35] rfl ml_X9_101 yw_X9_word sh_83 rfl rfl (okX9_word (d + 1) _ _ _ _ e_38) rfl rfl (Nat.le_of_ble_eq_true rfl) <| s_isub 36 rfl <| s_istore [some (.ref 83), some (.int x1), some (.int x2), some (.int (s_22.1 + 1)), some (.int s_22.2.1), some (.int s_22.2.2), some (.int q_29), some (.int (q_35 - q_37))] 37 rfl (by decide) rfl <| s_iload 38 rfl rfl <| s_iload 39 rfl rfl <| ?_
        rcases iteS e with ⟨g_39, e⟩ | ⟨g_39, e⟩
        · cases e
          exact s_icmp_ge_T 40 83 rfl (by decide) g_39 <| s_iload 43 rfl rfl <| s_istore [some (.ref 83), some (.int x1), some (.int x2), some (.int (s_22.1 + 1)), some (.int s_22.2.1), some (.int s_22.2.2), some (.int q_29), some (.int (q_35 - q_37))] 44 rfl (by decide) rfl <| s_iinc 1 [some (.ref 83), some (.int x1), some (.int x2), some (.int (s_22.1 + 1)), some (.int s_22.2.1), some (.int (s_22.2.2 + 1)), some (.int q_29), some (.int (q_35 - q_37))] 45 rfl (by decide) rfl (by decide) rfl <| s_goto 46 9 rfl (by decide) <| s_fgt [false, false, false, false, false, false, true, true] rfl <| (hk_17 ((s_22.1 + 1), s_22.2.1, (s_22.2.2 + 1)) rfl)
        · cases e
          exact s_icmp_ge_F 40 83 rfl (by decide) g_39 <| s_iload 41 rfl rfl <| s_goto 42 85 rfl (by decide) <| s_istore [some (.ref 83), some (.int x1), some (.int x2), some (.int (s_22.1 + 1)), some (.int (q_35 - q_37)), some (.int s_22.2.2), some (.int q_29), some (.int (q_35 - q_37))] 44 rfl (by decide) rfl <| s_iinc 1 [some (.ref 83), some (.int x1), some (.int x2), some (.int (s_22.1 + 1)), some (.int (q_35 - q_37)), some (.int (s_22.2.2 + 1)), some (.int q_29), some (.int (q_35 - q_37))] 45 rfl (by decide) rfl (by decide) rfl <| s_goto 46 9 rfl (by decide) <| s_fgt [false, false, false, false, false, false, true, true] rfl <| (hk_17 ((s_22.1 + 1), (q_35 - q_37), (s_22.2.2 + 1)) rfl)
      · cases e
        exact s_if_ge_F 25 51 rfl (by decide) g_34 <| s_goto 26 87 rfl (by decide) <| s_iinc 1 [some (.ref 83), some (.int x1), some (.int x2), some (.int s_22.1), some (.int s_22.2.1), some (.int (s_22.2.2 + 1)), some (.int q_29), none] 45 rfl (by decide) rfl (by decide) rfl <| s_goto 46 9 rfl (by decide) <| s_fgt [false, false, false, false, false, false, true] rfl <| (hk_17 (s_22.1, s_22.2.1, (s_22.2.2 + 1)) rfl)
    clear e
    have e := e1
    clear e1
    refine s_icmp_ge_F 11 93 rfl (by decide) g_26 <| s_aload_n 12 rfl rfl <| s_iload 13 rfl rfl <| s_iconst 1 14 rfl (by decide) <| s_callV (b := 83) (ci := 9) 15 [.int s_22.2.2, .int 1] [] rfl ml_X9_101 yw_X9_word sh_83 rfl rfl (okX9_word (d + 1) _ _ _ _ e_28) rfl rfl (Nat.le_of_ble_eq_true rfl) <| s_iload_n 16 rfl rfl <| ?_
    rcases iteS e with ⟨g_31, e⟩ | ⟨g_31, e⟩
    · cases e
      exact s_icmp_ne_T 17 40 rfl (by decide) g_31 <| s_iconst (-1) 22 rfl (by decide) <| k_30
    · obtain ⟨q_32, e_33, e⟩ := bndS e
      cases e
      exact s_icmp_ne_F 17 40 rfl (by decide) (Decidable.not_not.mp g_31) <| s_aload_n 18 rfl rfl <| s_iload 19 rfl rfl <| s_callV (b := 83) (ci := 9) 20 [.int s_22.2.2] [] rfl ml_X9_138 yw_X9_follows sh_83 rfl rfl (okX9_follows d _ _ _ e_33) rfl rfl (Nat.le_of_ble_eq_true rfl) <| s_goto 21 41 rfl (by decide) <| k_30
def fX9_signOf_b94 (x1 : Int32) (h : Sto) (c3 : Int32) (c4 : Int32) : Option ((Int32 × Int32) ⊕ Int32) :=
  if (h 84 2) ≤ c4 then (some (.inr c3)) else ((fX9_word c4 1 h).bind fun q_36 => if ¬ q_36 = x1 then (some (.inl ((c3 ||| 0), (c4 + 1)))) else ((fX9_word c4 2 h).bind fun q_39 => some (.inl ((c3 ||| (jshl 1 q_39)), (c4 + 1)))))
def fX9_signOf (x1 : Int32) (x2 : Int32) (h : Sto) : Option Int32 :=
  if x2 < 0 ∨ 6 < x2 then (some x1) else if x2 = 0 then ((fX9_wordsOf x1 h).bind fun q_3 => some q_3) else if x2 = 1 then ((if ¬ x2 = 2 then (some false) else (some true)).bind fun q_6 => (fX9_gapOf x1 (b2i q_6) h).bind fun q_9 => some q_9) else if x2 = 2 then ((if ¬ x2 = 2 then (some false) else (some true)).bind fun q_12 => (fX9_gapOf x1 (b2i q_12) h).bind fun q_15 => some q_15) else if x2 = 3 then ((fX9_hoursOf x1 h).bind fun q_18 => (fX9_many q_18 h).bind fun q_20 => some q_20) else if x2 = 4 then ((if ¬ x2 = 5 then (some false) else (some true)).bind fun q_23 => (fX9_followOf x1 (b2i q_23) h).bind fun q_26 => some q_26) else if x2 = 5 then ((if ¬ x2 = 5 then (some false) else (some true)).bind fun q_29 => (fX9_followOf x1 (b2i q_29) h).bind fun q_32 => some q_32) else if x2 = 6 then ((lp (fun s => fX9_signOf_b94 x1 h s.1 s.2) FUEL (0, 0)).bind fun v_49 => (fX9_many v_49 h).bind fun q_51 => some q_51) else none
set_option maxRecDepth 100000 in
set_option maxHeartbeats 4000000 in
theorem okX9_signOf (d : Nat) (x1 : Int32) (x2 : Int32) (h : Sto) (q : Int32) (e : fX9_signOf x1 x2 h = some q) : Ok yX9_signOf cX9_signOf 5 (some .int) (d + 3) [.ref 83, .int x1, .int x2] h (some (.int q)) h := by
  refine Ok_of (lst := kX9_signOf) (own := RX9) ⟨by decide, rfl⟩ ckX9_signOf trivial (Nat.le_of_ble_eq_true rfl) ?_
  unfold fX9_signOf at e
  change Ev kX9_signOf RX9 5 (d + 3) nox 0 [some (.ref 83), some (.int x1), some (.int x2), none, none] [] h (some (.int q)) h
  refine s_iconst 0 0 rfl (by decide) <| s_istore_n [some (.ref 83), some (.int x1), some (.int x2), some (.int 0), none] 1 rfl (by decide) rfl <| s_iload_n 2 rfl rfl <| ?_
  rcases iteS e with ⟨g_1, e⟩ | ⟨g_1, e⟩
  · obtain rfl := Option.some.inj e
    exact s_swOut 0 6 3 143 rfl g_1 (by decide) <| s_iload_n 63 rfl rfl <| s_iret 64 rfl
  rcases iteS e with ⟨g_2, e⟩ | ⟨g_2, e⟩
  · obtain ⟨q_3, e_4, e⟩ := bndS e
    obtain rfl := Option.some.inj e
    exact s_swIn (off := 41) 0 3 44 rfl g_2 (by decide) <| s_aload_n 4 rfl rfl <| s_iload_n 5 rfl rfl <| s_callV (b := 83) (ci := 9) 6 [.int x1] [] rfl ml_X9_123 yw_X9_wordsOf sh_83 rfl rfl (okX9_wordsOf (d + 1) _ _ _ e_4) rfl rfl (Nat.le_of_ble_eq_true rfl) <| s_iret 7 rfl
  rcases iteS e with ⟨g_5, e⟩ | ⟨g_5, e⟩
  · obtain ⟨q_6, e1, e⟩ := bndS e
    have k_7 : Ev kX9_signOf RX9 5 (d + 3) nox 62 [none, none, none, none, none] [.int (b2i q_6), .int x1, .ref 83] h (some (.int q)) h := by
      obtain ⟨q_9, e_10, e⟩ := bndS e
      obtain rfl := Option.some.inj e
      exact s_callV (b := 83) (ci := 9) 16 [.int x1, .int (b2i q_6)] [] rfl ml_X9_141 yw_X9_gapOf sh_83 rfl rfl (okX9_gapOf (d + 1) _ _ _ _ e_10) rfl rfl (Nat.le_of_ble_eq_true rfl) <| s_iret 17 rfl
    clear e
    have e := e1
    clear e1
    refine s_swIn (off := 47) 1 3 50 rfl g_5 (by decide) <| s_aload_n 8 rfl rfl <| s_iload_n 9 rfl rfl <| s_iload_n 10 rfl rfl <| s_iconst 2 11 rfl (by decide) <| ?_
    rcases iteS e with ⟨g_8, e⟩ | ⟨g_8, e⟩
    · cases e
      exact s_icmp_ne_T 12 61 rfl (by decide) g_8 <| s_iconst 0 15 rfl (by decide) <| s_fgt [true, true, true, true] rfl <| k_7
    · cases e
      exact s_icmp_ne_F 12 61 rfl (by decide) (Decidable.not_not.mp g_8) <| s_iconst 1 13 rfl (by decide) <| s_goto 14 62 rfl (by decide) <| s_fgt [true, true, true, true] rfl <| k_7
  rcases iteS e with ⟨g_11, e⟩ | ⟨g_11, e⟩
  · obtain ⟨q_12, e1, e⟩ := bndS e
    have k_13 : Ev kX9_signOf RX9 5 (d + 3) nox 62 [none, none, none, none, none] [.int (b2i q_12), .int x1, .ref 83] h (some (.int q)) h := by
      obtain ⟨q_15, e_16, e⟩ := bndS e
      obtain rfl := Option.some.inj e
      exact s_callV (b := 83) (ci := 9) 16 [.int x1, .int (b2i q_12)] [] rfl ml_X9_141 yw_X9_gapOf sh_83 rfl rfl (okX9_gapOf (d + 1) _ _ _ _ e_16) rfl rfl (Nat.le_of_ble_eq_true rfl) <| s_iret 17 rfl
    clear e
    have e := e1
    clear e1
    refine s_swIn (off := 47) 2 3 50 rfl g_11 (by decide) <| s_aload_n 8 rfl rfl <| s_iload_n 9 rfl rfl <| s_iload_n 10 rfl rfl <| s_iconst 2 11 rfl (by decide) <| ?_
    rcases iteS e with ⟨g_14, e⟩ | ⟨g_14, e⟩
    · cases e
      exact s_icmp_ne_T 12 61 rfl (by decide) g_14 <| s_iconst 0 15 rfl (by decide) <| s_fgt [true, true, true, true] rfl <| k_13
    · cases e
      exact s_icmp_ne_F 12 61 rfl (by decide) (Decidable.not_not.mp g_14) <| s_iconst 1 13 rfl (by decide) <| s_goto 14 62 rfl (by decide) <| s_fgt [true, true, true, true] rfl <| k_13
  rcases iteS e with ⟨g_17, e⟩ | ⟨g_17, e⟩
  · obtain ⟨q_18, e_19, e⟩ := bndS e
    obtain ⟨q_20, e_21, e⟩ := bndS e
    obtain rfl := Option.some.inj e
    exact s_swIn (off := 63) 3 3 66 rfl g_17 (by decide) <| s_aload_n 18 rfl rfl <| s_iload_n 19 rfl rfl <| s_callV (b := 83) (ci := 9) 20 [.int x1] [] rfl ml_X9_145 yw_X9_hoursOf sh_83 rfl rfl (okX9_hoursOf (d + 1) _ _ _ e_19) rfl rfl (Nat.le_of_ble_eq_true rfl) <| s_callS 21 [.int q_18] [] rfl ml_X9_148 yw_X9_many (okX9_many (d + 2) _ _ _ e_21) rfl rfl (Nat.le_of_ble_eq_true rfl) <| s_iret 22 rfl
  rcases iteS e with ⟨g_22, e⟩ | ⟨g_22, e⟩
  · obtain ⟨q_23, e1, e⟩ := bndS e
    have k_24 : Ev kX9_signOf RX9 5 (d + 3) nox 87 [none, none, none, none, none] [.int (b2i q_23), .int x1, .ref 83] h (some (.int q)) h := by
      obtain ⟨q_26, e_27, e⟩ := bndS e
      obtain rfl := Option.some.inj e
      exact s_callV (b := 83) (ci := 9) 31 [.int x1, .int (b2i q_23)] [] rfl ml_X9_151 yw_X9_followOf sh_83 rfl rfl (okX9_followOf d _ _ _ _ e_27) rfl rfl (Nat.le_of_ble_eq_true rfl) <| s_iret 32 rfl
    clear e
    have e := e1
    clear e1
    refine s_swIn (off := 72) 4 3 75 rfl g_22 (by decide) <| s_aload_n 23 rfl rfl <| s_iload_n 24 rfl rfl <| s_iload_n 25 rfl rfl <| s_iconst 5 26 rfl (by decide) <| ?_
    rcases iteS e with ⟨g_25, e⟩ | ⟨g_25, e⟩
    · cases e
      exact s_icmp_ne_T 27 86 rfl (by decide) g_25 <| s_iconst 0 30 rfl (by decide) <| s_fgt [true, true, true, true] rfl <| k_24
    · cases e
      exact s_icmp_ne_F 27 86 rfl (by decide) (Decidable.not_not.mp g_25) <| s_iconst 1 28 rfl (by decide) <| s_goto 29 87 rfl (by decide) <| s_fgt [true, true, true, true] rfl <| k_24
  rcases iteS e with ⟨g_28, e⟩ | ⟨g_28, e⟩
  · obtain ⟨q_29, e1, e⟩ := bndS e
    have k_30 : Ev kX9_signOf RX9 5 (d + 3) nox 87 [none, none, none, none, none] [.int (b2i q_29), .int x1, .ref 83] h (some (.int q)) h := by
      obtain ⟨q_32, e_33, e⟩ := bndS e
      obtain rfl := Option.some.inj e
      exact s_callV (b := 83) (ci := 9) 31 [.int x1, .int (b2i q_29)] [] rfl ml_X9_151 yw_X9_followOf sh_83 rfl rfl (okX9_followOf d _ _ _ _ e_33) rfl rfl (Nat.le_of_ble_eq_true rfl) <| s_iret 32 rfl
    clear e
    have e := e1
    clear e1
    refine s_swIn (off := 72) 5 3 75 rfl g_28 (by decide) <| s_aload_n 23 rfl rfl <| s_iload_n 24 rfl rfl <| s_iload_n 25 rfl rfl <| s_iconst 5 26 rfl (by decide) <| ?_
    rcases iteS e with ⟨g_31, e⟩ | ⟨g_31, e⟩
    · cases e
      exact s_icmp_ne_T 27 86 rfl (by decide) g_31 <| s_iconst 0 30 rfl (by decide) <| s_fgt [true, true, true, true] rfl <| k_30
    · cases e
      exact s_icmp_ne_F 27 86 rfl (by decide) (Decidable.not_not.mp g_31) <| s_iconst 1 28 rfl (by decide) <| s_goto 29 87 rfl (by decide) <| s_fgt [true, true, true, true] rfl <| k_30
  rcases iteS e with ⟨g_34, e⟩ | ⟨g_34, e⟩
  · obtain ⟨y_41, e_42, e⟩ := bndS e
    have kx_45 : ∀ v_49 : Int32, v_49 = y_41 → Ev kX9_signOf RX9 5 (d + 3) nox 138 [none, none, none, some (.int v_49), none] [] h (some (.int q)) h := by
      intro v_49 hy
      subst hy
      obtain ⟨q_51, e_52, e⟩ := bndS e
      obtain rfl := Option.some.inj e
      exact s_iload_n 60 rfl rfl <| s_callS 61 [.int v_49] [] rfl ml_X9_148 yw_X9_many (okX9_many (d + 2) _ _ _ e_52) rfl rfl (Nat.le_of_ble_eq_true rfl) <| s_iret 62 rfl
    refine s_swIn (off := 88) 6 3 91 rfl g_34 (by decide) <| s_iconst 0 33 rfl (by decide) <| s_istore [some (.ref 83), some (.int x1), some (.int x2), some (.int 0), some (.int 0)] 34 rfl (by decide) rfl <| s_fgt [false, false, true] rfl <| lpS (P := fun (s_48 : (Int32 × Int32)) => Ev kX9_signOf RX9 5 (d + 3) nox 94 [some (.ref 83), some (.int x1), none, some (.int s_48.1), some (.int s_48.2)] [] h (some (.int q)) h) ?_ FUEL _ e_42
    intro s_48 o_47 e hk_43 hx_44
    unfold fX9_signOf_b94 at e
    refine s_iload 35 rfl rfl <| s_aload_n 36 rfl rfl <| s_getr 37 rfl fl_X9_9 sh_83 rfl <| s_iconst 2 38 rfl (by decide) <| s_iald 2 39 rfl sh_84 (by decide) (by decide) <| ?_
    rcases iteS e with ⟨g_53, e⟩ | ⟨g_53, e⟩
    · cases e
      exact s_icmp_ge_T 40 138 rfl (by decide) g_53 <| s_fgt [true, true, false, false, true] rfl <| (kx_45 s_48.1 (hx_44 _ rfl))
    · obtain ⟨q_54, e_55, e⟩ := bndS e
      refine s_icmp_ge_F 40 138 rfl (by decide) g_53 <| s_iload_n 41 rfl rfl <| s_aload_n 42 rfl rfl <| s_iload 43 rfl rfl <| s_iconst 1 44 rfl (by decide) <| s_callV (b := 83) (ci := 9) 45 [.int s_48.2, .int 1] [.int s_48.1] rfl ml_X9_101 yw_X9_word sh_83 rfl rfl (okX9_word (d + 2) _ _ _ _ e_55) rfl rfl (Nat.le_of_ble_eq_true rfl) <| s_iload_n 46 rfl rfl <| ?_
      rcases iteS e with ⟨g_56, e⟩ | ⟨g_56, e⟩
      · cases e
        exact s_icmp_ne_T 47 129 rfl (by decide) g_56 <| s_iconst 0 55 rfl (by decide) <| s_ior 56 rfl <| s_istore_n [some (.ref 83), some (.int x1), none, some (.int (s_48.1 ||| 0)), some (.int s_48.2)] 57 rfl (by decide) rfl <| s_iinc 1 [some (.ref 83), some (.int x1), none, some (.int (s_48.1 ||| 0)), some (.int (s_48.2 + 1))] 58 rfl (by decide) rfl (by decide) rfl <| s_goto 59 94 rfl (by decide) <| (hk_43 ((s_48.1 ||| 0), (s_48.2 + 1)) rfl)
      · obtain ⟨q_57, e_58, e⟩ := bndS e
        cases e
        exact s_icmp_ne_F 47 129 rfl (by decide) (Decidable.not_not.mp g_56) <| s_iconst 1 48 rfl (by decide) <| s_aload_n 49 rfl rfl <| s_iload 50 rfl rfl <| s_iconst 2 51 rfl (by decide) <| s_callV (b := 83) (ci := 9) 52 [.int s_48.2, .int 2] [.int 1, .int s_48.1] rfl ml_X9_101 yw_X9_word sh_83 rfl rfl (okX9_word (d + 2) _ _ _ _ e_58) rfl rfl (Nat.le_of_ble_eq_true rfl) <| s_ishl 53 rfl <| s_goto 54 130 rfl (by decide) <| s_ior 56 rfl <| s_istore_n [some (.ref 83), some (.int x1), none, some (.int (s_48.1 ||| (jshl 1 q_57))), some (.int s_48.2)] 57 rfl (by decide) rfl <| s_iinc 1 [some (.ref 83), some (.int x1), none, some (.int (s_48.1 ||| (jshl 1 q_57))), some (.int (s_48.2 + 1))] 58 rfl (by decide) rfl (by decide) rfl <| s_goto 59 94 rfl (by decide) <| (hk_43 ((s_48.1 ||| (jshl 1 q_57)), (s_48.2 + 1)) rfl)
  cases e
def fX9_sign (x1 : Int32) (x2 : Int32) (h : Sto) : Option (Int32 × Sto) :=
  (fX9_isName x1 h).bind fun q_1 => if q_1 = true then ((fX9_in x2.toInt64 0 6 h).bind fun q_4 => if q_4 = true then ((fX9_signOf x1 x2 h).bind fun q_7 => some (q_7, h)) else ((fX9_finds (-1000001) h).bind fun q_9 => some (q_9.1, q_9.2))) else ((fX9_finds (-1000001) h).bind fun q_11 => some (q_11.1, q_11.2))
set_option maxRecDepth 100000 in
set_option maxHeartbeats 4000000 in
theorem okX9_sign (d : Nat) (x1 : Int32) (x2 : Int32) (h : Sto) (qv : Int32) (qh : Sto) (e : fX9_sign x1 x2 h = some (qv, qh)) : Ok yX9_sign cX9_sign 3 (some .int) (d + 4) [.ref 83, .int x1, .int x2] h (some (.int qv)) qh := by
  refine Ok_of (lst := kX9_sign) (own := RX9) ⟨by decide, rfl⟩ ckX9_sign trivial (Nat.le_of_ble_eq_true rfl) ?_
  unfold fX9_sign at e
  change Ev kX9_sign RX9 3 (d + 4) nox 0 [some (.ref 83), some (.int x1), some (.int x2)] [] h (some (.int qv)) qh
  obtain ⟨q_1, e_2, e⟩ := bndS e
  refine s_aload_n 0 rfl rfl <| s_iload_n 1 rfl rfl <| s_callV (b := 83) (ci := 9) 2 [.int x1] [] rfl ml_X9_73 yw_X9_isName sh_83 rfl rfl (okX9_isName (d + 2) _ _ _ e_2) rfl rfl (Nat.le_of_ble_eq_true rfl) <| ?_
  rcases iteS e with ⟨g_3, e⟩ | ⟨g_3, e⟩
  · obtain ⟨q_4, e_5, e⟩ := bndS e
    refine s_if_eq_F 3 29 rfl (by decide) (b2i_T g_3) <| s_iload_n 4 rfl rfl <| s_i2l 5 rfl <| s_lconst 0 6 rfl (by decide) <| s_ldc2_w 7 rfl wc_X9_154 <| s_callS 8 [.long x2.toInt64, .long 0, .long 6] [] rfl ml_X9_48 yw_X9_in (okX9_in (d + 3) _ _ _ _ _ e_5) rfl rfl (Nat.le_of_ble_eq_true rfl) <| ?_
    rcases iteS e with ⟨g_6, e⟩ | ⟨g_6, e⟩
    · obtain ⟨q_7, e_8, e⟩ := bndS e
      obtain ⟨rfl, rfl⟩ := some2 e
      exact s_if_eq_F 9 29 rfl (by decide) (b2i_T g_6) <| s_aload_n 10 rfl rfl <| s_iload_n 11 rfl rfl <| s_iload_n 12 rfl rfl <| s_callV (b := 83) (ci := 9) 13 [.int x1, .int x2] [] rfl ml_X9_156 yw_X9_signOf sh_83 rfl rfl (okX9_signOf d _ _ _ _ e_8) rfl rfl (Nat.le_of_ble_eq_true rfl) <| s_goto 14 35 rfl (by decide) <| s_iret 18 rfl
    · obtain ⟨q_9, e_10, e⟩ := bndS e
      obtain ⟨rfl, rfl⟩ := some2 e
      exact s_if_eq_T 9 29 rfl (by decide) (b2i_F g_6) <| s_aload_n 15 rfl rfl <| s_ldc 16 rfl wc_X9_47 <| s_callV (b := 83) (ci := 9) 17 [.int (-1000001)] [] rfl ml_X9_64 yw_X9_finds sh_83 rfl rfl (okX9_finds (d + 3) _ _ q_9.1 q_9.2 e_10) rfl rfl (Nat.le_of_ble_eq_true rfl) <| s_iret 18 rfl
  · obtain ⟨q_11, e_12, e⟩ := bndS e
    obtain ⟨rfl, rfl⟩ := some2 e
    exact s_if_eq_T 3 29 rfl (by decide) (b2i_F g_3) <| s_aload_n 15 rfl rfl <| s_ldc 16 rfl wc_X9_47 <| s_callV (b := 83) (ci := 9) 17 [.int (-1000001)] [] rfl ml_X9_64 yw_X9_finds sh_83 rfl rfl (okX9_finds (d + 3) _ _ q_11.1 q_11.2 e_12) rfl rfl (Nat.le_of_ble_eq_true rfl) <| s_iret 18 rfl
def fX8_hours (x1 : Int32) (h : Sto) : Option (Int32 × Sto) :=
  (fX1_has x1 h).bind fun q_1 => if q_1 = true then ((fX0_hourSet x1 h).bind fun q_4 => some (q_4, h)) else ((fX8_tellFinding (-1000001) h).bind fun q_6 => some (q_6.1, q_6.2))
set_option maxRecDepth 100000 in
set_option maxHeartbeats 4000000 in
theorem okX8_hours (d : Nat) (x1 : Int32) (h : Sto) (qv : Int32) (qh : Sto) (e : fX8_hours x1 h = some (qv, qh)) : Ok yX8_hours cX8_hours 2 (some .int) (d + 2) [.ref 0, .int x1] h (some (.int qv)) qh := by
  refine Ok_of (lst := kX8_hours) (own := RX8) ⟨by decide, rfl⟩ ckX8_hours trivial (Nat.le_of_ble_eq_true rfl) ?_
  unfold fX8_hours at e
  change Ev kX8_hours RX8 2 (d + 2) nox 0 [some (.ref 0), some (.int x1)] [] h (some (.int qv)) qh
  obtain ⟨q_1, e_2, e⟩ := bndS e
  refine s_aload_n 0 rfl rfl <| s_getr 1 rfl fl_X8_12 sh_0 rfl <| s_getr 2 rfl fl_X8_74 sh_1 rfl <| s_iload_n 3 rfl rfl <| s_callV (b := 2) (ci := 1) 4 [.int x1] [] rfl ml_X8_88 yw_X1_has sh_2 rfl rfl (okX1_has d _ _ _ e_2) rfl rfl (Nat.le_of_ble_eq_true rfl) <| ?_
  rcases iteS e with ⟨g_3, e⟩ | ⟨g_3, e⟩
  · obtain ⟨q_4, e_5, e⟩ := bndS e
    obtain ⟨rfl, rfl⟩ := some2 e
    exact s_if_ne_T 5 21 rfl (by decide) (b2i_T g_3) <| s_aload_n 10 rfl rfl <| s_getr 11 rfl fl_X8_12 sh_0 rfl <| s_getr 12 rfl fl_X8_134 sh_1 rfl <| s_iload_n 13 rfl rfl <| s_callV (b := 10) (ci := 0) 14 [.int x1] [] rfl ml_X8_178 yw_X0_hourSet sh_10 rfl rfl (okX0_hourSet d _ _ _ e_5) rfl rfl (Nat.le_of_ble_eq_true rfl) <| s_iret 15 rfl
  · obtain ⟨q_6, e_7, e⟩ := bndS e
    obtain ⟨rfl, rfl⟩ := some2 e
    exact s_if_ne_F 5 21 rfl (by decide) (b2i_F g_3) <| s_aload_n 6 rfl rfl <| s_ldc 7 rfl wc_X8_69 <| s_callV (b := 0) (ci := 8) 8 [.int (-1000001)] [] rfl ml_X8_70 yw_X8_tellFinding sh_0 rfl rfl (okX8_tellFinding d _ _ q_6.1 q_6.2 e_7) rfl rfl (Nat.le_of_ble_eq_true rfl) <| s_iret 9 rfl
def fX9_hours (x1 : Int32) (h : Sto) : Option (Int32 × Sto) :=
  (fX9_isName x1 h).bind fun q_1 => if q_1 = true then ((fX9_hoursOf x1 h).bind fun q_4 => some (q_4, h)) else ((fX9_finds (-1000001) h).bind fun q_6 => some (q_6.1, q_6.2))
set_option maxRecDepth 100000 in
set_option maxHeartbeats 4000000 in
theorem okX9_hours (d : Nat) (x1 : Int32) (h : Sto) (qv : Int32) (qh : Sto) (e : fX9_hours x1 h = some (qv, qh)) : Ok yX9_hours cX9_hours 2 (some .int) (d + 2) [.ref 83, .int x1] h (some (.int qv)) qh := by
  refine Ok_of (lst := kX9_hours) (own := RX9) ⟨by decide, rfl⟩ ckX9_hours trivial (Nat.le_of_ble_eq_true rfl) ?_
  unfold fX9_hours at e
  change Ev kX9_hours RX9 2 (d + 2) nox 0 [some (.ref 83), some (.int x1)] [] h (some (.int qv)) qh
  obtain ⟨q_1, e_2, e⟩ := bndS e
  refine s_aload_n 0 rfl rfl <| s_iload_n 1 rfl rfl <| s_callV (b := 83) (ci := 9) 2 [.int x1] [] rfl ml_X9_73 yw_X9_isName sh_83 rfl rfl (okX9_isName d _ _ _ e_2) rfl rfl (Nat.le_of_ble_eq_true rfl) <| ?_
  rcases iteS e with ⟨g_3, e⟩ | ⟨g_3, e⟩
  · obtain ⟨q_4, e_5, e⟩ := bndS e
    obtain ⟨rfl, rfl⟩ := some2 e
    exact s_if_eq_F 3 16 rfl (by decide) (b2i_T g_3) <| s_aload_n 4 rfl rfl <| s_iload_n 5 rfl rfl <| s_callV (b := 83) (ci := 9) 6 [.int x1] [] rfl ml_X9_145 yw_X9_hoursOf sh_83 rfl rfl (okX9_hoursOf d _ _ _ e_5) rfl rfl (Nat.le_of_ble_eq_true rfl) <| s_goto 7 22 rfl (by decide) <| s_iret 11 rfl
  · obtain ⟨q_6, e_7, e⟩ := bndS e
    obtain ⟨rfl, rfl⟩ := some2 e
    exact s_if_eq_T 3 16 rfl (by decide) (b2i_F g_3) <| s_aload_n 8 rfl rfl <| s_ldc 9 rfl wc_X9_47 <| s_callV (b := 83) (ci := 9) 10 [.int (-1000001)] [] rfl ml_X9_64 yw_X9_finds sh_83 rfl rfl (okX9_finds (d + 1) _ _ q_6.1 q_6.2 e_7) rfl rfl (Nat.le_of_ble_eq_true rfl) <| s_iret 11 rfl
def fX8_feed_b38 (x1 : Int32) (c3 : Int32) (h : Sto) : Option ((Int32 × Sto) ⊕ Sto) :=
  if c3 < 0 then (some (.inr h)) else (grd (inb (h 0 4) 80) <| (some (su h 51 (Int32.toNatClampNeg (h 0 4)) ((jush x1 (8 * c3)) &&& 255))).bind fun h_7 => (some (su h_7 0 4 ((h_7 0 4) + 1))).bind fun h_8 => some (.inl ((c3 + (-1)), h_8)))
def fX8_feed (x1 : Int32) (x2 : Int32) (h : Sto) : Option (Int32 × Sto) :=
  (fX8_isWithin x2 1 4 h).bind fun q_1 => if q_1 = true then (if ((h 0 4) + x2) ≤ 80 then ((lp (fun s => fX8_feed_b38 x1 s.1 s.2) FUEL ((x2 - 1), h)).bind fun v_17 => some ((v_17 0 4), v_17)) else ((fX8_tellFinding (-1000002) h).bind fun q_23 => some (q_23.1, q_23.2))) else ((fX8_tellFinding (-1000001) h).bind fun q_25 => some (q_25.1, q_25.2))
set_option maxRecDepth 100000 in
set_option maxHeartbeats 4000000 in
theorem okX8_feed (d : Nat) (x1 : Int32) (x2 : Int32) (h : Sto) (qv : Int32) (qh : Sto) (e : fX8_feed x1 x2 h = some (qv, qh)) : Ok yX8_feed cX8_feed 4 (some .int) (d + 2) [.ref 0, .int x1, .int x2] h (some (.int qv)) qh := by
  refine Ok_of (lst := kX8_feed) (own := RX8) ⟨by decide, rfl⟩ ckX8_feed trivial (Nat.le_of_ble_eq_true rfl) ?_
  unfold fX8_feed at e
  change Ev kX8_feed RX8 4 (d + 2) nox 0 [some (.ref 0), some (.int x1), some (.int x2), none] [] h (some (.int qv)) qh
  obtain ⟨q_1, e_2, e⟩ := bndS e
  refine s_iload_n 0 rfl rfl <| s_iconst 1 1 rfl (by decide) <| s_iconst 4 2 rfl (by decide) <| s_callS 3 [.int x2, .int 1, .int 4] [] rfl ml_X8_65 yw_X8_isWithin (okX8_isWithin (d + 1) _ _ _ _ _ e_2) rfl rfl (Nat.le_of_ble_eq_true rfl) <| ?_
  rcases iteS e with ⟨g_3, e⟩ | ⟨g_3, e⟩
  · refine s_if_ne_T 4 16 rfl (by decide) (b2i_T g_3) <| s_aload_n 9 rfl rfl <| s_geti 10 rfl fl_X8_27 sh_0 rfl <| s_iload_n 11 rfl rfl <| s_iadd 12 rfl <| s_bipush 80 13 rfl (by decide) <| ?_
    rcases iteS e with ⟨g_4, e⟩ | ⟨g_4, e⟩
    · obtain ⟨y_9, e_10, e⟩ := bndS e
      have kx_13 : ∀ v_17 : Sto, v_17 = y_9 → Ev kX8_feed RX8 4 (d + 2) nox 77 [some (.ref 0), none, none, none] [] v_17 (some (.int qv)) qh := by
        intro v_17 hy
        subst hy
        obtain ⟨rfl, rfl⟩ := some2 e
        exact s_aload_n 45 rfl rfl <| s_geti 46 rfl fl_X8_27 sh_0 rfl <| s_iret 47 rfl
      refine s_icmp_le_T 14 34 rfl (by decide) g_4 <| s_iload_n 19 rfl rfl <| s_iconst 1 20 rfl (by decide) <| s_isub 21 rfl <| s_istore_n [some (.ref 0), some (.int x1), some (.int x2), some (.int (x2 - 1))] 22 rfl (by decide) rfl <| s_fgt [false, false, true] rfl <| lpS (P := fun (s_16 : (Int32 × Sto)) => Ev kX8_feed RX8 4 (d + 2) nox 38 [some (.ref 0), some (.int x1), none, some (.int s_16.1)] [] s_16.2 (some (.int qv)) qh) ?_ FUEL _ e_10
      intro s_16 o_15 e hk_11 hx_12
      unfold fX8_feed_b38 at e
      refine s_iload_n 23 rfl rfl <| ?_
      rcases iteS e with ⟨g_19, e⟩ | ⟨g_19, e⟩
      · cases e
        exact s_if_lt_T 24 77 rfl (by decide) g_19 <| s_fgt [false, true, false, true] rfl <| (kx_13 s_16.2 (hx_12 _ rfl))
      · obtain ⟨g_20, e⟩ := grdS e
        obtain ⟨h_21, eh_21, e⟩ := bndS e
        obtain ⟨h_22, eh_22, e⟩ := bndS e
        cases e
        exact s_if_lt_F 24 77 rfl (by decide) g_19 <| s_aload_n 25 rfl rfl <| s_getr 26 rfl fl_X8_23 sh_0 rfl <| s_aload_n 27 rfl rfl <| s_geti 28 rfl fl_X8_27 sh_0 rfl <| s_iload_n 29 rfl rfl <| s_bipush 8 30 rfl (by decide) <| s_iload_n 31 rfl rfl <| s_imul 32 rfl <| s_iushr 33 rfl <| s_sipush 255 34 rfl (by decide) <| s_iand 35 rfl <| s_iast (Int32.toNatClampNeg (s_16.2 0 4)) 36 rfl sh_51 g_20 rfl <| s_nmH (Option.some.inj eh_21) <| s_aload_n 37 rfl rfl <| s_dup 38 rfl rfl <| s_geti 39 rfl fl_X8_27 sh_0 rfl <| s_iconst 1 40 rfl (by decide) <| s_iadd 41 rfl <| s_puti 42 rfl fl_X8_27 sh_0 rfl <| s_nmH (Option.some.inj eh_22) <| s_iinc (-1) [some (.ref 0), some (.int x1), none, some (.int (s_16.1 + (-1)))] 43 rfl (by decide) rfl (by decide) rfl <| s_goto 44 38 rfl (by decide) <| (hk_11 ((s_16.1 + (-1)), h_22) rfl)
    · obtain ⟨q_23, e_24, e⟩ := bndS e
      obtain ⟨rfl, rfl⟩ := some2 e
      exact s_icmp_le_F 14 34 rfl (by decide) g_4 <| s_aload_n 15 rfl rfl <| s_ldc 16 rfl wc_X8_83 <| s_callV (b := 0) (ci := 8) 17 [.int (-1000002)] [] rfl ml_X8_70 yw_X8_tellFinding sh_0 rfl rfl (okX8_tellFinding d _ _ q_23.1 q_23.2 e_24) rfl rfl (Nat.le_of_ble_eq_true rfl) <| s_iret 18 rfl
  · obtain ⟨q_25, e_26, e⟩ := bndS e
    obtain ⟨rfl, rfl⟩ := some2 e
    exact s_if_ne_F 4 16 rfl (by decide) (b2i_F g_3) <| s_aload_n 5 rfl rfl <| s_ldc 6 rfl wc_X8_69 <| s_callV (b := 0) (ci := 8) 7 [.int (-1000001)] [] rfl ml_X8_70 yw_X8_tellFinding sh_0 rfl rfl (okX8_tellFinding d _ _ q_25.1 q_25.2 e_26) rfl rfl (Nat.le_of_ble_eq_true rfl) <| s_iret 8 rfl
def fX9_feed_b41 (x1 : Int32) (c3 : Int32) (h : Sto) : Option ((Int32 × Sto) ⊕ Sto) :=
  if c3 < 0 then (some (.inr h)) else (grd (inb (h 83 6) 80) <| (some (su h 88 (Int32.toNatClampNeg (h 83 6)) ((jshr x1 (8 * c3)) &&& 255))).bind fun h_7 => (some (su h_7 83 6 ((h_7 83 6) + 1))).bind fun h_8 => some (.inl ((c3 + (-1)), h_8)))
def fX9_feed (x1 : Int32) (x2 : Int32) (h : Sto) : Option (Int32 × Sto) :=
  (fX9_in x2.toInt64 1 4 h).bind fun q_1 => if q_1 = true then (if ((h 83 6) + x2) ≤ 80 then ((lp (fun s => fX9_feed_b41 x1 s.1 s.2) FUEL ((x2 - 1), h)).bind fun v_17 => some ((v_17 83 6), v_17)) else ((fX9_finds (-1000002) h).bind fun q_23 => some (q_23.1, q_23.2))) else ((fX9_finds (-1000001) h).bind fun q_25 => some (q_25.1, q_25.2))
set_option maxRecDepth 100000 in
set_option maxHeartbeats 4000000 in
theorem okX9_feed (d : Nat) (x1 : Int32) (x2 : Int32) (h : Sto) (qv : Int32) (qh : Sto) (e : fX9_feed x1 x2 h = some (qv, qh)) : Ok yX9_feed cX9_feed 4 (some .int) (d + 1) [.ref 83, .int x1, .int x2] h (some (.int qv)) qh := by
  refine Ok_of (lst := kX9_feed) (own := RX9) ⟨by decide, rfl⟩ ckX9_feed trivial (Nat.le_of_ble_eq_true rfl) ?_
  unfold fX9_feed at e
  change Ev kX9_feed RX9 4 (d + 1) nox 0 [some (.ref 83), some (.int x1), some (.int x2), none] [] h (some (.int qv)) qh
  obtain ⟨q_1, e_2, e⟩ := bndS e
  refine s_iload_n 0 rfl rfl <| s_i2l 1 rfl <| s_lconst 1 2 rfl (by decide) <| s_ldc2_w 3 rfl wc_X9_159 <| s_callS 4 [.long x2.toInt64, .long 1, .long 4] [] rfl ml_X9_48 yw_X9_in (okX9_in d _ _ _ _ _ e_2) rfl rfl (Nat.le_of_ble_eq_true rfl) <| ?_
  rcases iteS e with ⟨g_3, e⟩ | ⟨g_3, e⟩
  · refine s_if_ne_T 5 19 rfl (by decide) (b2i_T g_3) <| s_aload_n 10 rfl rfl <| s_geti 11 rfl fl_X9_161 sh_83 rfl <| s_iload_n 12 rfl rfl <| s_iadd 13 rfl <| s_bipush 80 14 rfl (by decide) <| ?_
    rcases iteS e with ⟨g_4, e⟩ | ⟨g_4, e⟩
    · obtain ⟨y_9, e_10, e⟩ := bndS e
      have kx_13 : ∀ v_17 : Sto, v_17 = y_9 → Ev kX9_feed RX9 4 (d + 1) nox 80 [some (.ref 83), none, none, none] [] v_17 (some (.int qv)) qh := by
        intro v_17 hy
        subst hy
        obtain ⟨rfl, rfl⟩ := some2 e
        exact s_aload_n 46 rfl rfl <| s_geti 47 rfl fl_X9_161 sh_83 rfl <| s_iret 48 rfl
      refine s_icmp_le_T 15 37 rfl (by decide) g_4 <| s_iload_n 20 rfl rfl <| s_iconst 1 21 rfl (by decide) <| s_isub 22 rfl <| s_istore_n [some (.ref 83), some (.int x1), some (.int x2), some (.int (x2 - 1))] 23 rfl (by decide) rfl <| s_fgt [false, false, true] rfl <| lpS (P := fun (s_16 : (Int32 × Sto)) => Ev kX9_feed RX9 4 (d + 1) nox 41 [some (.ref 83), some (.int x1), none, some (.int s_16.1)] [] s_16.2 (some (.int qv)) qh) ?_ FUEL _ e_10
      intro s_16 o_15 e hk_11 hx_12
      unfold fX9_feed_b41 at e
      refine s_iload_n 24 rfl rfl <| ?_
      rcases iteS e with ⟨g_19, e⟩ | ⟨g_19, e⟩
      · cases e
        exact s_if_lt_T 25 80 rfl (by decide) g_19 <| s_fgt [false, true, false, true] rfl <| (kx_13 s_16.2 (hx_12 _ rfl))
      · obtain ⟨g_20, e⟩ := grdS e
        obtain ⟨h_21, eh_21, e⟩ := bndS e
        obtain ⟨h_22, eh_22, e⟩ := bndS e
        cases e
        exact s_if_lt_F 25 80 rfl (by decide) g_19 <| s_aload_n 26 rfl rfl <| s_getr 27 rfl fl_X9_23 sh_83 rfl <| s_aload_n 28 rfl rfl <| s_geti 29 rfl fl_X9_161 sh_83 rfl <| s_iload_n 30 rfl rfl <| s_bipush 8 31 rfl (by decide) <| s_iload_n 32 rfl rfl <| s_imul 33 rfl <| s_ishr 34 rfl <| s_sipush 255 35 rfl (by decide) <| s_iand 36 rfl <| s_iast (Int32.toNatClampNeg (s_16.2 83 6)) 37 rfl sh_88 g_20 rfl <| s_nmH (Option.some.inj eh_21) <| s_aload_n 38 rfl rfl <| s_dup 39 rfl rfl <| s_geti 40 rfl fl_X9_161 sh_83 rfl <| s_iconst 1 41 rfl (by decide) <| s_iadd 42 rfl <| s_puti 43 rfl fl_X9_161 sh_83 rfl <| s_nmH (Option.some.inj eh_22) <| s_iinc (-1) [some (.ref 83), some (.int x1), none, some (.int (s_16.1 + (-1)))] 44 rfl (by decide) rfl (by decide) rfl <| s_goto 45 41 rfl (by decide) <| (hk_11 ((s_16.1 + (-1)), h_22) rfl)
    · obtain ⟨q_23, e_24, e⟩ := bndS e
      obtain ⟨rfl, rfl⟩ := some2 e
      exact s_icmp_le_F 15 37 rfl (by decide) g_4 <| s_aload_n 16 rfl rfl <| s_ldc 17 rfl wc_X9_68 <| s_callV (b := 83) (ci := 9) 18 [.int (-1000002)] [] rfl ml_X9_64 yw_X9_finds sh_83 rfl rfl (okX9_finds d _ _ q_23.1 q_23.2 e_24) rfl rfl (Nat.le_of_ble_eq_true rfl) <| s_iret 19 rfl
  · obtain ⟨q_25, e_26, e⟩ := bndS e
    obtain ⟨rfl, rfl⟩ := some2 e
    exact s_if_ne_F 5 19 rfl (by decide) (b2i_F g_3) <| s_aload_n 6 rfl rfl <| s_ldc 7 rfl wc_X9_47 <| s_callV (b := 83) (ci := 9) 8 [.int (-1000001)] [] rfl ml_X9_64 yw_X9_finds sh_83 rfl rfl (okX9_finds d _ _ q_25.1 q_25.2 e_26) rfl rfl (Nat.le_of_ble_eq_true rfl) <| s_iret 9 rfl
def fX8_wipe (h : Sto) : Option (Int32 × Sto) :=
  (some (su h 0 4 0)).bind fun h_1 => some ((h 0 4), h_1)
set_option maxRecDepth 100000 in
set_option maxHeartbeats 4000000 in
theorem okX8_wipe (d : Nat) (h : Sto) (qv : Int32) (qh : Sto) (e : fX8_wipe h = some (qv, qh)) : Ok yX8_wipe cX8_wipe 2 (some .int) d [.ref 0] h (some (.int qv)) qh := by
  refine Ok_of (lst := kX8_wipe) (own := RX8) ⟨by decide, rfl⟩ ckX8_wipe trivial (Nat.le_of_ble_eq_true rfl) ?_
  unfold fX8_wipe at e
  change Ev kX8_wipe RX8 2 d nox 0 [some (.ref 0), none] [] h (some (.int qv)) qh
  obtain ⟨h_1, eh_1, e⟩ := bndS e
  obtain ⟨rfl, rfl⟩ := some2 e
  exact s_aload_n 0 rfl rfl <| s_geti 1 rfl fl_X8_27 sh_0 rfl <| s_istore_n [some (.ref 0), some (.int (h 0 4))] 2 rfl (by decide) rfl <| s_aload_n 3 rfl rfl <| s_iconst 0 4 rfl (by decide) <| s_puti 5 rfl fl_X8_27 sh_0 rfl <| s_nmH (Option.some.inj eh_1) <| s_iload_n 6 rfl rfl <| s_iret 7 rfl
def fX9_wipe (h : Sto) : Option (Int32 × Sto) :=
  (some (su h 83 6 0)).bind fun h_1 => some ((h 83 6), h_1)
set_option maxRecDepth 100000 in
set_option maxHeartbeats 4000000 in
theorem okX9_wipe (d : Nat) (h : Sto) (qv : Int32) (qh : Sto) (e : fX9_wipe h = some (qv, qh)) : Ok yX9_wipe cX9_wipe 2 (some .int) d [.ref 83] h (some (.int qv)) qh := by
  refine Ok_of (lst := kX9_wipe) (own := RX9) ⟨by decide, rfl⟩ ckX9_wipe trivial (Nat.le_of_ble_eq_true rfl) ?_
  unfold fX9_wipe at e
  change Ev kX9_wipe RX9 2 d nox 0 [some (.ref 83), none] [] h (some (.int qv)) qh
  obtain ⟨h_1, eh_1, e⟩ := bndS e
  obtain ⟨rfl, rfl⟩ := some2 e
  exact s_aload_n 0 rfl rfl <| s_geti 1 rfl fl_X9_161 sh_83 rfl <| s_istore_n [some (.ref 83), some (.int (h 83 6))] 2 rfl (by decide) rfl <| s_aload_n 3 rfl rfl <| s_iconst 0 4 rfl (by decide) <| s_puti 5 rfl fl_X9_161 sh_83 rfl <| s_nmH (Option.some.inj eh_1) <| s_iload_n 6 rfl rfl <| s_iret 7 rfl
def fX2_isDigit (x0 : Int32) (h : Sto) : Option Bool :=
  if x0 < 48 then (some false) else (if 57 < x0 then (some false) else (some true))
set_option maxRecDepth 100000 in
set_option maxHeartbeats 4000000 in
theorem okX2_isDigit (d : Nat) (x0 : Int32) (h : Sto) (q : Bool) (e : fX2_isDigit x0 h = some q) : Ok yX2_isDigit cX2_isDigit 1 (some .boolean) d [.int x0] h (some (.int (b2i q))) h := by
  refine Ok_of (lst := kX2_isDigit) (own := RX2) ⟨by decide, rfl⟩ ckX2_isDigit (b2i_01 _) (Nat.le_of_ble_eq_true rfl) ?_
  unfold fX2_isDigit at e
  change Ev kX2_isDigit RX2 1 d nox 0 [some (.int x0)] [] h (some (.int (b2i q))) h
  refine s_iload_n 0 rfl rfl <| s_bipush 48 1 rfl (by decide) <| ?_
  rcases iteS e with ⟨g_1, e⟩ | ⟨g_1, e⟩
  · obtain rfl := Option.some.inj e
    exact s_icmp_lt_T 2 16 rfl (by decide) g_1 <| s_iconst 0 8 rfl (by decide) <| s_iret 9 rfl
  · refine s_icmp_lt_F 2 16 rfl (by decide) g_1 <| s_iload_n 3 rfl rfl <| s_bipush 57 4 rfl (by decide) <| ?_
    rcases iteS e with ⟨g_2, e⟩ | ⟨g_2, e⟩
    · obtain rfl := Option.some.inj e
      exact s_icmp_gt_T 5 16 rfl (by decide) g_2 <| s_iconst 0 8 rfl (by decide) <| s_iret 9 rfl
    · obtain rfl := Option.some.inj e
      exact s_icmp_gt_F 5 16 rfl (by decide) g_2 <| s_iconst 1 6 rfl (by decide) <| s_goto 7 17 rfl (by decide) <| s_iret 9 rfl
def fX2_stepNumber_b2 (c1 : Int32) (h : Sto) : Option ((Int32 × Sto) ⊕ (Int32 × Sto)) :=
  if (h 64 1) ≤ (h 64 3) then (some (.inr (c1, h))) else (grd (¬ h 64 0 = 0) <| grd (shp ((h 64 0).toNatClampNeg) = (0, 80, [])) <| grd (inb (h 64 3) 80) <| (fX2_isDigit (h ((h 64 0).toNatClampNeg) (Int32.toNatClampNeg (h 64 3))) h).bind fun q_5 => if q_5 = true then (grd (¬ h 64 0 = 0) <| grd (shp ((h 64 0).toNatClampNeg) = (0, 80, [])) <| grd (inb (h 64 3) 80) <| (some (jmin (((c1 * 10) + (h ((h 64 0).toNatClampNeg) (Int32.toNatClampNeg (h 64 3)))) - 48) 10000)).bind fun y_11 => (some (su h 64 3 ((h 64 3) + 1))).bind fun h_12 => some (.inl (y_11, h_12))) else (some (.inr (c1, h))))
def fX2_stepNumber (h : Sto) : Option Sto :=
  (lp (fun s => fX2_stepNumber_b2 s.1 s.2) FUEL (0, h)).bind fun v_21 => if v_21.1 ≤ 9999 then ((some (su v_21.2 64 4 2)).bind fun h_24 => (some (su h_24 64 6 v_21.1)).bind fun h_25 => some h_25) else ((some (su v_21.2 64 4 1)).bind fun h_26 => (some (su h_26 64 6 v_21.1)).bind fun h_27 => some h_27)
set_option maxRecDepth 100000 in
set_option maxHeartbeats 4000000 in
theorem okX2_stepNumber (d : Nat) (h : Sto) (q : Sto) (e : fX2_stepNumber h = some q) : Ok yX2_stepNumber cX2_stepNumber 2 none (d + 1) [.ref 64] h none q := by
  refine Ok_of (lst := kX2_stepNumber) (own := RX2) ⟨by decide, rfl⟩ ckX2_stepNumber trivial (Nat.le_of_ble_eq_true rfl) ?_
  unfold fX2_stepNumber at e
  change Ev kX2_stepNumber RX2 2 (d + 1) nox 0 [some (.ref 64), none] [] h none q
  obtain ⟨y_13, e_14, e⟩ := bndS e
  have kx_17 : ∀ v_21 : (Int32 × Sto), v_21 = y_13 → Ev kX2_stepNumber RX2 2 (d + 1) nox 65 [some (.ref 64), some (.int v_21.1)] [] v_21.2 none q := by
    intro v_21 hy
    subst hy
    refine s_aload_n 35 rfl rfl <| s_iload_n 36 rfl rfl <| s_sipush 9999 37 rfl (by decide) <| ?_
    rcases iteS e with ⟨g_23, e⟩ | ⟨g_23, e⟩
    · obtain ⟨h_24, eh_24, e⟩ := bndS e
      obtain ⟨h_25, eh_25, e⟩ := bndS e
      obtain rfl := Option.some.inj e
      exact s_icmp_le_T 38 77 rfl (by decide) g_23 <| s_iconst 2 41 rfl (by decide) <| s_puti 42 rfl fl_X2_42 sh_64 rfl <| s_nmH (Option.some.inj eh_24) <| s_aload_n 43 rfl rfl <| s_iload_n 44 rfl rfl <| s_puti 45 rfl fl_X2_59 sh_64 rfl <| s_nmH (Option.some.inj eh_25) <| s_vret 46 rfl
    · obtain ⟨h_26, eh_26, e⟩ := bndS e
      obtain ⟨h_27, eh_27, e⟩ := bndS e
      obtain rfl := Option.some.inj e
      exact s_icmp_le_F 38 77 rfl (by decide) g_23 <| s_iconst 1 39 rfl (by decide) <| s_goto 40 78 rfl (by decide) <| s_puti 42 rfl fl_X2_42 sh_64 rfl <| s_nmH (Option.some.inj eh_26) <| s_aload_n 43 rfl rfl <| s_iload_n 44 rfl rfl <| s_puti 45 rfl fl_X2_59 sh_64 rfl <| s_nmH (Option.some.inj eh_27) <| s_vret 46 rfl
  refine s_iconst 0 0 rfl (by decide) <| s_istore_n [some (.ref 64), some (.int 0)] 1 rfl (by decide) rfl <| lpS (P := fun (s_20 : (Int32 × Sto)) => Ev kX2_stepNumber RX2 2 (d + 1) nox 2 [some (.ref 64), some (.int s_20.1)] [] s_20.2 none q) ?_ FUEL _ e_14
  intro s_20 o_19 e hk_15 hx_16
  unfold fX2_stepNumber_b2 at e
  refine s_aload_n 2 rfl rfl <| s_geti 3 rfl fl_X2_22 sh_64 rfl <| s_aload_n 4 rfl rfl <| s_geti 5 rfl fl_X2_15 sh_64 rfl <| ?_
  rcases iteS e with ⟨g_28, e⟩ | ⟨g_28, e⟩
  · cases e
    exact s_icmp_ge_T 6 65 rfl (by decide) g_28 <| (kx_17 (s_20.1, s_20.2) (hx_16 _ rfl))
  · obtain ⟨g_29, e⟩ := grdS e
    obtain ⟨g_30, e⟩ := grdS e
    obtain ⟨g_31, e⟩ := grdS e
    obtain ⟨q_32, e_33, e⟩ := bndS e
    refine s_icmp_ge_F 6 65 rfl (by decide) g_28 <| s_aload_n 7 rfl rfl <| s_getv 8 rfl fl_X2_9 sh_64 rfl g_29 <| s_aload_n 9 rfl rfl <| s_geti 10 rfl fl_X2_22 sh_64 rfl <| s_iald (Int32.toNatClampNeg (s_20.2 64 3)) 11 rfl g_30 g_31 rfl <| s_callS 12 [.int (s_20.2 ((s_20.2 64 0).toNatClampNeg) (Int32.toNatClampNeg (s_20.2 64 3)))] [] rfl ml_X2_68 yw_X2_isDigit (okX2_isDigit d _ _ _ e_33) rfl rfl (Nat.le_of_ble_eq_true rfl) <| ?_
    rcases iteS e with ⟨g_34, e⟩ | ⟨g_34, e⟩
    · obtain ⟨g_35, e⟩ := grdS e
      obtain ⟨g_36, e⟩ := grdS e
      obtain ⟨g_37, e⟩ := grdS e
      obtain ⟨y_38, ey_38, e⟩ := bndS e
      obtain ⟨h_39, eh_39, e⟩ := bndS e
      cases e
      exact s_if_eq_F 13 65 rfl (by decide) (b2i_T g_34) <| s_iload_n 14 rfl rfl <| s_bipush 10 15 rfl (by decide) <| s_imul 16 rfl <| s_aload_n 17 rfl rfl <| s_getv 18 rfl fl_X2_9 sh_64 rfl g_35 <| s_aload_n 19 rfl rfl <| s_geti 20 rfl fl_X2_22 sh_64 rfl <| s_iald (Int32.toNatClampNeg (s_20.2 64 3)) 21 rfl g_36 g_37 rfl <| s_iadd 22 rfl <| s_bipush 48 23 rfl (by decide) <| s_isub 24 rfl <| s_sipush 10000 25 rfl (by decide) <| s_min 26 rfl ml_X2_85 wMin (Nat.le_of_ble_eq_true rfl) <| s_nmI (Option.some.inj ey_38) <| s_istore_n [some (.ref 64), some (.int y_38)] 27 rfl (by decide) rfl <| s_aload_n 28 rfl rfl <| s_dup 29 rfl rfl <| s_geti 30 rfl fl_X2_22 sh_64 rfl <| s_iconst 1 31 rfl (by decide) <| s_iadd 32 rfl <| s_puti 33 rfl fl_X2_22 sh_64 rfl <| s_nmH (Option.some.inj eh_39) <| s_goto 34 2 rfl (by decide) <| (hk_15 (y_38, h_39) rfl)
    · cases e
      exact s_if_eq_T 13 65 rfl (by decide) (b2i_F g_34) <| (kx_17 (s_20.1, s_20.2) (hx_16 _ rfl))
def fX2_isMark (x0 : Int32) (h : Sto) : Option Bool :=
  if x0 < 40 then (if x0 = 45 then (some true) else (if x0 = 47 then (some true) else (if x0 = 60 then (some true) else (if ¬ x0 = 61 then (some false) else (some true))))) else (if x0 ≤ 43 then (some true) else (if x0 = 45 then (some true) else (if x0 = 47 then (some true) else (if x0 = 60 then (some true) else (if ¬ x0 = 61 then (some false) else (some true))))))
set_option maxRecDepth 100000 in
set_option maxHeartbeats 4000000 in
theorem okX2_isMark (d : Nat) (x0 : Int32) (h : Sto) (q : Bool) (e : fX2_isMark x0 h = some q) : Ok yX2_isMark cX2_isMark 1 (some .boolean) d [.int x0] h (some (.int (b2i q))) h := by
  refine Ok_of (lst := kX2_isMark) (own := RX2) ⟨by decide, rfl⟩ ckX2_isMark (b2i_01 _) (Nat.le_of_ble_eq_true rfl) ?_
  unfold fX2_isMark at e
  change Ev kX2_isMark RX2 1 d nox 0 [some (.int x0)] [] h (some (.int (b2i q))) h
  refine s_iload_n 0 rfl rfl <| s_bipush 40 1 rfl (by decide) <| ?_
  rcases iteS e with ⟨g_1, e⟩ | ⟨g_1, e⟩
  · refine s_icmp_lt_T 2 12 rfl (by decide) g_1 <| s_iload_n 6 rfl rfl <| s_bipush 45 7 rfl (by decide) <| ?_
    rcases iteS e with ⟨g_2, e⟩ | ⟨g_2, e⟩
    · obtain rfl := Option.some.inj e
      exact s_icmp_eq_T 8 36 rfl (by decide) g_2 <| s_iconst 1 18 rfl (by decide) <| s_goto 19 41 rfl (by decide) <| s_iret 21 rfl
    · refine s_icmp_eq_F 8 36 rfl (by decide) g_2 <| s_iload_n 9 rfl rfl <| s_bipush 47 10 rfl (by decide) <| ?_
      rcases iteS e with ⟨g_3, e⟩ | ⟨g_3, e⟩
      · obtain rfl := Option.some.inj e
        exact s_icmp_eq_T 11 36 rfl (by decide) g_3 <| s_iconst 1 18 rfl (by decide) <| s_goto 19 41 rfl (by decide) <| s_iret 21 rfl
      · refine s_icmp_eq_F 11 36 rfl (by decide) g_3 <| s_iload_n 12 rfl rfl <| s_bipush 60 13 rfl (by decide) <| ?_
        rcases iteS e with ⟨g_4, e⟩ | ⟨g_4, e⟩
        · obtain rfl := Option.some.inj e
          exact s_icmp_eq_T 14 36 rfl (by decide) g_4 <| s_iconst 1 18 rfl (by decide) <| s_goto 19 41 rfl (by decide) <| s_iret 21 rfl
        · refine s_icmp_eq_F 14 36 rfl (by decide) g_4 <| s_iload_n 15 rfl rfl <| s_bipush 61 16 rfl (by decide) <| ?_
          rcases iteS e with ⟨g_5, e⟩ | ⟨g_5, e⟩
          · obtain rfl := Option.some.inj e
            exact s_icmp_ne_T 17 40 rfl (by decide) g_5 <| s_iconst 0 20 rfl (by decide) <| s_iret 21 rfl
          · obtain rfl := Option.some.inj e
            exact s_icmp_ne_F 17 40 rfl (by decide) (Decidable.not_not.mp g_5) <| s_iconst 1 18 rfl (by decide) <| s_goto 19 41 rfl (by decide) <| s_iret 21 rfl
  · refine s_icmp_lt_F 2 12 rfl (by decide) g_1 <| s_iload_n 3 rfl rfl <| s_bipush 43 4 rfl (by decide) <| ?_
    rcases iteS e with ⟨g_6, e⟩ | ⟨g_6, e⟩
    · obtain rfl := Option.some.inj e
      exact s_icmp_le_T 5 36 rfl (by decide) g_6 <| s_iconst 1 18 rfl (by decide) <| s_goto 19 41 rfl (by decide) <| s_iret 21 rfl
    · refine s_icmp_le_F 5 36 rfl (by decide) g_6 <| s_iload_n 6 rfl rfl <| s_bipush 45 7 rfl (by decide) <| ?_
      rcases iteS e with ⟨g_7, e⟩ | ⟨g_7, e⟩
      · obtain rfl := Option.some.inj e
        exact s_icmp_eq_T 8 36 rfl (by decide) g_7 <| s_iconst 1 18 rfl (by decide) <| s_goto 19 41 rfl (by decide) <| s_iret 21 rfl
      · refine s_icmp_eq_F 8 36 rfl (by decide) g_7 <| s_iload_n 9 rfl rfl <| s_bipush 47 10 rfl (by decide) <| ?_
        rcases iteS e with ⟨g_8, e⟩ | ⟨g_8, e⟩
        · obtain rfl := Option.some.inj e
          exact s_icmp_eq_T 11 36 rfl (by decide) g_8 <| s_iconst 1 18 rfl (by decide) <| s_goto 19 41 rfl (by decide) <| s_iret 21 rfl
        · refine s_icmp_eq_F 11 36 rfl (by decide) g_8 <| s_iload_n 12 rfl rfl <| s_bipush 60 13 rfl (by decide) <| ?_
          rcases iteS e with ⟨g_9, e⟩ | ⟨g_9, e⟩
          · obtain rfl := Option.some.inj e
            exact s_icmp_eq_T 14 36 rfl (by decide) g_9 <| s_iconst 1 18 rfl (by decide) <| s_goto 19 41 rfl (by decide) <| s_iret 21 rfl
          · refine s_icmp_eq_F 14 36 rfl (by decide) g_9 <| s_iload_n 15 rfl rfl <| s_bipush 61 16 rfl (by decide) <| ?_
            rcases iteS e with ⟨g_10, e⟩ | ⟨g_10, e⟩
            · obtain rfl := Option.some.inj e
              exact s_icmp_ne_T 17 40 rfl (by decide) g_10 <| s_iconst 0 20 rfl (by decide) <| s_iret 21 rfl
            · obtain rfl := Option.some.inj e
              exact s_icmp_ne_F 17 40 rfl (by decide) (Decidable.not_not.mp g_10) <| s_iconst 1 18 rfl (by decide) <| s_goto 19 41 rfl (by decide) <| s_iret 21 rfl
def fX2_step_b0 (h : Sto) : Option (Sto ⊕ Sto) :=
  if (h 64 1) ≤ (h 64 3) then (some (.inr h)) else (grd (¬ h 64 0 = 0) <| grd (shp ((h 64 0).toNatClampNeg) = (0, 80, [])) <| grd (inb (h 64 3) 80) <| if ¬ (h ((h 64 0).toNatClampNeg) (Int32.toNatClampNeg (h 64 3))) = 32 then (some (.inr h)) else ((some (su h 64 3 ((h 64 3) + 1))).bind fun h_6 => some (.inl h_6)))
def fX2_step (h : Sto) : Option Sto :=
  (lp (fun s => fX2_step_b0 s) FUEL h).bind fun v_15 => (some (su v_15 64 5 (v_15 64 3))).bind fun h_17 => if (h_17 64 3) < (h_17 64 1) then (grd (¬ h_17 64 0 = 0) <| grd (shp ((h_17 64 0).toNatClampNeg) = (0, 80, [])) <| grd (inb (h_17 64 3) 80) <| (fX2_isDigit (h_17 ((h_17 64 0).toNatClampNeg) (Int32.toNatClampNeg (h_17 64 3))) h_17).bind fun q_22 => if q_22 = true then ((fX2_stepNumber h_17).bind fun q_25 => some q_25) else ((some (su h_17 64 3 ((h_17 64 3) + 1))).bind fun h_27 => if (ixOf (((h_17 ((h_17 64 0).toNatClampNeg) (Int32.toNatClampNeg (h_17 64 3))).toUInt32 % 65536).toInt32)) < 0 then ((fX2_isMark (h_17 ((h_17 64 0).toNatClampNeg) (Int32.toNatClampNeg (h_17 64 3))) h_27).bind fun q_29 => if q_29 = true then ((some (su h_27 64 4 (h_17 ((h_17 64 0).toNatClampNeg) (Int32.toNatClampNeg (h_17 64 3))))).bind fun h_32 => some h_32) else ((some (su h_27 64 4 1)).bind fun h_33 => some h_33)) else ((some (su h_27 64 4 3)).bind fun h_34 => grd (¬ h_34 64 2 = 0) <| grd (shp ((h_34 64 2).toNatClampNeg) = (0, 8, [])) <| grd (inb (ixOf (((h_17 ((h_17 64 0).toNatClampNeg) (Int32.toNatClampNeg (h_17 64 3))).toUInt32 % 65536).toInt32)) 8) <| (some (su h_34 64 6 (h_34 ((h_34 64 2).toNatClampNeg) (Int32.toNatClampNeg (ixOf (((h_17 ((h_17 64 0).toNatClampNeg) (Int32.toNatClampNeg (h_17 64 3))).toUInt32 % 65536).toInt32)))))).bind fun h_38 => some h_38))) else ((some (su h_17 64 4 0)).bind fun h_39 => some h_39)
set_option maxRecDepth 100000 in
set_option maxHeartbeats 4000000 in
theorem okX2_step (d : Nat) (h : Sto) (q : Sto) (e : fX2_step h = some q) : Ok yX2_step cX2_step 3 none (d + 12) [.ref 64] h none q := by
  refine Ok_of (lst := kX2_step) (own := RX2) ⟨by decide, rfl⟩ ckX2_step trivial (Nat.le_of_ble_eq_true rfl) ?_
  unfold fX2_step at e
  change Ev kX2_step RX2 3 (d + 12) nox 0 [some (.ref 64), none, none] [] h none q
  obtain ⟨y_7, e_8, e⟩ := bndS e
  have kx_11 : ∀ v_15 : Sto, v_15 = y_7 → Ev kX2_step RX2 3 (d + 12) nox 38 [some (.ref 64), none, none] [] v_15 none q := by
    intro v_15 hy
    subst hy
    obtain ⟨h_17, eh_17, e⟩ := bndS e
    refine s_aload_n 19 rfl rfl <| s_aload_n 20 rfl rfl <| s_geti 21 rfl fl_X2_22 sh_64 rfl <| s_puti 22 rfl fl_X2_65 sh_64 rfl <| s_nmH (Option.some.inj eh_17) <| s_aload_n 23 rfl rfl <| s_geti 24 rfl fl_X2_22 sh_64 rfl <| s_aload_n 25 rfl rfl <| s_geti 26 rfl fl_X2_15 sh_64 rfl <| ?_
    rcases iteS e with ⟨g_18, e⟩ | ⟨g_18, e⟩
    · obtain ⟨g_19, e⟩ := grdS e
      obtain ⟨g_20, e⟩ := grdS e
      obtain ⟨g_21, e⟩ := grdS e
      obtain ⟨q_22, e_23, e⟩ := bndS e
      refine s_icmp_lt_T 27 63 rfl (by decide) g_18 <| s_aload_n 32 rfl rfl <| s_getv 33 rfl fl_X2_9 sh_64 rfl g_19 <| s_aload_n 34 rfl rfl <| s_geti 35 rfl fl_X2_22 sh_64 rfl <| s_iald (Int32.toNatClampNeg (h_17 64 3)) 36 rfl g_20 g_21 rfl <| s_istore_n [some (.ref 64), some (.int (h_17 ((h_17 64 0).toNatClampNeg) (Int32.toNatClampNeg (h_17 64 3)))), none] 37 rfl (by decide) rfl <| s_iload_n 38 rfl rfl <| s_callS 39 [.int (h_17 ((h_17 64 0).toNatClampNeg) (Int32.toNatClampNeg (h_17 64 3)))] [] rfl ml_X2_68 yw_X2_isDigit (okX2_isDigit (d + 11) _ _ _ e_23) rfl rfl (Nat.le_of_ble_eq_true rfl) <| ?_
      rcases iteS e with ⟨g_24, e⟩ | ⟨g_24, e⟩
      · obtain ⟨q_25, e_26, e⟩ := bndS e
        obtain rfl := Option.some.inj e
        exact s_if_eq_F 40 85 rfl (by decide) (b2i_T g_24) <| s_aload_n 41 rfl rfl <| s_callV (b := 64) (ci := 2) 42 [] [] rfl ml_X2_72 yw_X2_stepNumber sh_64 rfl rfl (okX2_stepNumber (d + 10) _ _ e_26) rfl rfl (Nat.le_of_ble_eq_true rfl) <| s_vret 43 rfl
      · obtain ⟨h_27, eh_27, e⟩ := bndS e
        refine s_if_eq_T 40 85 rfl (by decide) (b2i_F g_24) <| s_aload_n 44 rfl rfl <| s_dup 45 rfl rfl <| s_geti 46 rfl fl_X2_22 sh_64 rfl <| s_iconst 1 47 rfl (by decide) <| s_iadd 48 rfl <| s_puti 49 rfl fl_X2_22 sh_64 rfl <| s_nmH (Option.some.inj eh_27) <| s_ldcstr 50 rfl <| s_iload_n 51 rfl rfl <| s_i2c 52 rfl <| s_indexOf 53 rfl ml_X2_77 (Nat.le_of_ble_eq_true rfl) <| s_istore_n [some (.ref 64), some (.int (h_17 ((h_17 64 0).toNatClampNeg) (Int32.toNatClampNeg (h_17 64 3)))), some (.int (ixOf (((h_17 ((h_17 64 0).toNatClampNeg) (Int32.toNatClampNeg (h_17 64 3))).toUInt32 % 65536).toInt32)))] 54 rfl (by decide) rfl <| s_iload_n 55 rfl rfl <| ?_
        rcases iteS e with ⟨g_28, e⟩ | ⟨g_28, e⟩
        · obtain ⟨q_29, e_30, e⟩ := bndS e
          refine s_if_lt_T 56 125 rfl (by decide) g_28 <| s_aload_n 67 rfl rfl <| s_iload_n 68 rfl rfl <| s_callS 69 [.int (h_17 ((h_17 64 0).toNatClampNeg) (Int32.toNatClampNeg (h_17 64 3)))] [.ref 64] rfl ml_X2_82 yw_X2_isMark (okX2_isMark (d + 11) _ _ _ e_30) rfl rfl (Nat.le_of_ble_eq_true rfl) <| ?_
          rcases iteS e with ⟨g_31, e⟩ | ⟨g_31, e⟩
          · obtain ⟨h_32, eh_32, e⟩ := bndS e
            obtain rfl := Option.some.inj e
            exact s_if_eq_F 70 137 rfl (by decide) (b2i_T g_31) <| s_iload_n 71 rfl rfl <| s_goto 72 138 rfl (by decide) <| s_puti 74 rfl fl_X2_42 sh_64 rfl <| s_nmH (Option.some.inj eh_32) <| s_vret 75 rfl
          · obtain ⟨h_33, eh_33, e⟩ := bndS e
            obtain rfl := Option.some.inj e
            exact s_if_eq_T 70 137 rfl (by decide) (b2i_F g_31) <| s_iconst 1 73 rfl (by decide) <| s_puti 74 rfl fl_X2_42 sh_64 rfl <| s_nmH (Option.some.inj eh_33) <| s_vret 75 rfl
        · obtain ⟨h_34, eh_34, e⟩ := bndS e
          obtain ⟨g_35, e⟩ := grdS e
          obtain ⟨g_36, e⟩ := grdS e
          obtain ⟨g_37, e⟩ := grdS e
          obtain ⟨h_38, eh_38, e⟩ := bndS e
          obtain rfl := Option.some.inj e
          exact s_if_lt_F 56 125 rfl (by decide) g_28 <| s_aload_n 57 rfl rfl <| s_iconst 3 58 rfl (by decide) <| s_puti 59 rfl fl_X2_42 sh_64 rfl <| s_nmH (Option.some.inj eh_34) <| s_aload_n 60 rfl rfl <| s_aload_n 61 rfl rfl <| s_getv 62 rfl fl_X2_19 sh_64 rfl g_35 <| s_iload_n 63 rfl rfl <| s_iald (Int32.toNatClampNeg (ixOf (((h_17 ((h_17 64 0).toNatClampNeg) (Int32.toNatClampNeg (h_17 64 3))).toUInt32 % 65536).toInt32))) 64 rfl g_36 g_37 rfl <| s_puti 65 rfl fl_X2_59 sh_64 rfl <| s_nmH (Option.some.inj eh_38) <| s_goto 66 141 rfl (by decide) <| s_vret 75 rfl
    · obtain ⟨h_39, eh_39, e⟩ := bndS e
      obtain rfl := Option.some.inj e
      exact s_icmp_lt_F 27 63 rfl (by decide) g_18 <| s_aload_n 28 rfl rfl <| s_iconst 0 29 rfl (by decide) <| s_puti 30 rfl fl_X2_42 sh_64 rfl <| s_nmH (Option.some.inj eh_39) <| s_vret 31 rfl
  refine lpS (P := fun (s_14 : Sto) => Ev kX2_step RX2 3 (d + 12) nox 0 [some (.ref 64), none, none] [] s_14 none q) ?_ FUEL _ e_8
  intro s_14 o_13 e hk_9 hx_10
  unfold fX2_step_b0 at e
  refine s_aload_n 0 rfl rfl <| s_geti 1 rfl fl_X2_22 sh_64 rfl <| s_aload_n 2 rfl rfl <| s_geti 3 rfl fl_X2_15 sh_64 rfl <| ?_
  rcases iteS e with ⟨g_40, e⟩ | ⟨g_40, e⟩
  · cases e
    exact s_icmp_ge_T 4 38 rfl (by decide) g_40 <| (kx_11 s_14 (hx_10 _ rfl))
  · obtain ⟨g_41, e⟩ := grdS e
    obtain ⟨g_42, e⟩ := grdS e
    obtain ⟨g_43, e⟩ := grdS e
    refine s_icmp_ge_F 4 38 rfl (by decide) g_40 <| s_aload_n 5 rfl rfl <| s_getv 6 rfl fl_X2_9 sh_64 rfl g_41 <| s_aload_n 7 rfl rfl <| s_geti 8 rfl fl_X2_22 sh_64 rfl <| s_iald (Int32.toNatClampNeg (s_14 64 3)) 9 rfl g_42 g_43 rfl <| s_bipush 32 10 rfl (by decide) <| ?_
    rcases iteS e with ⟨g_44, e⟩ | ⟨g_44, e⟩
    · cases e
      exact s_icmp_ne_T 11 38 rfl (by decide) g_44 <| (kx_11 s_14 (hx_10 _ rfl))
    · obtain ⟨h_45, eh_45, e⟩ := bndS e
      cases e
      exact s_icmp_ne_F 11 38 rfl (by decide) (Decidable.not_not.mp g_44) <| s_aload_n 12 rfl rfl <| s_dup 13 rfl rfl <| s_geti 14 rfl fl_X2_22 sh_64 rfl <| s_iconst 1 15 rfl (by decide) <| s_iadd 16 rfl <| s_puti 17 rfl fl_X2_22 sh_64 rfl <| s_nmH (Option.some.inj eh_45) <| s_goto 18 0 rfl (by decide) <| (hk_9 h_45 rfl)
def fX2_readTerm_b8 (rO : Int32 → Sto → Option (Int32 × Sto)) (x1 : Int32) (c2 : Int32) (c3 : Int32) (h : Sto) : Option ((Int32 × Int32 × Sto) ⊕ (Int32 × Sto)) :=
  if 80 ≤ c3 then (some (.inr (c2, h))) else (if (h 64 4) = 42 then ((fX2_step h).bind fun q_5 => (rO x1 q_5).bind fun q_7 => if ¬ (h 64 4) = 42 then ((fX8_cut c2 q_7.1 q_7.2).bind fun q_10 => some (.inl (q_10, (c3 + 1), q_7.2))) else (some (.inl ((c2 * q_7.1), (c3 + 1), q_7.2)))) else (if ¬ (h 64 4) = 47 then (some (.inr (c2, h))) else ((fX2_step h).bind fun q_13 => (rO x1 q_13).bind fun q_15 => if ¬ (h 64 4) = 42 then ((fX8_cut c2 q_15.1 q_15.2).bind fun q_18 => some (.inl (q_18, (c3 + 1), q_15.2))) else (some (.inl ((c2 * q_15.1), (c3 + 1), q_15.2))))))
def fX2_readTerm (rO : Int32 → Sto → Option (Int32 × Sto)) (x1 : Int32) (h : Sto) : Option (Int32 × Sto) :=
  (rO x1 h).bind fun q_1 => (lp (fun s => fX2_readTerm_b8 rO x1 s.1 s.2.1 s.2.2) FUEL (q_1.1, 0, q_1.2)).bind fun v_28 => some (v_28.1, v_28.2)
set_option maxRecDepth 100000 in
set_option maxHeartbeats 4000000 in
theorem okX2_readTerm (d : Nat) (rO : Int32 → Sto → Option (Int32 × Sto)) (hO : ∀ (k : Nat) (x : Int32) (h : Sto) (qv : Int32) (qh : Sto), rO x h = some (qv, qh) → Ok yX2_readOne cX2_readOne 4 (some .int) (d + k + 13) [.ref 64, .int x] h (some (.int qv)) qh) (x1 : Int32) (h : Sto) (qv : Int32) (qh : Sto) (e : fX2_readTerm rO x1 h = some (qv, qh)) : Ok yX2_readTerm cX2_readTerm 6 (some .int) (d + 14) [.ref 64, .int x1] h (some (.int qv)) qh := by
  refine Ok_of (lst := kX2_readTerm) (own := RX2) ⟨by decide, rfl⟩ ckX2_readTerm trivial (Nat.le_of_ble_eq_true rfl) ?_
  unfold fX2_readTerm at e
  change Ev kX2_readTerm RX2 6 (d + 14) nox 0 [some (.ref 64), some (.int x1), none, none, none, none] [] h (some (.int qv)) qh
  obtain ⟨q_1, e_2, e⟩ := bndS e
  obtain ⟨y_20, e_21, e⟩ := bndS e
  have kx_24 : ∀ v_28 : (Int32 × Sto), v_28 = y_20 → Ev kX2_readTerm RX2 6 (d + 14) nox 76 [none, none, some (.int v_28.1), none, none, none] [] v_28.2 (some (.int qv)) qh := by
    intro v_28 hy
    subst hy
    obtain ⟨rfl, rfl⟩ := some2 e
    exact s_iload_n 39 rfl rfl <| s_iret 40 rfl
  refine s_aload_n 0 rfl rfl <| s_iload_n 1 rfl rfl <| s_callV (b := 64) (ci := 2) 2 [.int x1] [] rfl ml_X2_52 yw_X2_readOne sh_64 rfl rfl (hO 0 _ _ q_1.1 q_1.2 e_2) rfl rfl (Nat.le_of_ble_eq_true rfl) <| s_istore_n [some (.ref 64), some (.int x1), some (.int q_1.1), none, none, none] 3 rfl (by decide) rfl <| s_iconst 0 4 rfl (by decide) <| s_istore_n [some (.ref 64), some (.int x1), some (.int q_1.1), some (.int 0), none, none] 5 rfl (by decide) rfl <| lpS (P := fun (s_27 : (Int32 × Int32 × Sto)) => Ev kX2_readTerm RX2 6 (d + 14) nox 8 [some (.ref 64), some (.int x1), some (.int s_27.1), some (.int s_27.2.1), none, none] [] s_27.2.2 (some (.int qv)) qh) ?_ FUEL _ e_21
  intro s_27 o_26 e hk_22 hx_23
  unfold fX2_readTerm_b8 at e
  refine s_iload_n 6 rfl rfl <| s_bipush 80 7 rfl (by decide) <| ?_
  rcases iteS e with ⟨g_30, e⟩ | ⟨g_30, e⟩
  · cases e
    exact s_icmp_ge_T 8 76 rfl (by decide) g_30 <| s_fgt [true, true, false, true] rfl <| (kx_24 (s_27.1, s_27.2.2) (hx_23 _ rfl))
  · refine s_icmp_ge_F 8 76 rfl (by decide) g_30 <| s_aload_n 9 rfl rfl <| s_geti 10 rfl fl_X2_42 sh_64 rfl <| s_bipush 42 11 rfl (by decide) <| ?_
    rcases iteS e with ⟨g_31, e⟩ | ⟨g_31, e⟩
    · obtain ⟨q_32, e_33, e⟩ := bndS e
      obtain ⟨q_34, e_35, e⟩ := bndS e
      refine s_icmp_eq_T 12 32 rfl (by decide) g_31 <| s_aload_n 17 rfl rfl <| s_geti 18 rfl fl_X2_42 sh_64 rfl <| s_istore [some (.ref 64), some (.int x1), some (.int s_27.1), some (.int s_27.2.1), some (.int (s_27.2.2 64 4)), none] 19 rfl (by decide) rfl <| s_aload_n 20 rfl rfl <| s_callV (b := 64) (ci := 2) 21 [] [] rfl ml_X2_28 yw_X2_step sh_64 rfl rfl (okX2_step (d + 1) _ _ e_33) rfl rfl (Nat.le_of_ble_eq_true rfl) <| s_aload_n 22 rfl rfl <| s_iload_n 23 rfl rfl <| s_callV (b := 64) (ci := 2) 24 [.int x1] [] rfl ml_X2_52 yw_X2_readOne sh_64 rfl rfl (hO 0 _ _ q_34.1 q_34.2 e_35) rfl rfl (Nat.le_of_ble_eq_true rfl) <| s_istore [some (.ref 64), some (.int x1), some (.int s_27.1), some (.int s_27.2.1), some (.int (s_27.2.2 64 4)), some (.int q_34.1)] 25 rfl (by decide) rfl <| s_iload 26 rfl rfl <| s_bipush 42 27 rfl (by decide) <| ?_
      rcases iteS e with ⟨g_36, e⟩ | ⟨g_36, e⟩
      · obtain ⟨q_37, e_38, e⟩ := bndS e
        cases e
        exact s_icmp_ne_T 28 63 rfl (by decide) g_36 <| s_iload_n 33 rfl rfl <| s_iload 34 rfl rfl <| s_callSN 35 [.int s_27.1, .int q_34.1] [] rfl ml_X2_55 yw_X8_cut (okX8_cut (d + 13) _ _ _ _ e_38) rfl rfl (Nat.le_of_ble_eq_true rfl) <| s_istore_n [some (.ref 64), some (.int x1), some (.int q_37), some (.int s_27.2.1), some (.int (s_27.2.2 64 4)), some (.int q_34.1)] 36 rfl (by decide) rfl <| s_iinc 1 [some (.ref 64), some (.int x1), some (.int q_37), some (.int (s_27.2.1 + 1)), some (.int (s_27.2.2 64 4)), some (.int q_34.1)] 37 rfl (by decide) rfl (by decide) rfl <| s_goto 38 8 rfl (by decide) <| s_fgt [false, false, false, false, true, true] rfl <| (hk_22 (q_37, (s_27.2.1 + 1), q_34.2) rfl)
      · cases e
        exact s_icmp_ne_F 28 63 rfl (by decide) (Decidable.not_not.mp g_36) <| s_iload_n 29 rfl rfl <| s_iload 30 rfl rfl <| s_imul 31 rfl <| s_goto 32 69 rfl (by decide) <| s_istore_n [some (.ref 64), some (.int x1), some (.int (s_27.1 * q_34.1)), some (.int s_27.2.1), some (.int (s_27.2.2 64 4)), some (.int q_34.1)] 36 rfl (by decide) rfl <| s_iinc 1 [some (.ref 64), some (.int x1), some (.int (s_27.1 * q_34.1)), some (.int (s_27.2.1 + 1)), some (.int (s_27.2.2 64 4)), some (.int q_34.1)] 37 rfl (by decide) rfl (by decide) rfl <| s_goto 38 8 rfl (by decide) <| s_fgt [false, false, false, false, true, true] rfl <| (hk_22 ((s_27.1 * q_34.1), (s_27.2.1 + 1), q_34.2) rfl)
    · refine s_icmp_eq_F 12 32 rfl (by decide) g_31 <| s_aload_n 13 rfl rfl <| s_geti 14 rfl fl_X2_42 sh_64 rfl <| s_bipush 47 15 rfl (by decide) <| ?_
      rcases iteS e with ⟨g_39, e⟩ | ⟨g_39, e⟩
      · cases e
        exact s_icmp_ne_T 16 76 rfl (by decide) g_39 <| s_fgt [true, true, false, true] rfl <| (kx_24 (s_27.1, s_27.2.2) (hx_23 _ rfl))
      · obtain ⟨q_40, e_41, e⟩ := bndS e
        obtain ⟨q_42, e_43, e⟩ := bndS e
        refine s_icmp_ne_F 16 76 rfl (by decide) (Decidable.not_not.mp g_39) <| s_aload_n 17 rfl rfl <| s_geti 18 rfl fl_X2_42 sh_64 rfl <| s_istore [some (.ref 64), some (.int x1), some (.int s_27.1), some (.int s_27.2.1), some (.int (s_27.2.2 64 4)), none] 19 rfl (by decide) rfl <| s_aload_n 20 rfl rfl <| s_callV (b := 64) (ci := 2) 21 [] [] rfl ml_X2_28 yw_X2_step sh_64 rfl rfl (okX2_step (d + 1) _ _ e_41) rfl rfl (Nat.le_of_ble_eq_true rfl) <| s_aload_n 22 rfl rfl <| s_iload_n 23 rfl rfl <| s_callV (b := 64) (ci := 2) 24 [.int x1] [] rfl ml_X2_52 yw_X2_readOne sh_64 rfl rfl (hO 0 _ _ q_42.1 q_42.2 e_43) rfl rfl (Nat.le_of_ble_eq_true rfl) <| s_istore [some (.ref 64), some (.int x1), some (.int s_27.1), some (.int s_27.2.1), some (.int (s_27.2.2 64 4)), some (.int q_42.1)] 25 rfl (by decide) rfl <| s_iload 26 rfl rfl <| s_bipush 42 27 rfl (by decide) <| ?_
        rcases iteS e with ⟨g_44, e⟩ | ⟨g_44, e⟩
        · obtain ⟨q_45, e_46, e⟩ := bndS e
          cases e
          exact s_icmp_ne_T 28 63 rfl (by decide) g_44 <| s_iload_n 33 rfl rfl <| s_iload 34 rfl rfl <| s_callSN 35 [.int s_27.1, .int q_42.1] [] rfl ml_X2_55 yw_X8_cut (okX8_cut (d + 13) _ _ _ _ e_46) rfl rfl (Nat.le_of_ble_eq_true rfl) <| s_istore_n [some (.ref 64), some (.int x1), some (.int q_45), some (.int s_27.2.1), some (.int (s_27.2.2 64 4)), some (.int q_42.1)] 36 rfl (by decide) rfl <| s_iinc 1 [some (.ref 64), some (.int x1), some (.int q_45), some (.int (s_27.2.1 + 1)), some (.int (s_27.2.2 64 4)), some (.int q_42.1)] 37 rfl (by decide) rfl (by decide) rfl <| s_goto 38 8 rfl (by decide) <| s_fgt [false, false, false, false, true, true] rfl <| (hk_22 (q_45, (s_27.2.1 + 1), q_42.2) rfl)
        · cases e
          exact s_icmp_ne_F 28 63 rfl (by decide) (Decidable.not_not.mp g_44) <| s_iload_n 29 rfl rfl <| s_iload 30 rfl rfl <| s_imul 31 rfl <| s_goto 32 69 rfl (by decide) <| s_istore_n [some (.ref 64), some (.int x1), some (.int (s_27.1 * q_42.1)), some (.int s_27.2.1), some (.int (s_27.2.2 64 4)), some (.int q_42.1)] 36 rfl (by decide) rfl <| s_iinc 1 [some (.ref 64), some (.int x1), some (.int (s_27.1 * q_42.1)), some (.int (s_27.2.1 + 1)), some (.int (s_27.2.2 64 4)), some (.int q_42.1)] 37 rfl (by decide) rfl (by decide) rfl <| s_goto 38 8 rfl (by decide) <| s_fgt [false, false, false, false, true, true] rfl <| (hk_22 ((s_27.1 * q_42.1), (s_27.2.1 + 1), q_42.2) rfl)
def fX2_readSum_b8 (rO : Int32 → Sto → Option (Int32 × Sto)) (x1 : Int32) (c2 : Int32) (c3 : Int32) (h : Sto) : Option ((Int32 × Int32 × Sto) ⊕ (Int32 × Sto)) :=
  if 80 ≤ c3 then (some (.inr (c2, h))) else (if (h 64 4) = 43 then ((fX2_step h).bind fun q_5 => (fX2_readTerm rO x1 q_5).bind fun q_7 => if ¬ (h 64 4) = 43 then (some (.inl ((c2 - q_7.1), (c3 + 1), q_7.2))) else (some (.inl ((c2 + q_7.1), (c3 + 1), q_7.2)))) else (if ¬ (h 64 4) = 45 then (some (.inr (c2, h))) else ((fX2_step h).bind fun q_11 => (fX2_readTerm rO x1 q_11).bind fun q_13 => if ¬ (h 64 4) = 43 then (some (.inl ((c2 - q_13.1), (c3 + 1), q_13.2))) else (some (.inl ((c2 + q_13.1), (c3 + 1), q_13.2))))))
def fX2_readSum (rO : Int32 → Sto → Option (Int32 × Sto)) (x1 : Int32) (h : Sto) : Option (Int32 × Sto) :=
  (fX2_readTerm rO x1 h).bind fun q_1 => (lp (fun s => fX2_readSum_b8 rO x1 s.1 s.2.1 s.2.2) FUEL (q_1.1, 0, q_1.2)).bind fun v_24 => some (v_24.1, v_24.2)
set_option maxRecDepth 100000 in
set_option maxHeartbeats 4000000 in
theorem okX2_readSum (d : Nat) (rO : Int32 → Sto → Option (Int32 × Sto)) (hO : ∀ (k : Nat) (x : Int32) (h : Sto) (qv : Int32) (qh : Sto), rO x h = some (qv, qh) → Ok yX2_readOne cX2_readOne 4 (some .int) (d + k + 13) [.ref 64, .int x] h (some (.int qv)) qh) (x1 : Int32) (h : Sto) (qv : Int32) (qh : Sto) (e : fX2_readSum rO x1 h = some (qv, qh)) : Ok yX2_readSum cX2_readSum 6 (some .int) (d + 15) [.ref 64, .int x1] h (some (.int qv)) qh := by
  refine Ok_of (lst := kX2_readSum) (own := RX2) ⟨by decide, rfl⟩ ckX2_readSum trivial (Nat.le_of_ble_eq_true rfl) ?_
  unfold fX2_readSum at e
  change Ev kX2_readSum RX2 6 (d + 15) nox 0 [some (.ref 64), some (.int x1), none, none, none, none] [] h (some (.int qv)) qh
  obtain ⟨q_1, e_2, e⟩ := bndS e
  obtain ⟨y_16, e_17, e⟩ := bndS e
  have kx_20 : ∀ v_24 : (Int32 × Sto), v_24 = y_16 → Ev kX2_readSum RX2 6 (d + 15) nox 74 [none, none, some (.int v_24.1), none, none, none] [] v_24.2 (some (.int qv)) qh := by
    intro v_24 hy
    subst hy
    obtain ⟨rfl, rfl⟩ := some2 e
    exact s_iload_n 39 rfl rfl <| s_iret 40 rfl
  refine s_aload_n 0 rfl rfl <| s_iload_n 1 rfl rfl <| s_callV (b := 64) (ci := 2) 2 [.int x1] [] rfl ml_X2_49 yw_X2_readTerm sh_64 rfl rfl (okX2_readTerm d rO hO _ _ q_1.1 q_1.2 e_2) rfl rfl (Nat.le_of_ble_eq_true rfl) <| s_istore_n [some (.ref 64), some (.int x1), some (.int q_1.1), none, none, none] 3 rfl (by decide) rfl <| s_iconst 0 4 rfl (by decide) <| s_istore_n [some (.ref 64), some (.int x1), some (.int q_1.1), some (.int 0), none, none] 5 rfl (by decide) rfl <| lpS (P := fun (s_23 : (Int32 × Int32 × Sto)) => Ev kX2_readSum RX2 6 (d + 15) nox 8 [some (.ref 64), some (.int x1), some (.int s_23.1), some (.int s_23.2.1), none, none] [] s_23.2.2 (some (.int qv)) qh) ?_ FUEL _ e_17
  intro s_23 o_22 e hk_18 hx_19
  unfold fX2_readSum_b8 at e
  refine s_iload_n 6 rfl rfl <| s_bipush 80 7 rfl (by decide) <| ?_
  rcases iteS e with ⟨g_26, e⟩ | ⟨g_26, e⟩
  · cases e
    exact s_icmp_ge_T 8 74 rfl (by decide) g_26 <| s_fgt [true, true, false, true] rfl <| (kx_20 (s_23.1, s_23.2.2) (hx_19 _ rfl))
  · refine s_icmp_ge_F 8 74 rfl (by decide) g_26 <| s_aload_n 9 rfl rfl <| s_geti 10 rfl fl_X2_42 sh_64 rfl <| s_bipush 43 11 rfl (by decide) <| ?_
    rcases iteS e with ⟨g_27, e⟩ | ⟨g_27, e⟩
    · obtain ⟨q_28, e_29, e⟩ := bndS e
      obtain ⟨q_30, e_31, e⟩ := bndS e
      refine s_icmp_eq_T 12 32 rfl (by decide) g_27 <| s_aload_n 17 rfl rfl <| s_geti 18 rfl fl_X2_42 sh_64 rfl <| s_istore [some (.ref 64), some (.int x1), some (.int s_23.1), some (.int s_23.2.1), some (.int (s_23.2.2 64 4)), none] 19 rfl (by decide) rfl <| s_aload_n 20 rfl rfl <| s_callV (b := 64) (ci := 2) 21 [] [] rfl ml_X2_28 yw_X2_step sh_64 rfl rfl (okX2_step (d + 2) _ _ e_29) rfl rfl (Nat.le_of_ble_eq_true rfl) <| s_aload_n 22 rfl rfl <| s_iload_n 23 rfl rfl <| s_callV (b := 64) (ci := 2) 24 [.int x1] [] rfl ml_X2_49 yw_X2_readTerm sh_64 rfl rfl (okX2_readTerm d rO hO _ _ q_30.1 q_30.2 e_31) rfl rfl (Nat.le_of_ble_eq_true rfl) <| s_istore [some (.ref 64), some (.int x1), some (.int s_23.1), some (.int s_23.2.1), some (.int (s_23.2.2 64 4)), some (.int q_30.1)] 25 rfl (by decide) rfl <| s_iload 26 rfl rfl <| s_bipush 43 27 rfl (by decide) <| ?_
      rcases iteS e with ⟨g_32, e⟩ | ⟨g_32, e⟩
      · cases e
        exact s_icmp_ne_T 28 63 rfl (by decide) g_32 <| s_iload_n 33 rfl rfl <| s_iload 34 rfl rfl <| s_isub 35 rfl <| s_istore_n [some (.ref 64), some (.int x1), some (.int (s_23.1 - q_30.1)), some (.int s_23.2.1), some (.int (s_23.2.2 64 4)), some (.int q_30.1)] 36 rfl (by decide) rfl <| s_iinc 1 [some (.ref 64), some (.int x1), some (.int (s_23.1 - q_30.1)), some (.int (s_23.2.1 + 1)), some (.int (s_23.2.2 64 4)), some (.int q_30.1)] 37 rfl (by decide) rfl (by decide) rfl <| s_goto 38 8 rfl (by decide) <| s_fgt [false, false, false, false, true, true] rfl <| (hk_18 ((s_23.1 - q_30.1), (s_23.2.1 + 1), q_30.2) rfl)
      · cases e
        exact s_icmp_ne_F 28 63 rfl (by decide) (Decidable.not_not.mp g_32) <| s_iload_n 29 rfl rfl <| s_iload 30 rfl rfl <| s_iadd 31 rfl <| s_goto 32 67 rfl (by decide) <| s_istore_n [some (.ref 64), some (.int x1), some (.int (s_23.1 + q_30.1)), some (.int s_23.2.1), some (.int (s_23.2.2 64 4)), some (.int q_30.1)] 36 rfl (by decide) rfl <| s_iinc 1 [some (.ref 64), some (.int x1), some (.int (s_23.1 + q_30.1)), some (.int (s_23.2.1 + 1)), some (.int (s_23.2.2 64 4)), some (.int q_30.1)] 37 rfl (by decide) rfl (by decide) rfl <| s_goto 38 8 rfl (by decide) <| s_fgt [false, false, false, false, true, true] rfl <| (hk_18 ((s_23.1 + q_30.1), (s_23.2.1 + 1), q_30.2) rfl)
    · refine s_icmp_eq_F 12 32 rfl (by decide) g_27 <| s_aload_n 13 rfl rfl <| s_geti 14 rfl fl_X2_42 sh_64 rfl <| s_bipush 45 15 rfl (by decide) <| ?_
      rcases iteS e with ⟨g_33, e⟩ | ⟨g_33, e⟩
      · cases e
        exact s_icmp_ne_T 16 74 rfl (by decide) g_33 <| s_fgt [true, true, false, true] rfl <| (kx_20 (s_23.1, s_23.2.2) (hx_19 _ rfl))
      · obtain ⟨q_34, e_35, e⟩ := bndS e
        obtain ⟨q_36, e_37, e⟩ := bndS e
        refine s_icmp_ne_F 16 74 rfl (by decide) (Decidable.not_not.mp g_33) <| s_aload_n 17 rfl rfl <| s_geti 18 rfl fl_X2_42 sh_64 rfl <| s_istore [some (.ref 64), some (.int x1), some (.int s_23.1), some (.int s_23.2.1), some (.int (s_23.2.2 64 4)), none] 19 rfl (by decide) rfl <| s_aload_n 20 rfl rfl <| s_callV (b := 64) (ci := 2) 21 [] [] rfl ml_X2_28 yw_X2_step sh_64 rfl rfl (okX2_step (d + 2) _ _ e_35) rfl rfl (Nat.le_of_ble_eq_true rfl) <| s_aload_n 22 rfl rfl <| s_iload_n 23 rfl rfl <| s_callV (b := 64) (ci := 2) 24 [.int x1] [] rfl ml_X2_49 yw_X2_readTerm sh_64 rfl rfl (okX2_readTerm d rO hO _ _ q_36.1 q_36.2 e_37) rfl rfl (Nat.le_of_ble_eq_true rfl) <| s_istore [some (.ref 64), some (.int x1), some (.int s_23.1), some (.int s_23.2.1), some (.int (s_23.2.2 64 4)), some (.int q_36.1)] 25 rfl (by decide) rfl <| s_iload 26 rfl rfl <| s_bipush 43 27 rfl (by decide) <| ?_
        rcases iteS e with ⟨g_38, e⟩ | ⟨g_38, e⟩
        · cases e
          exact s_icmp_ne_T 28 63 rfl (by decide) g_38 <| s_iload_n 33 rfl rfl <| s_iload 34 rfl rfl <| s_isub 35 rfl <| s_istore_n [some (.ref 64), some (.int x1), some (.int (s_23.1 - q_36.1)), some (.int s_23.2.1), some (.int (s_23.2.2 64 4)), some (.int q_36.1)] 36 rfl (by decide) rfl <| s_iinc 1 [some (.ref 64), some (.int x1), some (.int (s_23.1 - q_36.1)), some (.int (s_23.2.1 + 1)), some (.int (s_23.2.2 64 4)), some (.int q_36.1)] 37 rfl (by decide) rfl (by decide) rfl <| s_goto 38 8 rfl (by decide) <| s_fgt [false, false, false, false, true, true] rfl <| (hk_18 ((s_23.1 - q_36.1), (s_23.2.1 + 1), q_36.2) rfl)
        · cases e
          exact s_icmp_ne_F 28 63 rfl (by decide) (Decidable.not_not.mp g_38) <| s_iload_n 29 rfl rfl <| s_iload 30 rfl rfl <| s_iadd 31 rfl <| s_goto 32 67 rfl (by decide) <| s_istore_n [some (.ref 64), some (.int x1), some (.int (s_23.1 + q_36.1)), some (.int s_23.2.1), some (.int (s_23.2.2 64 4)), some (.int q_36.1)] 36 rfl (by decide) rfl <| s_iinc 1 [some (.ref 64), some (.int x1), some (.int (s_23.1 + q_36.1)), some (.int (s_23.2.1 + 1)), some (.int (s_23.2.2 64 4)), some (.int q_36.1)] 37 rfl (by decide) rfl (by decide) rfl <| s_goto 38 8 rfl (by decide) <| s_fgt [false, false, false, false, true, true] rfl <| (hk_18 ((s_23.1 + q_36.1), (s_23.2.1 + 1), q_36.2) rfl)
def fX2_readText (rO : Int32 → Sto → Option (Int32 × Sto)) (x1 : Int32) (h : Sto) : Option (Int32 × Sto) :=
  (fX2_readSum rO x1 h).bind fun q_1 => if (q_1.2 64 4) = 60 then ((fX2_step q_1.2).bind fun q_4 => (fX2_readSum rO x1 q_4).bind fun q_6 => (if ¬ (q_1.2 64 4) = 60 then (if ¬ q_1.1 = q_6.1 then (some false) else (some true)) else (if q_6.1 ≤ q_1.1 then (some false) else (some true))).bind fun q_8 => (fX8_asInt (b2i q_8) q_6.2).bind fun q_13 => some (q_13, q_6.2)) else (if (q_1.2 64 4) = 61 then ((fX2_step q_1.2).bind fun q_16 => (fX2_readSum rO x1 q_16).bind fun q_18 => (if ¬ (q_1.2 64 4) = 60 then (if ¬ q_1.1 = q_18.1 then (some false) else (some true)) else (if q_18.1 ≤ q_1.1 then (some false) else (some true))).bind fun q_20 => (fX8_asInt (b2i q_20) q_18.2).bind fun q_25 => some (q_25, q_18.2)) else (some (q_1.1, q_1.2)))
set_option maxRecDepth 100000 in
set_option maxHeartbeats 4000000 in
theorem okX2_readText (d : Nat) (rO : Int32 → Sto → Option (Int32 × Sto)) (hO : ∀ (k : Nat) (x : Int32) (h : Sto) (qv : Int32) (qh : Sto), rO x h = some (qv, qh) → Ok yX2_readOne cX2_readOne 4 (some .int) (d + k + 13) [.ref 64, .int x] h (some (.int qv)) qh) (x1 : Int32) (h : Sto) (qv : Int32) (qh : Sto) (e : fX2_readText rO x1 h = some (qv, qh)) : Ok yX2_readText cX2_readText 5 (some .int) (d + 16) [.ref 64, .int x1] h (some (.int qv)) qh := by
  refine Ok_of (lst := kX2_readText) (own := RX2) ⟨by decide, rfl⟩ ckX2_readText trivial (Nat.le_of_ble_eq_true rfl) ?_
  unfold fX2_readText at e
  change Ev kX2_readText RX2 5 (d + 16) nox 0 [some (.ref 64), some (.int x1), none, none, none] [] h (some (.int qv)) qh
  obtain ⟨q_1, e_2, e⟩ := bndS e
  refine s_aload_n 0 rfl rfl <| s_iload_n 1 rfl rfl <| s_callV (b := 64) (ci := 2) 2 [.int x1] [] rfl ml_X2_39 yw_X2_readSum sh_64 rfl rfl (okX2_readSum d rO hO _ _ q_1.1 q_1.2 e_2) rfl rfl (Nat.le_of_ble_eq_true rfl) <| s_istore_n [some (.ref 64), some (.int x1), some (.int q_1.1), none, none] 3 rfl (by decide) rfl <| s_aload_n 4 rfl rfl <| s_geti 5 rfl fl_X2_42 sh_64 rfl <| s_istore_n [some (.ref 64), some (.int x1), some (.int q_1.1), some (.int (q_1.2 64 4)), none] 6 rfl (by decide) rfl <| s_iload_n 7 rfl rfl <| s_bipush 60 8 rfl (by decide) <| ?_
  rcases iteS e with ⟨g_3, e⟩ | ⟨g_3, e⟩
  · obtain ⟨q_4, e_5, e⟩ := bndS e
    obtain ⟨q_6, e_7, e⟩ := bndS e
    obtain ⟨q_8, e1, e⟩ := bndS e
    have k_9 : Ev kX2_readText RX2 5 (d + 16) nox 67 [none, none, none, none, none] [.int (b2i q_8)] q_6.2 (some (.int qv)) qh := by
      obtain ⟨q_13, e_14, e⟩ := bndS e
      obtain ⟨rfl, rfl⟩ := some2 e
      exact s_callSN 37 [.int (b2i q_8)] [] rfl ml_X2_45 yw_X8_asInt (okX8_asInt (d + 15) _ _ _ e_14) rfl rfl (Nat.le_of_ble_eq_true rfl) <| s_iret 38 rfl
    clear e
    have e := e1
    clear e1
    refine s_icmp_eq_T 9 25 rfl (by decide) g_3 <| s_aload_n 15 rfl rfl <| s_callV (b := 64) (ci := 2) 16 [] [] rfl ml_X2_28 yw_X2_step sh_64 rfl rfl (okX2_step (d + 3) _ _ e_5) rfl rfl (Nat.le_of_ble_eq_true rfl) <| s_aload_n 17 rfl rfl <| s_iload_n 18 rfl rfl <| s_callV (b := 64) (ci := 2) 19 [.int x1] [] rfl ml_X2_39 yw_X2_readSum sh_64 rfl rfl (okX2_readSum d rO hO _ _ q_6.1 q_6.2 e_7) rfl rfl (Nat.le_of_ble_eq_true rfl) <| s_istore [some (.ref 64), some (.int x1), some (.int q_1.1), some (.int (q_1.2 64 4)), some (.int q_6.1)] 20 rfl (by decide) rfl <| s_iload_n 21 rfl rfl <| s_bipush 60 22 rfl (by decide) <| ?_
    rcases iteS e with ⟨g_10, e⟩ | ⟨g_10, e⟩
    · refine s_icmp_ne_T 23 56 rfl (by decide) g_10 <| s_iload_n 31 rfl rfl <| s_iload 32 rfl rfl <| ?_
      rcases iteS e with ⟨g_11, e⟩ | ⟨g_11, e⟩
      · cases e
        exact s_icmp_ne_T 33 66 rfl (by decide) g_11 <| s_iconst 0 36 rfl (by decide) <| s_fgt [true, true, true, true, true] rfl <| k_9
      · cases e
        exact s_icmp_ne_F 33 66 rfl (by decide) (Decidable.not_not.mp g_11) <| s_iconst 1 34 rfl (by decide) <| s_goto 35 67 rfl (by decide) <| s_fgt [true, true, true, true, true] rfl <| k_9
    · refine s_icmp_ne_F 23 56 rfl (by decide) (Decidable.not_not.mp g_10) <| s_iload_n 24 rfl rfl <| s_iload 25 rfl rfl <| ?_
      rcases iteS e with ⟨g_12, e⟩ | ⟨g_12, e⟩
      · cases e
        exact s_icmp_ge_T 26 52 rfl (by decide) g_12 <| s_iconst 0 29 rfl (by decide) <| s_goto 30 67 rfl (by decide) <| s_fgt [true, true, true, true, true] rfl <| k_9
      · cases e
        exact s_icmp_ge_F 26 52 rfl (by decide) g_12 <| s_iconst 1 27 rfl (by decide) <| s_goto 28 67 rfl (by decide) <| s_fgt [true, true, true, true, true] rfl <| k_9
  · refine s_icmp_eq_F 9 25 rfl (by decide) g_3 <| s_iload_n 10 rfl rfl <| s_bipush 61 11 rfl (by decide) <| ?_
    rcases iteS e with ⟨g_15, e⟩ | ⟨g_15, e⟩
    · obtain ⟨q_16, e_17, e⟩ := bndS e
      obtain ⟨q_18, e_19, e⟩ := bndS e
      obtain ⟨q_20, e1, e⟩ := bndS e
      have k_21 : Ev kX2_readText RX2 5 (d + 16) nox 67 [none, none, none, none, none] [.int (b2i q_20)] q_18.2 (some (.int qv)) qh := by
        obtain ⟨q_25, e_26, e⟩ := bndS e
        obtain ⟨rfl, rfl⟩ := some2 e
        exact s_callSN 37 [.int (b2i q_20)] [] rfl ml_X2_45 yw_X8_asInt (okX8_asInt (d + 15) _ _ _ e_26) rfl rfl (Nat.le_of_ble_eq_true rfl) <| s_iret 38 rfl
      clear e
      have e := e1
      clear e1
      refine s_icmp_eq_T 12 25 rfl (by decide) g_15 <| s_aload_n 15 rfl rfl <| s_callV (b := 64) (ci := 2) 16 [] [] rfl ml_X2_28 yw_X2_step sh_64 rfl rfl (okX2_step (d + 3) _ _ e_17) rfl rfl (Nat.le_of_ble_eq_true rfl) <| s_aload_n 17 rfl rfl <| s_iload_n 18 rfl rfl <| s_callV (b := 64) (ci := 2) 19 [.int x1] [] rfl ml_X2_39 yw_X2_readSum sh_64 rfl rfl (okX2_readSum d rO hO _ _ q_18.1 q_18.2 e_19) rfl rfl (Nat.le_of_ble_eq_true rfl) <| s_istore [some (.ref 64), some (.int x1), some (.int q_1.1), some (.int (q_1.2 64 4)), some (.int q_18.1)] 20 rfl (by decide) rfl <| s_iload_n 21 rfl rfl <| s_bipush 60 22 rfl (by decide) <| ?_
      rcases iteS e with ⟨g_22, e⟩ | ⟨g_22, e⟩
      · refine s_icmp_ne_T 23 56 rfl (by decide) g_22 <| s_iload_n 31 rfl rfl <| s_iload 32 rfl rfl <| ?_
        rcases iteS e with ⟨g_23, e⟩ | ⟨g_23, e⟩
        · cases e
          exact s_icmp_ne_T 33 66 rfl (by decide) g_23 <| s_iconst 0 36 rfl (by decide) <| s_fgt [true, true, true, true, true] rfl <| k_21
        · cases e
          exact s_icmp_ne_F 33 66 rfl (by decide) (Decidable.not_not.mp g_23) <| s_iconst 1 34 rfl (by decide) <| s_goto 35 67 rfl (by decide) <| s_fgt [true, true, true, true, true] rfl <| k_21
      · refine s_icmp_ne_F 23 56 rfl (by decide) (Decidable.not_not.mp g_22) <| s_iload_n 24 rfl rfl <| s_iload 25 rfl rfl <| ?_
        rcases iteS e with ⟨g_24, e⟩ | ⟨g_24, e⟩
        · cases e
          exact s_icmp_ge_T 26 52 rfl (by decide) g_24 <| s_iconst 0 29 rfl (by decide) <| s_goto 30 67 rfl (by decide) <| s_fgt [true, true, true, true, true] rfl <| k_21
        · cases e
          exact s_icmp_ge_F 26 52 rfl (by decide) g_24 <| s_iconst 1 27 rfl (by decide) <| s_goto 28 67 rfl (by decide) <| s_fgt [true, true, true, true, true] rfl <| k_21
    · obtain ⟨rfl, rfl⟩ := some2 e
      exact s_icmp_eq_F 12 25 rfl (by decide) g_15 <| s_iload_n 13 rfl rfl <| s_iret 14 rfl
