/-! 11 methods (written by wip/whole/gen_m.py) -/
def fX9_byGap (x1 : Int32) (x2 : Int32) (h : Sto) : Option Bool :=
  (fX9_of x1 1 h).bind fun q_1 => grd (¬ q_1 = 0) <| if ¬ (jrem x2 q_1) = 0 then (some false) else (some true)
set_option maxRecDepth 100000 in
set_option maxHeartbeats 4000000 in
theorem okX9_byGap (d : Nat) (x1 : Int32) (x2 : Int32) (h : Sto) (q : Bool) (e : fX9_byGap x1 x2 h = some q) : Ok yX9_byGap cX9_byGap 3 (some .boolean) (d + 1) [.ref 83, .int x1, .int x2] h (some (.int (b2i q))) h := by
  refine Ok_of (lst := kX9_byGap) (own := RX9) ⟨by decide, rfl⟩ ckX9_byGap (b2i_01 _) (Nat.le_of_ble_eq_true rfl) ?_
  unfold fX9_byGap at e
  change Ev kX9_byGap RX9 3 (d + 1) nox 0 [some (.ref 83), some (.int x1), some (.int x2)] [] h (some (.int (b2i q))) h
  obtain ⟨q_1, e_2, e⟩ := bndS e
  obtain ⟨g_3, e⟩ := grdS e
  refine s_iload_n 0 rfl rfl <| s_aload_n 1 rfl rfl <| s_iload_n 2 rfl rfl <| s_iconst 1 3 rfl (by decide) <| s_callV (b := 83) (ci := 9) 4 [.int x1, .int 1] [.int x2] rfl ml_X9_69 yw_X9_of sh_83 rfl rfl (okX9_of d _ _ _ _ e_2) rfl rfl (Nat.le_of_ble_eq_true rfl) <| s_irem 5 rfl g_3 <| ?_
  rcases iteS e with ⟨g_4, e⟩ | ⟨g_4, e⟩
  · obtain rfl := Option.some.inj e
    exact s_if_ne_T 6 15 rfl (by decide) g_4 <| s_iconst 0 9 rfl (by decide) <| s_iret 10 rfl
  · obtain rfl := Option.some.inj e
    exact s_if_ne_F 6 15 rfl (by decide) (Decidable.not_not.mp g_4) <| s_iconst 1 7 rfl (by decide) <| s_goto 8 16 rfl (by decide) <| s_iret 10 rfl
def fX9_byClock (x1 : Int32) (x2 : Int32) (h : Sto) : Option Bool :=
  (fX9_of x1 1 h).bind fun q_1 => grd (¬ q_1 = 0) <| (fX9_of x1 3 h).bind fun q_4 => grd (¬ (q_4 + 1) = 0) <| (some (jrem ((7 * (x2 / q_1)) + (3 * x1)) (q_4 + 1))).bind fun y_7 => grd (¬ q_1 = 0) <| (if q_1 ≤ y_7 then (some (q_1 - 1)) else (some y_7)).bind fun q_9 => if ¬ (jrem x2 q_1) = q_9 then (some false) else (some true)
set_option maxRecDepth 100000 in
set_option maxHeartbeats 4000000 in
theorem okX9_byClock (d : Nat) (x1 : Int32) (x2 : Int32) (h : Sto) (q : Bool) (e : fX9_byClock x1 x2 h = some q) : Ok yX9_byClock cX9_byClock 5 (some .boolean) (d + 1) [.ref 83, .int x1, .int x2] h (some (.int (b2i q))) h := by
  refine Ok_of (lst := kX9_byClock) (own := RX9) ⟨by decide, rfl⟩ ckX9_byClock (b2i_01 _) (Nat.le_of_ble_eq_true rfl) ?_
  unfold fX9_byClock at e
  change Ev kX9_byClock RX9 5 (d + 1) nox 0 [some (.ref 83), some (.int x1), some (.int x2), none, none] [] h (some (.int (b2i q))) h
  obtain ⟨q_1, e_2, e⟩ := bndS e
  obtain ⟨g_3, e⟩ := grdS e
  obtain ⟨q_4, e_5, e⟩ := bndS e
  obtain ⟨g_6, e⟩ := grdS e
  obtain ⟨y_7, ey_7, e⟩ := bndS e
  obtain ⟨g_8, e⟩ := grdS e
  obtain ⟨q_9, e1, e⟩ := bndS e
  have k_10 : Ev kX9_byClock RX9 5 (d + 1) nox 45 [none, none, none, none, none] [.int q_9, .int (jrem x2 q_1)] h (some (.int (b2i q))) h := by
    rcases iteS e with ⟨g_12, e⟩ | ⟨g_12, e⟩
    · obtain rfl := Option.some.inj e
      exact s_icmp_ne_T 33 52 rfl (by decide) g_12 <| s_iconst 0 36 rfl (by decide) <| s_iret 37 rfl
    · obtain rfl := Option.some.inj e
      exact s_icmp_ne_F 33 52 rfl (by decide) (Decidable.not_not.mp g_12) <| s_iconst 1 34 rfl (by decide) <| s_goto 35 53 rfl (by decide) <| s_iret 37 rfl
  clear e
  have e := e1
  clear e1
  refine s_aload_n 0 rfl rfl <| s_iload_n 1 rfl rfl <| s_iconst 1 2 rfl (by decide) <| s_callV (b := 83) (ci := 9) 3 [.int x1, .int 1] [] rfl ml_X9_69 yw_X9_of sh_83 rfl rfl (okX9_of d _ _ _ _ e_2) rfl rfl (Nat.le_of_ble_eq_true rfl) <| s_istore_n [some (.ref 83), some (.int x1), some (.int x2), some (.int q_1), none] 4 rfl (by decide) rfl <| s_bipush 7 5 rfl (by decide) <| s_iload_n 6 rfl rfl <| s_iload_n 7 rfl rfl <| s_idiv 8 rfl g_3 <| s_imul 9 rfl <| s_iconst 3 10 rfl (by decide) <| s_iload_n 11 rfl rfl <| s_imul 12 rfl <| s_iadd 13 rfl <| s_aload_n 14 rfl rfl <| s_iload_n 15 rfl rfl <| s_iconst 3 16 rfl (by decide) <| s_callV (b := 83) (ci := 9) 17 [.int x1, .int 3] [.int ((7 * (x2 / q_1)) + (3 * x1))] rfl ml_X9_69 yw_X9_of sh_83 rfl rfl (okX9_of d _ _ _ _ e_5) rfl rfl (Nat.le_of_ble_eq_true rfl) <| s_iconst 1 18 rfl (by decide) <| s_iadd 19 rfl <| s_irem 20 rfl g_6 <| s_nmI (Option.some.inj ey_7) <| s_istore [some (.ref 83), some (.int x1), some (.int x2), some (.int q_1), some (.int y_7)] 21 rfl (by decide) rfl <| s_iload_n 22 rfl rfl <| s_iload_n 23 rfl rfl <| s_irem 24 rfl g_8 <| s_iload 25 rfl rfl <| s_iload_n 26 rfl rfl <| ?_
  rcases iteS e with ⟨g_11, e⟩ | ⟨g_11, e⟩
  · cases e
    exact s_icmp_ge_T 27 42 rfl (by decide) g_11 <| s_iload_n 30 rfl rfl <| s_iconst 1 31 rfl (by decide) <| s_isub 32 rfl <| s_fgt [true, true, true, true, true] rfl <| k_10
  · cases e
    exact s_icmp_ge_F 27 42 rfl (by decide) g_11 <| s_iload 28 rfl rfl <| s_goto 29 45 rfl (by decide) <| s_fgt [true, true, true, true, true] rfl <| k_10
def fX9_word (x1 : Int32) (x2 : Int32) (h : Sto) : Option Int32 :=
  grd (inb ((118 + (3 * x1)) + x2) 1214) <| some (h 84 (Int32.toNatClampNeg ((118 + (3 * x1)) + x2)))
set_option maxRecDepth 100000 in
set_option maxHeartbeats 4000000 in
theorem okX9_word (d : Nat) (x1 : Int32) (x2 : Int32) (h : Sto) (q : Int32) (e : fX9_word x1 x2 h = some q) : Ok yX9_word cX9_word 3 (some .int) d [.ref 83, .int x1, .int x2] h (some (.int q)) h := by
  refine Ok_of (lst := kX9_word) (own := RX9) ⟨by decide, rfl⟩ ckX9_word trivial (Nat.le_of_ble_eq_true rfl) ?_
  unfold fX9_word at e
  change Ev kX9_word RX9 3 d nox 0 [some (.ref 83), some (.int x1), some (.int x2)] [] h (some (.int q)) h
  obtain ⟨g_1, e⟩ := grdS e
  obtain rfl := Option.some.inj e
  exact s_aload_n 0 rfl rfl <| s_getr 1 rfl fl_X9_9 sh_83 rfl <| s_bipush 118 2 rfl (by decide) <| s_iconst 3 3 rfl (by decide) <| s_iload_n 4 rfl rfl <| s_imul 5 rfl <| s_iadd 6 rfl <| s_iload_n 7 rfl rfl <| s_iadd 8 rfl <| s_iald (Int32.toNatClampNeg ((118 + (3 * x1)) + x2)) 9 rfl sh_84 g_1 rfl <| s_iret 10 rfl
def fX9_isLed_b2 (x1 : Int32) (x2 : Int32) (h : Sto) (c3 : Int32) : Option (Int32 ⊕ (Unit ⊕ Bool)) :=
  if (h 84 2) ≤ c3 then (some (.inr (.inl ()))) else ((fX9_word c3 1 h).bind fun q_2 => if ¬ q_2 = x1 then (some (.inl (c3 + 1))) else ((fX9_word c3 0 h).bind fun q_5 => if ¬ q_5 = x2 then (some (.inl (c3 + 1))) else (some (.inr (.inr true)))))
def fX9_isLed (x1 : Int32) (x2 : Int32) (h : Sto) : Option Bool :=
  (lp (fun s => fX9_isLed_b2 x1 x2 h s) FUEL 0).bind fun y_8 => Sum.elim (fun v_16 => some false) (fun z_17 => some z_17) y_8
set_option maxRecDepth 100000 in
set_option maxHeartbeats 4000000 in
theorem okX9_isLed (d : Nat) (x1 : Int32) (x2 : Int32) (h : Sto) (q : Bool) (e : fX9_isLed x1 x2 h = some q) : Ok yX9_isLed cX9_isLed 4 (some .boolean) (d + 1) [.ref 83, .int x1, .int x2] h (some (.int (b2i q))) h := by
  refine Ok_of (lst := kX9_isLed) (own := RX9) ⟨by decide, rfl⟩ ckX9_isLed (b2i_01 _) (Nat.le_of_ble_eq_true rfl) ?_
  unfold fX9_isLed at e
  change Ev kX9_isLed RX9 4 (d + 1) nox 0 [some (.ref 83), some (.int x1), some (.int x2), none] [] h (some (.int (b2i q))) h
  obtain ⟨y_8, e_9, e⟩ := bndS e
  have kx_12 : ∀ v_16 : Unit, .inl v_16 = y_8 → Ev kX9_isLed RX9 4 (d + 1) nox 40 [none, none, none, none] [] h (some (.int (b2i q))) h := by
    intro v_16 hy
    subst hy
    have e := elL e
    obtain rfl := Option.some.inj e
    exact s_iconst 0 24 rfl (by decide) <| s_iret 25 rfl
  have kz_13 : ∀ z_17 : Bool, .inr z_17 = y_8 → z_17 = q := by
    intro z_17 hy
    subst hy
    have e := elR e
    exact Option.some.inj e
  refine s_iconst 0 0 rfl (by decide) <| s_istore_n [some (.ref 83), some (.int x1), some (.int x2), some (.int 0)] 1 rfl (by decide) rfl <| lpS (P := fun (s_15 : Int32) => Ev kX9_isLed RX9 4 (d + 1) nox 2 [some (.ref 83), some (.int x1), some (.int x2), some (.int s_15)] [] h (some (.int (b2i q))) h) ?_ FUEL _ e_9
  intro s_15 o_14 e hk_10 hx_11
  unfold fX9_isLed_b2 at e
  refine s_iload_n 2 rfl rfl <| s_aload_n 3 rfl rfl <| s_getr 4 rfl fl_X9_9 sh_83 rfl <| s_iconst 2 5 rfl (by decide) <| s_iald 2 6 rfl sh_84 (by decide) (by decide) <| ?_
  rcases iteS e with ⟨g_18, e⟩ | ⟨g_18, e⟩
  · cases e
    exact s_icmp_ge_T 7 40 rfl (by decide) g_18 <| s_fgt [true, true, true, true] rfl <| (kx_12 () (hx_11 _ rfl))
  · obtain ⟨q_19, e_20, e⟩ := bndS e
    refine s_icmp_ge_F 7 40 rfl (by decide) g_18 <| s_aload_n 8 rfl rfl <| s_iload_n 9 rfl rfl <| s_iconst 1 10 rfl (by decide) <| s_callV (b := 83) (ci := 9) 11 [.int s_15, .int 1] [] rfl ml_X9_101 yw_X9_word sh_83 rfl rfl (okX9_word d _ _ _ _ e_20) rfl rfl (Nat.le_of_ble_eq_true rfl) <| s_iload_n 12 rfl rfl <| ?_
    rcases iteS e with ⟨g_21, e⟩ | ⟨g_21, e⟩
    · cases e
      exact s_icmp_ne_T 13 34 rfl (by decide) g_21 <| s_iinc 1 [some (.ref 83), some (.int x1), some (.int x2), some (.int (s_15 + 1))] 22 rfl (by decide) rfl (by decide) rfl <| s_goto 23 2 rfl (by decide) <| (hk_10 (s_15 + 1) rfl)
    · obtain ⟨q_22, e_23, e⟩ := bndS e
      refine s_icmp_ne_F 13 34 rfl (by decide) (Decidable.not_not.mp g_21) <| s_aload_n 14 rfl rfl <| s_iload_n 15 rfl rfl <| s_iconst 0 16 rfl (by decide) <| s_callV (b := 83) (ci := 9) 17 [.int s_15, .int 0] [] rfl ml_X9_101 yw_X9_word sh_83 rfl rfl (okX9_word d _ _ _ _ e_23) rfl rfl (Nat.le_of_ble_eq_true rfl) <| s_iload_n 18 rfl rfl <| ?_
      rcases iteS e with ⟨g_24, e⟩ | ⟨g_24, e⟩
      · cases e
        exact s_icmp_ne_T 19 34 rfl (by decide) g_24 <| s_iinc 1 [some (.ref 83), some (.int x1), some (.int x2), some (.int (s_15 + 1))] 22 rfl (by decide) rfl (by decide) rfl <| s_goto 23 2 rfl (by decide) <| (hk_10 (s_15 + 1) rfl)
      · cases e
        have z0 := kz_13 _ (hx_11 _ rfl)
        subst z0
        exact s_icmp_ne_F 19 34 rfl (by decide) (Decidable.not_not.mp g_24) <| s_iconst 1 20 rfl (by decide) <| s_iret 21 rfl
def fX9_doesSpeak (x1 : Int32) (x2 : Int32) (h : Sto) : Option Bool :=
  (fX9_of x1 0 h).bind fun q_1 => if q_1 < 0 ∨ 6 < q_1 then ((fX9_isAwake x1 x2 h).bind fun q_4 => if q_4 = true then (if ¬ (jrem (x2 / 1000) 7) = 6 then ((fX9_byGap x1 x2 h).bind fun q_8 => if q_8 = true then (some true) else (some false)) else ((fX9_byClock x1 x2 h).bind fun q_11 => if q_11 = true then (some true) else (some false))) else (some false)) else if q_1 = 0 then ((fX9_byGap x1 x2 h).bind fun q_15 => some q_15) else if q_1 = 1 then ((fX9_byGap x1 x2 h).bind fun q_18 => if q_18 = true then ((fX9_isAwake x1 x2 h).bind fun q_21 => if q_21 = true then (some true) else (some false)) else (some false)) else if q_1 = 2 then ((fX9_byClock x1 x2 h).bind fun q_25 => some q_25) else if q_1 = 3 then ((fX9_byGap x1 x2 h).bind fun q_28 => if q_28 = true then ((fX9_isAwake x1 x2 h).bind fun q_31 => if q_31 = true then (some true) else (some false)) else (some false)) else if q_1 = 4 then ((fX9_byClock x1 x2 h).bind fun q_35 => if q_35 = true then ((fX9_isAwake x1 x2 h).bind fun q_38 => if q_38 = true then (some true) else (some false)) else (some false)) else if q_1 = 5 then (if x2 < (2 * x1) then (some false) else ((fX9_of x1 1 h).bind fun q_43 => grd (¬ q_43 = 0) <| if ¬ (jrem (x2 - (2 * x1)) q_43) = 0 then (some false) else (some true))) else if q_1 = 6 then ((fX9_byGap x1 x2 h).bind fun q_48 => if q_48 = true then ((fX9_isAwake x1 x2 h).bind fun q_51 => if q_51 = true then (some true) else ((fX9_of x1 4 h).bind fun q_54 => if q_54 < 0 then (some false) else ((fX9_of x1 4 h).bind fun q_57 => (fX9_isLed q_57 (x2 - 1) h).bind fun q_59 => if q_59 = true then (some true) else (some false)))) else ((fX9_of x1 4 h).bind fun q_62 => if q_62 < 0 then (some false) else ((fX9_of x1 4 h).bind fun q_65 => (fX9_isLed q_65 (x2 - 1) h).bind fun q_67 => if q_67 = true then (some true) else (some false)))) else none
set_option maxRecDepth 100000 in
set_option maxHeartbeats 4000000 in
theorem okX9_doesSpeak (d : Nat) (x1 : Int32) (x2 : Int32) (h : Sto) (q : Bool) (e : fX9_doesSpeak x1 x2 h = some q) : Ok yX9_doesSpeak cX9_doesSpeak 3 (some .boolean) (d + 2) [.ref 83, .int x1, .int x2] h (some (.int (b2i q))) h := by
  refine Ok_of (lst := kX9_doesSpeak) (own := RX9) ⟨by decide, rfl⟩ ckX9_doesSpeak (b2i_01 _) (Nat.le_of_ble_eq_true rfl) ?_
  unfold fX9_doesSpeak at e
  change Ev kX9_doesSpeak RX9 3 (d + 2) nox 0 [some (.ref 83), some (.int x1), some (.int x2)] [] h (some (.int (b2i q))) h
  obtain ⟨q_1, e_2, e⟩ := bndS e
  refine s_aload_n 0 rfl rfl <| s_iload_n 1 rfl rfl <| s_iconst 0 2 rfl (by decide) <| s_callV (b := 83) (ci := 9) 3 [.int x1, .int 0] [] rfl ml_X9_69 yw_X9_of sh_83 rfl rfl (okX9_of (d + 1) _ _ _ _ e_2) rfl rfl (Nat.le_of_ble_eq_true rfl) <| ?_
  rcases iteS e with ⟨g_3, e⟩ | ⟨g_3, e⟩
  · obtain ⟨q_4, e_5, e⟩ := bndS e
    refine s_swOut 0 6 4 187 rfl g_3 (by decide) <| s_aload_n 92 rfl rfl <| s_iload_n 93 rfl rfl <| s_iload_n 94 rfl rfl <| s_callV (b := 83) (ci := 9) 95 [.int x1, .int x2] [] rfl ml_X9_107 yw_X9_isAwake sh_83 rfl rfl (okX9_isAwake d _ _ _ _ e_5) rfl rfl (Nat.le_of_ble_eq_true rfl) <| ?_
    rcases iteS e with ⟨g_6, e⟩ | ⟨g_6, e⟩
    · refine s_if_eq_F 96 234 rfl (by decide) (b2i_T g_6) <| s_iload_n 97 rfl rfl <| s_sipush 1000 98 rfl (by decide) <| s_idiv 99 rfl (by decide) <| s_bipush 7 100 rfl (by decide) <| s_irem 101 rfl (by decide) <| s_bipush 6 102 rfl (by decide) <| ?_
      rcases iteS e with ⟨g_7, e⟩ | ⟨g_7, e⟩
      · obtain ⟨q_8, e_9, e⟩ := bndS e
        refine s_icmp_ne_T 103 221 rfl (by decide) g_7 <| s_aload_n 110 rfl rfl <| s_iload_n 111 rfl rfl <| s_iload_n 112 rfl rfl <| s_callV (b := 83) (ci := 9) 113 [.int x1, .int x2] [] rfl ml_X9_104 yw_X9_byGap sh_83 rfl rfl (okX9_byGap d _ _ _ _ e_9) rfl rfl (Nat.le_of_ble_eq_true rfl) <| ?_
        rcases iteS e with ⟨g_10, e⟩ | ⟨g_10, e⟩
        · obtain rfl := Option.some.inj e
          exact s_if_eq_F 114 234 rfl (by decide) (b2i_T g_10) <| s_iconst 1 115 rfl (by decide) <| s_goto 116 235 rfl (by decide) <| s_iret 118 rfl
        · obtain rfl := Option.some.inj e
          exact s_if_eq_T 114 234 rfl (by decide) (b2i_F g_10) <| s_iconst 0 117 rfl (by decide) <| s_iret 118 rfl
      · obtain ⟨q_11, e_12, e⟩ := bndS e
        refine s_icmp_ne_F 103 221 rfl (by decide) (Decidable.not_not.mp g_7) <| s_aload_n 104 rfl rfl <| s_iload_n 105 rfl rfl <| s_iload_n 106 rfl rfl <| s_callV (b := 83) (ci := 9) 107 [.int x1, .int x2] [] rfl ml_X9_110 yw_X9_byClock sh_83 rfl rfl (okX9_byClock d _ _ _ _ e_12) rfl rfl (Nat.le_of_ble_eq_true rfl) <| ?_
        rcases iteS e with ⟨g_13, e⟩ | ⟨g_13, e⟩
        · obtain rfl := Option.some.inj e
          exact s_if_eq_F 108 234 rfl (by decide) (b2i_T g_13) <| s_goto 109 230 rfl (by decide) <| s_iconst 1 115 rfl (by decide) <| s_goto 116 235 rfl (by decide) <| s_iret 118 rfl
        · obtain rfl := Option.some.inj e
          exact s_if_eq_T 108 234 rfl (by decide) (b2i_F g_13) <| s_iconst 0 117 rfl (by decide) <| s_iret 118 rfl
    · obtain rfl := Option.some.inj e
      exact s_if_eq_T 96 234 rfl (by decide) (b2i_F g_6) <| s_iconst 0 117 rfl (by decide) <| s_iret 118 rfl
  rcases iteS e with ⟨g_14, e⟩ | ⟨g_14, e⟩
  · obtain ⟨q_15, e_16, e⟩ := bndS e
    obtain rfl := Option.some.inj e
    exact s_swIn (off := 42) 0 4 48 rfl g_14 (by decide) <| s_aload_n 5 rfl rfl <| s_iload_n 6 rfl rfl <| s_iload_n 7 rfl rfl <| s_callV (b := 83) (ci := 9) 8 [.int x1, .int x2] [] rfl ml_X9_104 yw_X9_byGap sh_83 rfl rfl (okX9_byGap d _ _ _ _ e_16) rfl rfl (Nat.le_of_ble_eq_true rfl) <| s_iret 9 rfl
  rcases iteS e with ⟨g_17, e⟩ | ⟨g_17, e⟩
  · obtain ⟨q_18, e_19, e⟩ := bndS e
    refine s_swIn (off := 49) 1 4 55 rfl g_17 (by decide) <| s_aload_n 10 rfl rfl <| s_iload_n 11 rfl rfl <| s_iload_n 12 rfl rfl <| s_callV (b := 83) (ci := 9) 13 [.int x1, .int x2] [] rfl ml_X9_104 yw_X9_byGap sh_83 rfl rfl (okX9_byGap d _ _ _ _ e_19) rfl rfl (Nat.le_of_ble_eq_true rfl) <| ?_
    rcases iteS e with ⟨g_20, e⟩ | ⟨g_20, e⟩
    · obtain ⟨q_21, e_22, e⟩ := bndS e
      refine s_if_eq_F 14 77 rfl (by decide) (b2i_T g_20) <| s_aload_n 15 rfl rfl <| s_iload_n 16 rfl rfl <| s_iload_n 17 rfl rfl <| s_callV (b := 83) (ci := 9) 18 [.int x1, .int x2] [] rfl ml_X9_107 yw_X9_isAwake sh_83 rfl rfl (okX9_isAwake d _ _ _ _ e_22) rfl rfl (Nat.le_of_ble_eq_true rfl) <| ?_
      rcases iteS e with ⟨g_23, e⟩ | ⟨g_23, e⟩
      · obtain rfl := Option.some.inj e
        exact s_if_eq_F 19 77 rfl (by decide) (b2i_T g_23) <| s_iconst 1 20 rfl (by decide) <| s_goto 21 78 rfl (by decide) <| s_iret 23 rfl
      · obtain rfl := Option.some.inj e
        exact s_if_eq_T 19 77 rfl (by decide) (b2i_F g_23) <| s_iconst 0 22 rfl (by decide) <| s_iret 23 rfl
    · obtain rfl := Option.some.inj e
      exact s_if_eq_T 14 77 rfl (by decide) (b2i_F g_20) <| s_iconst 0 22 rfl (by decide) <| s_iret 23 rfl
  rcases iteS e with ⟨g_24, e⟩ | ⟨g_24, e⟩
  · obtain ⟨q_25, e_26, e⟩ := bndS e
    obtain rfl := Option.some.inj e
    exact s_swIn (off := 73) 2 4 79 rfl g_24 (by decide) <| s_aload_n 24 rfl rfl <| s_iload_n 25 rfl rfl <| s_iload_n 26 rfl rfl <| s_callV (b := 83) (ci := 9) 27 [.int x1, .int x2] [] rfl ml_X9_110 yw_X9_byClock sh_83 rfl rfl (okX9_byClock d _ _ _ _ e_26) rfl rfl (Nat.le_of_ble_eq_true rfl) <| s_iret 28 rfl
  rcases iteS e with ⟨g_27, e⟩ | ⟨g_27, e⟩
  · obtain ⟨q_28, e_29, e⟩ := bndS e
    refine s_swIn (off := 49) 3 4 55 rfl g_27 (by decide) <| s_aload_n 10 rfl rfl <| s_iload_n 11 rfl rfl <| s_iload_n 12 rfl rfl <| s_callV (b := 83) (ci := 9) 13 [.int x1, .int x2] [] rfl ml_X9_104 yw_X9_byGap sh_83 rfl rfl (okX9_byGap d _ _ _ _ e_29) rfl rfl (Nat.le_of_ble_eq_true rfl) <| ?_
    rcases iteS e with ⟨g_30, e⟩ | ⟨g_30, e⟩
    · obtain ⟨q_31, e_32, e⟩ := bndS e
      refine s_if_eq_F 14 77 rfl (by decide) (b2i_T g_30) <| s_aload_n 15 rfl rfl <| s_iload_n 16 rfl rfl <| s_iload_n 17 rfl rfl <| s_callV (b := 83) (ci := 9) 18 [.int x1, .int x2] [] rfl ml_X9_107 yw_X9_isAwake sh_83 rfl rfl (okX9_isAwake d _ _ _ _ e_32) rfl rfl (Nat.le_of_ble_eq_true rfl) <| ?_
      rcases iteS e with ⟨g_33, e⟩ | ⟨g_33, e⟩
      · obtain rfl := Option.some.inj e
        exact s_if_eq_F 19 77 rfl (by decide) (b2i_T g_33) <| s_iconst 1 20 rfl (by decide) <| s_goto 21 78 rfl (by decide) <| s_iret 23 rfl
      · obtain rfl := Option.some.inj e
        exact s_if_eq_T 19 77 rfl (by decide) (b2i_F g_33) <| s_iconst 0 22 rfl (by decide) <| s_iret 23 rfl
    · obtain rfl := Option.some.inj e
      exact s_if_eq_T 14 77 rfl (by decide) (b2i_F g_30) <| s_iconst 0 22 rfl (by decide) <| s_iret 23 rfl
  rcases iteS e with ⟨g_34, e⟩ | ⟨g_34, e⟩
  · obtain ⟨q_35, e_36, e⟩ := bndS e
    refine s_swIn (off := 80) 4 4 86 rfl g_34 (by decide) <| s_aload_n 29 rfl rfl <| s_iload_n 30 rfl rfl <| s_iload_n 31 rfl rfl <| s_callV (b := 83) (ci := 9) 32 [.int x1, .int x2] [] rfl ml_X9_110 yw_X9_byClock sh_83 rfl rfl (okX9_byClock d _ _ _ _ e_36) rfl rfl (Nat.le_of_ble_eq_true rfl) <| ?_
    rcases iteS e with ⟨g_37, e⟩ | ⟨g_37, e⟩
    · obtain ⟨q_38, e_39, e⟩ := bndS e
      refine s_if_eq_F 33 108 rfl (by decide) (b2i_T g_37) <| s_aload_n 34 rfl rfl <| s_iload_n 35 rfl rfl <| s_iload_n 36 rfl rfl <| s_callV (b := 83) (ci := 9) 37 [.int x1, .int x2] [] rfl ml_X9_107 yw_X9_isAwake sh_83 rfl rfl (okX9_isAwake d _ _ _ _ e_39) rfl rfl (Nat.le_of_ble_eq_true rfl) <| ?_
      rcases iteS e with ⟨g_40, e⟩ | ⟨g_40, e⟩
      · obtain rfl := Option.some.inj e
        exact s_if_eq_F 38 108 rfl (by decide) (b2i_T g_40) <| s_iconst 1 39 rfl (by decide) <| s_goto 40 109 rfl (by decide) <| s_iret 42 rfl
      · obtain rfl := Option.some.inj e
        exact s_if_eq_T 38 108 rfl (by decide) (b2i_F g_40) <| s_iconst 0 41 rfl (by decide) <| s_iret 42 rfl
    · obtain rfl := Option.some.inj e
      exact s_if_eq_T 33 108 rfl (by decide) (b2i_F g_37) <| s_iconst 0 41 rfl (by decide) <| s_iret 42 rfl
  rcases iteS e with ⟨g_41, e⟩ | ⟨g_41, e⟩
  · refine s_swIn (off := 104) 5 4 110 rfl g_41 (by decide) <| s_iload_n 43 rfl rfl <| s_iconst 2 44 rfl (by decide) <| s_iload_n 45 rfl rfl <| s_imul 46 rfl <| ?_
    rcases iteS e with ⟨g_42, e⟩ | ⟨g_42, e⟩
    · obtain rfl := Option.some.inj e
      exact s_icmp_lt_T 47 136 rfl (by decide) g_42 <| s_iconst 0 61 rfl (by decide) <| s_iret 62 rfl
    · obtain ⟨q_43, e_44, e⟩ := bndS e
      obtain ⟨g_45, e⟩ := grdS e
      refine s_icmp_lt_F 47 136 rfl (by decide) g_42 <| s_iload_n 48 rfl rfl <| s_iconst 2 49 rfl (by decide) <| s_iload_n 50 rfl rfl <| s_imul 51 rfl <| s_isub 52 rfl <| s_aload_n 53 rfl rfl <| s_iload_n 54 rfl rfl <| s_iconst 1 55 rfl (by decide) <| s_callV (b := 83) (ci := 9) 56 [.int x1, .int 1] [.int (x2 - (2 * x1))] rfl ml_X9_69 yw_X9_of sh_83 rfl rfl (okX9_of (d + 1) _ _ _ _ e_44) rfl rfl (Nat.le_of_ble_eq_true rfl) <| s_irem 57 rfl g_45 <| ?_
      rcases iteS e with ⟨g_46, e⟩ | ⟨g_46, e⟩
      · obtain rfl := Option.some.inj e
        exact s_if_ne_T 58 136 rfl (by decide) g_46 <| s_iconst 0 61 rfl (by decide) <| s_iret 62 rfl
      · obtain rfl := Option.some.inj e
        exact s_if_ne_F 58 136 rfl (by decide) (Decidable.not_not.mp g_46) <| s_iconst 1 59 rfl (by decide) <| s_goto 60 137 rfl (by decide) <| s_iret 62 rfl
  rcases iteS e with ⟨g_47, e⟩ | ⟨g_47, e⟩
  · obtain ⟨q_48, e_49, e⟩ := bndS e
    refine s_swIn (off := 132) 6 4 138 rfl g_47 (by decide) <| s_aload_n 63 rfl rfl <| s_iload_n 64 rfl rfl <| s_iload_n 65 rfl rfl <| s_callV (b := 83) (ci := 9) 66 [.int x1, .int x2] [] rfl ml_X9_104 yw_X9_byGap sh_83 rfl rfl (okX9_byGap d _ _ _ _ e_49) rfl rfl (Nat.le_of_ble_eq_true rfl) <| ?_
    rcases iteS e with ⟨g_50, e⟩ | ⟨g_50, e⟩
    · obtain ⟨q_51, e_52, e⟩ := bndS e
      refine s_if_eq_F 67 156 rfl (by decide) (b2i_T g_50) <| s_aload_n 68 rfl rfl <| s_iload_n 69 rfl rfl <| s_iload_n 70 rfl rfl <| s_callV (b := 83) (ci := 9) 71 [.int x1, .int x2] [] rfl ml_X9_107 yw_X9_isAwake sh_83 rfl rfl (okX9_isAwake d _ _ _ _ e_52) rfl rfl (Nat.le_of_ble_eq_true rfl) <| ?_
      rcases iteS e with ⟨g_53, e⟩ | ⟨g_53, e⟩
      · obtain rfl := Option.some.inj e
        exact s_if_ne_T 72 181 rfl (by decide) (b2i_T g_53) <| s_iconst 1 88 rfl (by decide) <| s_goto 89 186 rfl (by decide) <| s_iret 91 rfl
      · obtain ⟨q_54, e_55, e⟩ := bndS e
        refine s_if_ne_F 72 181 rfl (by decide) (b2i_F g_53) <| s_aload_n 73 rfl rfl <| s_iload_n 74 rfl rfl <| s_iconst 4 75 rfl (by decide) <| s_callV (b := 83) (ci := 9) 76 [.int x1, .int 4] [] rfl ml_X9_69 yw_X9_of sh_83 rfl rfl (okX9_of (d + 1) _ _ _ _ e_55) rfl rfl (Nat.le_of_ble_eq_true rfl) <| ?_
        rcases iteS e with ⟨g_56, e⟩ | ⟨g_56, e⟩
        · obtain rfl := Option.some.inj e
          exact s_if_lt_T 77 185 rfl (by decide) g_56 <| s_iconst 0 90 rfl (by decide) <| s_iret 91 rfl
        · obtain ⟨q_57, e_58, e⟩ := bndS e
          obtain ⟨q_59, e_60, e⟩ := bndS e
          refine s_if_lt_F 77 185 rfl (by decide) g_56 <| s_aload_n 78 rfl rfl <| s_aload_n 79 rfl rfl <| s_iload_n 80 rfl rfl <| s_iconst 4 81 rfl (by decide) <| s_callV (b := 83) (ci := 9) 82 [.int x1, .int 4] [.ref 83] rfl ml_X9_69 yw_X9_of sh_83 rfl rfl (okX9_of (d + 1) _ _ _ _ e_58) rfl rfl (Nat.le_of_ble_eq_true rfl) <| s_iload_n 83 rfl rfl <| s_iconst 1 84 rfl (by decide) <| s_isub 85 rfl <| s_callV (b := 83) (ci := 9) 86 [.int q_57, .int (x2 - 1)] [] rfl ml_X9_113 yw_X9_isLed sh_83 rfl rfl (okX9_isLed d _ _ _ _ e_60) rfl rfl (Nat.le_of_ble_eq_true rfl) <| ?_
          rcases iteS e with ⟨g_61, e⟩ | ⟨g_61, e⟩
          · obtain rfl := Option.some.inj e
            exact s_if_eq_F 87 185 rfl (by decide) (b2i_T g_61) <| s_iconst 1 88 rfl (by decide) <| s_goto 89 186 rfl (by decide) <| s_iret 91 rfl
          · obtain rfl := Option.some.inj e
            exact s_if_eq_T 87 185 rfl (by decide) (b2i_F g_61) <| s_iconst 0 90 rfl (by decide) <| s_iret 91 rfl
    · obtain ⟨q_62, e_63, e⟩ := bndS e
      refine s_if_eq_T 67 156 rfl (by decide) (b2i_F g_50) <| s_aload_n 73 rfl rfl <| s_iload_n 74 rfl rfl <| s_iconst 4 75 rfl (by decide) <| s_callV (b := 83) (ci := 9) 76 [.int x1, .int 4] [] rfl ml_X9_69 yw_X9_of sh_83 rfl rfl (okX9_of (d + 1) _ _ _ _ e_63) rfl rfl (Nat.le_of_ble_eq_true rfl) <| ?_
      rcases iteS e with ⟨g_64, e⟩ | ⟨g_64, e⟩
      · obtain rfl := Option.some.inj e
        exact s_if_lt_T 77 185 rfl (by decide) g_64 <| s_iconst 0 90 rfl (by decide) <| s_iret 91 rfl
      · obtain ⟨q_65, e_66, e⟩ := bndS e
        obtain ⟨q_67, e_68, e⟩ := bndS e
        refine s_if_lt_F 77 185 rfl (by decide) g_64 <| s_aload_n 78 rfl rfl <| s_aload_n 79 rfl rfl <| s_iload_n 80 rfl rfl <| s_iconst 4 81 rfl (by decide) <| s_callV (b := 83) (ci := 9) 82 [.int x1, .int 4] [.ref 83] rfl ml_X9_69 yw_X9_of sh_83 rfl rfl (okX9_of (d + 1) _ _ _ _ e_66) rfl rfl (Nat.le_of_ble_eq_true rfl) <| s_iload_n 83 rfl rfl <| s_iconst 1 84 rfl (by decide) <| s_isub 85 rfl <| s_callV (b := 83) (ci := 9) 86 [.int q_65, .int (x2 - 1)] [] rfl ml_X9_113 yw_X9_isLed sh_83 rfl rfl (okX9_isLed d _ _ _ _ e_68) rfl rfl (Nat.le_of_ble_eq_true rfl) <| ?_
        rcases iteS e with ⟨g_69, e⟩ | ⟨g_69, e⟩
        · obtain rfl := Option.some.inj e
          exact s_if_eq_F 87 185 rfl (by decide) (b2i_T g_69) <| s_iconst 1 88 rfl (by decide) <| s_goto 89 186 rfl (by decide) <| s_iret 91 rfl
        · obtain rfl := Option.some.inj e
          exact s_if_eq_T 87 185 rfl (by decide) (b2i_F g_69) <| s_iconst 0 90 rfl (by decide) <| s_iret 91 rfl
  cases e
def fX9_speaks (x1 : Int32) (x2 : Int32) (h : Sto) : Option (Int32 × Sto) :=
  (fX9_isName x1 h).bind fun q_1 => if q_1 = true then ((fX9_isSecond x2 h).bind fun q_4 => if q_4 = true then ((fX9_doesSpeak x1 x2 h).bind fun q_7 => if q_7 = true then (some (1, h)) else (some (0, h))) else ((fX9_finds (-1000001) h).bind fun q_10 => some (q_10.1, q_10.2))) else ((fX9_finds (-1000001) h).bind fun q_12 => some (q_12.1, q_12.2))
set_option maxRecDepth 100000 in
set_option maxHeartbeats 4000000 in
theorem okX9_speaks (d : Nat) (x1 : Int32) (x2 : Int32) (h : Sto) (qv : Int32) (qh : Sto) (e : fX9_speaks x1 x2 h = some (qv, qh)) : Ok yX9_speaks cX9_speaks 3 (some .int) (d + 3) [.ref 83, .int x1, .int x2] h (some (.int qv)) qh := by
  refine Ok_of (lst := kX9_speaks) (own := RX9) ⟨by decide, rfl⟩ ckX9_speaks trivial (Nat.le_of_ble_eq_true rfl) ?_
  unfold fX9_speaks at e
  change Ev kX9_speaks RX9 3 (d + 3) nox 0 [some (.ref 83), some (.int x1), some (.int x2)] [] h (some (.int qv)) qh
  obtain ⟨q_1, e_2, e⟩ := bndS e
  refine s_aload_n 0 rfl rfl <| s_iload_n 1 rfl rfl <| s_callV (b := 83) (ci := 9) 2 [.int x1] [] rfl ml_X9_73 yw_X9_isName sh_83 rfl rfl (okX9_isName (d + 1) _ _ _ e_2) rfl rfl (Nat.le_of_ble_eq_true rfl) <| ?_
  rcases iteS e with ⟨g_3, e⟩ | ⟨g_3, e⟩
  · obtain ⟨q_4, e_5, e⟩ := bndS e
    refine s_if_eq_F 3 15 rfl (by decide) (b2i_T g_3) <| s_iload_n 4 rfl rfl <| s_callS 5 [.int x2] [] rfl ml_X9_116 yw_X9_isSecond (okX9_isSecond (d + 1) _ _ _ e_5) rfl rfl (Nat.le_of_ble_eq_true rfl) <| ?_
    rcases iteS e with ⟨g_6, e⟩ | ⟨g_6, e⟩
    · obtain ⟨q_7, e_8, e⟩ := bndS e
      refine s_if_ne_T 6 22 rfl (by decide) (b2i_T g_6) <| s_aload_n 11 rfl rfl <| s_iload_n 12 rfl rfl <| s_iload_n 13 rfl rfl <| s_callV (b := 83) (ci := 9) 14 [.int x1, .int x2] [] rfl ml_X9_119 yw_X9_doesSpeak sh_83 rfl rfl (okX9_doesSpeak d _ _ _ _ e_8) rfl rfl (Nat.le_of_ble_eq_true rfl) <| ?_
      rcases iteS e with ⟨g_9, e⟩ | ⟨g_9, e⟩
      · obtain ⟨rfl, rfl⟩ := some2 e
        exact s_if_eq_F 15 35 rfl (by decide) (b2i_T g_9) <| s_iconst 1 16 rfl (by decide) <| s_goto 17 36 rfl (by decide) <| s_iret 19 rfl
      · obtain ⟨rfl, rfl⟩ := some2 e
        exact s_if_eq_T 15 35 rfl (by decide) (b2i_F g_9) <| s_iconst 0 18 rfl (by decide) <| s_iret 19 rfl
    · obtain ⟨q_10, e_11, e⟩ := bndS e
      obtain ⟨rfl, rfl⟩ := some2 e
      exact s_if_ne_F 6 22 rfl (by decide) (b2i_F g_6) <| s_aload_n 7 rfl rfl <| s_ldc 8 rfl wc_X9_47 <| s_callV (b := 83) (ci := 9) 9 [.int (-1000001)] [] rfl ml_X9_64 yw_X9_finds sh_83 rfl rfl (okX9_finds (d + 2) _ _ q_10.1 q_10.2 e_11) rfl rfl (Nat.le_of_ble_eq_true rfl) <| s_iret 10 rfl
  · obtain ⟨q_12, e_13, e⟩ := bndS e
    obtain ⟨rfl, rfl⟩ := some2 e
    exact s_if_eq_T 3 15 rfl (by decide) (b2i_F g_3) <| s_aload_n 7 rfl rfl <| s_ldc 8 rfl wc_X9_47 <| s_callV (b := 83) (ci := 9) 9 [.int (-1000001)] [] rfl ml_X9_64 yw_X9_finds sh_83 rfl rfl (okX9_finds (d + 2) _ _ q_12.1 q_12.2 e_13) rfl rfl (Nat.le_of_ble_eq_true rfl) <| s_iret 10 rfl
def fX8_next_b45 (x1 : Int32) (x3 : Int32) (h : Sto) (c4 : Int32) : Option (Int32 ⊕ (Unit ⊕ (Int32 × Sto))) :=
  if x3 < c4 then (some (.inr (.inl ()))) else ((fX3_isSpeaking x1 c4 h).bind fun q_8 => if q_8 = true then (some (.inr (.inr (c4, h)))) else (some (.inl (c4 + 1))))
def fX8_next (x1 : Int32) (x2 : Int32) (h : Sto) : Option (Int32 × Sto) :=
  (fX1_has x1 h).bind fun q_1 => if q_1 = true then ((fX8_isSecond x2 h).bind fun q_4 => if q_4 = true then ((lp (fun s => fX8_next_b45 x1 (jmin ((x2 + 2000) - 1) 29999) h s) FUEL x2).bind fun y_11 => Sum.elim (fun v_19 => (fX8_tellFinding (-1000004) h).bind fun q_21 => some (q_21.1, q_21.2)) (fun z_20 => some z_20) y_11) else ((fX8_tellFinding (-1000001) h).bind fun q_27 => some (q_27.1, q_27.2))) else ((fX8_tellFinding (-1000001) h).bind fun q_29 => some (q_29.1, q_29.2))
set_option maxRecDepth 100000 in
set_option maxHeartbeats 4000000 in
theorem okX8_next (d : Nat) (x1 : Int32) (x2 : Int32) (h : Sto) (qv : Int32) (qh : Sto) (e : fX8_next x1 x2 h = some (qv, qh)) : Ok yX8_next cX8_next 5 (some .int) (d + 4) [.ref 0, .int x1, .int x2] h (some (.int qv)) qh := by
  refine Ok_of (lst := kX8_next) (own := RX8) ⟨by decide, rfl⟩ ckX8_next trivial (Nat.le_of_ble_eq_true rfl) ?_
  unfold fX8_next at e
  change Ev kX8_next RX8 5 (d + 4) nox 0 [some (.ref 0), some (.int x1), some (.int x2), none, none] [] h (some (.int qv)) qh
  obtain ⟨q_1, e_2, e⟩ := bndS e
  refine s_aload_n 0 rfl rfl <| s_getr 1 rfl fl_X8_12 sh_0 rfl <| s_getr 2 rfl fl_X8_74 sh_1 rfl <| s_iload_n 3 rfl rfl <| s_callV (b := 2) (ci := 1) 4 [.int x1] [] rfl ml_X8_88 yw_X1_has sh_2 rfl rfl (okX1_has (d + 2) _ _ _ e_2) rfl rfl (Nat.le_of_ble_eq_true rfl) <| ?_
  rcases iteS e with ⟨g_3, e⟩ | ⟨g_3, e⟩
  · obtain ⟨q_4, e_5, e⟩ := bndS e
    refine s_if_eq_F 5 21 rfl (by decide) (b2i_T g_3) <| s_iload_n 6 rfl rfl <| s_callS 7 [.int x2] [] rfl ml_X8_122 yw_X8_isSecond (okX8_isSecond (d + 2) _ _ _ e_5) rfl rfl (Nat.le_of_ble_eq_true rfl) <| ?_
    rcases iteS e with ⟨g_6, e⟩ | ⟨g_6, e⟩
    · obtain ⟨y_11, e_12, e⟩ := bndS e
      have kx_15 : ∀ v_19 : Unit, .inl v_19 = y_11 → Ev kX8_next RX8 5 (d + 4) nox 73 [some (.ref 0), none, none, none, none] [] h (some (.int qv)) qh := by
        intro v_19 hy
        subst hy
        have e := elL e
        obtain ⟨q_21, e_22, e⟩ := bndS e
        obtain ⟨rfl, rfl⟩ := some2 e
        exact s_aload_n 36 rfl rfl <| s_ldc 37 rfl wc_X8_133 <| s_callV (b := 0) (ci := 8) 38 [.int (-1000004)] [] rfl ml_X8_70 yw_X8_tellFinding sh_0 rfl rfl (okX8_tellFinding (d + 2) _ _ q_21.1 q_21.2 e_22) rfl rfl (Nat.le_of_ble_eq_true rfl) <| s_iret 39 rfl
      have kz_16 : ∀ z_20 : (Int32 × Sto), .inr z_20 = y_11 → z_20 = (qv, qh) := by
        intro z_20 hy
        subst hy
        have e := elR e
        exact Option.some.inj e
      refine s_if_ne_T 8 28 rfl (by decide) (b2i_T g_6) <| s_iload_n 13 rfl rfl <| s_sipush 2000 14 rfl (by decide) <| s_iadd 15 rfl <| s_iconst 1 16 rfl (by decide) <| s_isub 17 rfl <| s_sipush 29999 18 rfl (by decide) <| s_min 19 rfl ml_X8_128 wMin (Nat.le_of_ble_eq_true rfl) <| s_istore_n [some (.ref 0), some (.int x1), some (.int x2), some (.int (jmin ((x2 + 2000) - 1) 29999)), none] 20 rfl (by decide) rfl <| s_iload_n 21 rfl rfl <| s_istore [some (.ref 0), some (.int x1), some (.int x2), some (.int (jmin ((x2 + 2000) - 1) 29999)), some (.int x2)] 22 rfl (by decide) rfl <| s_fgt [false, false, true] rfl <| lpS (P := fun (s_18 : Int32) => Ev kX8_next RX8 5 (d + 4) nox 45 [some (.ref 0), some (.int x1), none, some (.int (jmin ((x2 + 2000) - 1) 29999)), some (.int s_18)] [] h (some (.int qv)) qh) ?_ FUEL _ e_12
      intro s_18 o_17 e hk_13 hx_14
      unfold fX8_next_b45 at e
      refine s_iload 23 rfl rfl <| s_iload_n 24 rfl rfl <| ?_
      rcases iteS e with ⟨g_23, e⟩ | ⟨g_23, e⟩
      · cases e
        exact s_icmp_gt_T 25 73 rfl (by decide) g_23 <| s_fgt [false, true, false, true, true] rfl <| (kx_15 () (hx_14 _ rfl))
      · obtain ⟨q_24, e_25, e⟩ := bndS e
        refine s_icmp_gt_F 25 73 rfl (by decide) g_23 <| s_aload_n 26 rfl rfl <| s_getr 27 rfl fl_X8_12 sh_0 rfl <| s_iload_n 28 rfl rfl <| s_iload 29 rfl rfl <| s_callV (b := 1) (ci := 3) 30 [.int x1, .int s_18] [] rfl ml_X8_125 yw_X3_isSpeaking sh_1 rfl rfl (okX3_isSpeaking d _ _ _ _ e_25) rfl rfl (Nat.le_of_ble_eq_true rfl) <| ?_
        rcases iteS e with ⟨g_26, e⟩ | ⟨g_26, e⟩
        · cases e
          have z0 := kz_16 _ (hx_14 _ rfl)
          obtain ⟨rfl, rfl⟩ := prod2 z0
          exact s_if_eq_F 31 67 rfl (by decide) (b2i_T g_26) <| s_iload 32 rfl rfl <| s_iret 33 rfl
        · cases e
          exact s_if_eq_T 31 67 rfl (by decide) (b2i_F g_26) <| s_iinc 1 [some (.ref 0), some (.int x1), none, some (.int (jmin ((x2 + 2000) - 1) 29999)), some (.int (s_18 + 1))] 34 rfl (by decide) rfl (by decide) rfl <| s_goto 35 45 rfl (by decide) <| (hk_13 (s_18 + 1) rfl)
    · obtain ⟨q_27, e_28, e⟩ := bndS e
      obtain ⟨rfl, rfl⟩ := some2 e
      exact s_if_ne_F 8 28 rfl (by decide) (b2i_F g_6) <| s_aload_n 9 rfl rfl <| s_ldc 10 rfl wc_X8_69 <| s_callV (b := 0) (ci := 8) 11 [.int (-1000001)] [] rfl ml_X8_70 yw_X8_tellFinding sh_0 rfl rfl (okX8_tellFinding (d + 2) _ _ q_27.1 q_27.2 e_28) rfl rfl (Nat.le_of_ble_eq_true rfl) <| s_iret 12 rfl
  · obtain ⟨q_29, e_30, e⟩ := bndS e
    obtain ⟨rfl, rfl⟩ := some2 e
    exact s_if_eq_T 5 21 rfl (by decide) (b2i_F g_3) <| s_aload_n 9 rfl rfl <| s_ldc 10 rfl wc_X8_69 <| s_callV (b := 0) (ci := 8) 11 [.int (-1000001)] [] rfl ml_X8_70 yw_X8_tellFinding sh_0 rfl rfl (okX8_tellFinding (d + 2) _ _ q_29.1 q_29.2 e_30) rfl rfl (Nat.le_of_ble_eq_true rfl) <| s_iret 12 rfl
def fX9_next_b24 (x1 : Int32) (x2 : Int32) (h : Sto) (c3 : Int32) : Option (Int32 ⊕ (Unit ⊕ (Int32 × Sto))) :=
  if (x2 + 2000) ≤ c3 then (some (.inr (.inl ()))) else (if 29999 < c3 then (some (.inr (.inl ()))) else ((fX9_doesSpeak x1 c3 h).bind fun q_9 => if q_9 = true then (some (.inr (.inr (c3, h)))) else (some (.inl (c3 + 1)))))
def fX9_next (x1 : Int32) (x2 : Int32) (h : Sto) : Option (Int32 × Sto) :=
  (fX9_isName x1 h).bind fun q_1 => if q_1 = true then ((fX9_isSecond x2 h).bind fun q_4 => if q_4 = true then ((lp (fun s => fX9_next_b24 x1 x2 h s) FUEL x2).bind fun y_12 => Sum.elim (fun v_20 => (fX9_finds (-1000004) h).bind fun q_22 => some (q_22.1, q_22.2)) (fun z_21 => some z_21) y_12) else ((fX9_finds (-1000001) h).bind fun q_29 => some (q_29.1, q_29.2))) else ((fX9_finds (-1000001) h).bind fun q_31 => some (q_31.1, q_31.2))
set_option maxRecDepth 100000 in
set_option maxHeartbeats 4000000 in
theorem okX9_next (d : Nat) (x1 : Int32) (x2 : Int32) (h : Sto) (qv : Int32) (qh : Sto) (e : fX9_next x1 x2 h = some (qv, qh)) : Ok yX9_next cX9_next 4 (some .int) (d + 3) [.ref 83, .int x1, .int x2] h (some (.int qv)) qh := by
  refine Ok_of (lst := kX9_next) (own := RX9) ⟨by decide, rfl⟩ ckX9_next trivial (Nat.le_of_ble_eq_true rfl) ?_
  unfold fX9_next at e
  change Ev kX9_next RX9 4 (d + 3) nox 0 [some (.ref 83), some (.int x1), some (.int x2), none] [] h (some (.int qv)) qh
  obtain ⟨q_1, e_2, e⟩ := bndS e
  refine s_aload_n 0 rfl rfl <| s_iload_n 1 rfl rfl <| s_callV (b := 83) (ci := 9) 2 [.int x1] [] rfl ml_X9_73 yw_X9_isName sh_83 rfl rfl (okX9_isName (d + 1) _ _ _ e_2) rfl rfl (Nat.le_of_ble_eq_true rfl) <| ?_
  rcases iteS e with ⟨g_3, e⟩ | ⟨g_3, e⟩
  · obtain ⟨q_4, e_5, e⟩ := bndS e
    refine s_if_eq_F 3 15 rfl (by decide) (b2i_T g_3) <| s_iload_n 4 rfl rfl <| s_callS 5 [.int x2] [] rfl ml_X9_116 yw_X9_isSecond (okX9_isSecond (d + 1) _ _ _ e_5) rfl rfl (Nat.le_of_ble_eq_true rfl) <| ?_
    rcases iteS e with ⟨g_6, e⟩ | ⟨g_6, e⟩
    · obtain ⟨y_12, e_13, e⟩ := bndS e
      have kx_16 : ∀ v_20 : Unit, .inl v_20 = y_12 → Ev kX9_next RX9 4 (d + 3) nox 57 [some (.ref 83), none, none, none] [] h (some (.int qv)) qh := by
        intro v_20 hy
        subst hy
        have e := elL e
        obtain ⟨q_22, e_23, e⟩ := bndS e
        obtain ⟨rfl, rfl⟩ := some2 e
        exact s_aload_n 30 rfl rfl <| s_ldc 31 rfl wc_X9_122 <| s_callV (b := 83) (ci := 9) 32 [.int (-1000004)] [] rfl ml_X9_64 yw_X9_finds sh_83 rfl rfl (okX9_finds (d + 2) _ _ q_22.1 q_22.2 e_23) rfl rfl (Nat.le_of_ble_eq_true rfl) <| s_iret 33 rfl
      have kz_17 : ∀ z_21 : (Int32 × Sto), .inr z_21 = y_12 → z_21 = (qv, qh) := by
        intro z_21 hy
        subst hy
        have e := elR e
        exact Option.some.inj e
      refine s_if_ne_T 6 22 rfl (by decide) (b2i_T g_6) <| s_iload_n 11 rfl rfl <| s_istore_n [some (.ref 83), some (.int x1), some (.int x2), some (.int x2)] 12 rfl (by decide) rfl <| lpS (P := fun (s_19 : Int32) => Ev kX9_next RX9 4 (d + 3) nox 24 [some (.ref 83), some (.int x1), some (.int x2), some (.int s_19)] [] h (some (.int qv)) qh) ?_ FUEL _ e_13
      intro s_19 o_18 e hk_14 hx_15
      unfold fX9_next_b24 at e
      refine s_iload_n 13 rfl rfl <| s_iload_n 14 rfl rfl <| s_sipush 2000 15 rfl (by decide) <| s_iadd 16 rfl <| ?_
      rcases iteS e with ⟨g_24, e⟩ | ⟨g_24, e⟩
      · cases e
        exact s_icmp_ge_T 17 57 rfl (by decide) g_24 <| s_fgt [false, true, true, true] rfl <| (kx_16 () (hx_15 _ rfl))
      · refine s_icmp_ge_F 17 57 rfl (by decide) g_24 <| s_iload_n 18 rfl rfl <| s_sipush 29999 19 rfl (by decide) <| ?_
        rcases iteS e with ⟨g_25, e⟩ | ⟨g_25, e⟩
        · cases e
          exact s_icmp_gt_T 20 57 rfl (by decide) g_25 <| s_fgt [false, true, true, true] rfl <| (kx_16 () (hx_15 _ rfl))
        · obtain ⟨q_26, e_27, e⟩ := bndS e
          refine s_icmp_gt_F 20 57 rfl (by decide) g_25 <| s_aload_n 21 rfl rfl <| s_iload_n 22 rfl rfl <| s_iload_n 23 rfl rfl <| s_callV (b := 83) (ci := 9) 24 [.int x1, .int s_19] [] rfl ml_X9_119 yw_X9_doesSpeak sh_83 rfl rfl (okX9_doesSpeak d _ _ _ _ e_27) rfl rfl (Nat.le_of_ble_eq_true rfl) <| ?_
          rcases iteS e with ⟨g_28, e⟩ | ⟨g_28, e⟩
          · cases e
            have z0 := kz_17 _ (hx_15 _ rfl)
            obtain ⟨rfl, rfl⟩ := prod2 z0
            exact s_if_eq_F 25 51 rfl (by decide) (b2i_T g_28) <| s_iload_n 26 rfl rfl <| s_iret 27 rfl
          · cases e
            exact s_if_eq_T 25 51 rfl (by decide) (b2i_F g_28) <| s_iinc 1 [some (.ref 83), some (.int x1), some (.int x2), some (.int (s_19 + 1))] 28 rfl (by decide) rfl (by decide) rfl <| s_goto 29 24 rfl (by decide) <| (hk_14 (s_19 + 1) rfl)
    · obtain ⟨q_29, e_30, e⟩ := bndS e
      obtain ⟨rfl, rfl⟩ := some2 e
      exact s_if_ne_F 6 22 rfl (by decide) (b2i_F g_6) <| s_aload_n 7 rfl rfl <| s_ldc 8 rfl wc_X9_47 <| s_callV (b := 83) (ci := 9) 9 [.int (-1000001)] [] rfl ml_X9_64 yw_X9_finds sh_83 rfl rfl (okX9_finds (d + 2) _ _ q_29.1 q_29.2 e_30) rfl rfl (Nat.le_of_ble_eq_true rfl) <| s_iret 10 rfl
  · obtain ⟨q_31, e_32, e⟩ := bndS e
    obtain ⟨rfl, rfl⟩ := some2 e
    exact s_if_eq_T 3 15 rfl (by decide) (b2i_F g_3) <| s_aload_n 7 rfl rfl <| s_ldc 8 rfl wc_X9_47 <| s_callV (b := 83) (ci := 9) 9 [.int (-1000001)] [] rfl ml_X9_64 yw_X9_finds sh_83 rfl rfl (okX9_finds (d + 2) _ _ q_31.1 q_31.2 e_32) rfl rfl (Nat.le_of_ble_eq_true rfl) <| s_iret 10 rfl
def fX0_isFull (h : Sto) : Option Bool :=
  if (h 10 1) < 200 then (some false) else (some true)
set_option maxRecDepth 100000 in
set_option maxHeartbeats 4000000 in
theorem okX0_isFull (d : Nat) (h : Sto) (q : Bool) (e : fX0_isFull h = some q) : Ok yX0_isFull cX0_isFull 1 (some .boolean) d [.ref 10] h (some (.int (b2i q))) h := by
  refine Ok_of (lst := kX0_isFull) (own := RX0) ⟨by decide, rfl⟩ ckX0_isFull (b2i_01 _) (Nat.le_of_ble_eq_true rfl) ?_
  unfold fX0_isFull at e
  change Ev kX0_isFull RX0 1 d nox 0 [some (.ref 10)] [] h (some (.int (b2i q))) h
  refine s_aload_n 0 rfl rfl <| s_geti 1 rfl fl_X0_28 sh_10 rfl <| s_sipush 200 2 rfl (by decide) <| ?_
  rcases iteS e with ⟨g_1, e⟩ | ⟨g_1, e⟩
  · obtain rfl := Option.some.inj e
    exact s_icmp_lt_T 3 14 rfl (by decide) g_1 <| s_iconst 0 6 rfl (by decide) <| s_iret 7 rfl
  · obtain rfl := Option.some.inj e
    exact s_icmp_lt_F 3 14 rfl (by decide) g_1 <| s_iconst 1 4 rfl (by decide) <| s_goto 5 15 rfl (by decide) <| s_iret 7 rfl
def fX0_latestOf_b7 (x1 : Int32) (h : Sto) (c2 : Int32) : Option (Int32 ⊕ Int32) :=
  if c2 < 0 then (some (.inr c2)) else (grd (inb c2 200) <| if (h 12 (Int32.toNatClampNeg c2)) = x1 then (some (.inr c2)) else (some (.inl (c2 + (-1)))))
def fX0_latestOf (x1 : Int32) (h : Sto) : Option Int32 :=
  (lp (fun s => fX0_latestOf_b7 x1 h s) FUEL ((h 10 1) - 1)).bind fun v_12 => some v_12
set_option maxRecDepth 100000 in
set_option maxHeartbeats 4000000 in
theorem okX0_latestOf (d : Nat) (x1 : Int32) (h : Sto) (q : Int32) (e : fX0_latestOf x1 h = some q) : Ok yX0_latestOf cX0_latestOf 3 (some .int) d [.ref 10, .int x1] h (some (.int q)) h := by
  refine Ok_of (lst := kX0_latestOf) (own := RX0) ⟨by decide, rfl⟩ ckX0_latestOf trivial (Nat.le_of_ble_eq_true rfl) ?_
  unfold fX0_latestOf at e
  change Ev kX0_latestOf RX0 3 d nox 0 [some (.ref 10), some (.int x1), none] [] h (some (.int q)) h
  obtain ⟨y_4, e_5, e⟩ := bndS e
  have kx_8 : ∀ v_12 : Int32, v_12 = y_4 → Ev kX0_latestOf RX0 3 d nox 27 [none, none, some (.int v_12)] [] h (some (.int q)) h := by
    intro v_12 hy
    subst hy
    obtain rfl := Option.some.inj e
    exact s_iload_n 15 rfl rfl <| s_iret 16 rfl
  refine s_aload_n 0 rfl rfl <| s_geti 1 rfl fl_X0_28 sh_10 rfl <| s_iconst 1 2 rfl (by decide) <| s_isub 3 rfl <| s_istore_n [some (.ref 10), some (.int x1), some (.int ((h 10 1) - 1))] 4 rfl (by decide) rfl <| lpS (P := fun (s_11 : Int32) => Ev kX0_latestOf RX0 3 d nox 7 [some (.ref 10), some (.int x1), some (.int s_11)] [] h (some (.int q)) h) ?_ FUEL _ e_5
  intro s_11 o_10 e hk_6 hx_7
  unfold fX0_latestOf_b7 at e
  refine s_iload_n 5 rfl rfl <| ?_
  rcases iteS e with ⟨g_14, e⟩ | ⟨g_14, e⟩
  · cases e
    exact s_if_lt_T 6 27 rfl (by decide) g_14 <| s_fgt [true, true] rfl <| (kx_8 s_11 (hx_7 _ rfl))
  · obtain ⟨g_15, e⟩ := grdS e
    refine s_if_lt_F 6 27 rfl (by decide) g_14 <| s_aload_n 7 rfl rfl <| s_getr 8 rfl fl_X0_15 sh_10 rfl <| s_iload_n 9 rfl rfl <| s_iald (Int32.toNatClampNeg s_11) 10 rfl sh_12 g_15 rfl <| s_iload_n 11 rfl rfl <| ?_
    rcases iteS e with ⟨g_16, e⟩ | ⟨g_16, e⟩
    · cases e
      exact s_icmp_eq_T 12 27 rfl (by decide) g_16 <| s_fgt [true, true] rfl <| (kx_8 s_11 (hx_7 _ rfl))
    · cases e
      exact s_icmp_eq_F 12 27 rfl (by decide) g_16 <| s_iinc (-1) [some (.ref 10), some (.int x1), some (.int (s_11 + (-1)))] 13 rfl (by decide) rfl (by decide) rfl <| s_goto 14 7 rfl (by decide) <| (hk_6 (s_11 + (-1)) rfl)
def fX0_countOf_b4 (x1 : Int32) (h : Sto) (c2 : Int32) (c3 : Int32) : Option ((Int32 × Int32) ⊕ Int32) :=
  if (h 10 1) ≤ c3 then (some (.inr c2)) else (grd (inb c3 200) <| (if ¬ (h 12 (Int32.toNatClampNeg c3)) = x1 then (some false) else (some true)).bind fun q_3 => (fX8_asInt (b2i q_3) h).bind fun q_6 => some (.inl ((c2 + q_6), (c3 + 1))))
def fX0_countOf (x1 : Int32) (h : Sto) : Option Int32 :=
  (lp (fun s => fX0_countOf_b4 x1 h s.1 s.2) FUEL (0, 0)).bind fun v_16 => some v_16
set_option maxRecDepth 100000 in
set_option maxHeartbeats 4000000 in
theorem okX0_countOf (d : Nat) (x1 : Int32) (h : Sto) (q : Int32) (e : fX0_countOf x1 h = some q) : Ok yX0_countOf cX0_countOf 4 (some .int) (d + 1) [.ref 10, .int x1] h (some (.int q)) h := by
  refine Ok_of (lst := kX0_countOf) (own := RX0) ⟨by decide, rfl⟩ ckX0_countOf trivial (Nat.le_of_ble_eq_true rfl) ?_
  unfold fX0_countOf at e
  change Ev kX0_countOf RX0 4 (d + 1) nox 0 [some (.ref 10), some (.int x1), none, none] [] h (some (.int q)) h
  obtain ⟨y_8, e_9, e⟩ := bndS e
  have kx_12 : ∀ v_16 : Int32, v_16 = y_8 → Ev kX0_countOf RX0 4 (d + 1) nox 39 [none, none, some (.int v_16), none] [] h (some (.int q)) h := by
    intro v_16 hy
    subst hy
    obtain rfl := Option.some.inj e
    exact s_iload_n 23 rfl rfl <| s_iret 24 rfl
  refine s_iconst 0 0 rfl (by decide) <| s_istore_n [some (.ref 10), some (.int x1), some (.int 0), none] 1 rfl (by decide) rfl <| s_iconst 0 2 rfl (by decide) <| s_istore_n [some (.ref 10), some (.int x1), some (.int 0), some (.int 0)] 3 rfl (by decide) rfl <| lpS (P := fun (s_15 : (Int32 × Int32)) => Ev kX0_countOf RX0 4 (d + 1) nox 4 [some (.ref 10), some (.int x1), some (.int s_15.1), some (.int s_15.2)] [] h (some (.int q)) h) ?_ FUEL _ e_9
  intro s_15 o_14 e hk_10 hx_11
  unfold fX0_countOf_b4 at e
  refine s_iload_n 4 rfl rfl <| s_aload_n 5 rfl rfl <| s_geti 6 rfl fl_X0_28 sh_10 rfl <| ?_
  rcases iteS e with ⟨g_18, e⟩ | ⟨g_18, e⟩
  · cases e
    exact s_icmp_ge_T 7 39 rfl (by decide) g_18 <| s_fgt [true, true, false, true] rfl <| (kx_12 s_15.1 (hx_11 _ rfl))
  · obtain ⟨g_19, e⟩ := grdS e
    obtain ⟨q_20, e1, e⟩ := bndS e
    have k_21 : Ev kX0_countOf RX0 4 (d + 1) nox 28 [some (.ref 10), some (.int x1), none, some (.int s_15.2)] [.int (b2i q_20), .int s_15.1] h (some (.int q)) h := by
      obtain ⟨q_23, e_24, e⟩ := bndS e
      cases e
      exact s_callSN 18 [.int (b2i q_20)] [.int s_15.1] rfl ml_X0_43 yw_X8_asInt (okX8_asInt d _ _ _ e_24) rfl rfl (Nat.le_of_ble_eq_true rfl) <| s_iadd 19 rfl <| s_istore_n [some (.ref 10), some (.int x1), some (.int (s_15.1 + q_23)), some (.int s_15.2)] 20 rfl (by decide) rfl <| s_iinc 1 [some (.ref 10), some (.int x1), some (.int (s_15.1 + q_23)), some (.int (s_15.2 + 1))] 21 rfl (by decide) rfl (by decide) rfl <| s_goto 22 4 rfl (by decide) <| (hk_10 ((s_15.1 + q_23), (s_15.2 + 1)) rfl)
    clear e
    have e := e1
    clear e1
    refine s_icmp_ge_F 7 39 rfl (by decide) g_18 <| s_iload_n 8 rfl rfl <| s_aload_n 9 rfl rfl <| s_getr 10 rfl fl_X0_15 sh_10 rfl <| s_iload_n 11 rfl rfl <| s_iald (Int32.toNatClampNeg s_15.2) 12 rfl sh_12 g_19 rfl <| s_iload_n 13 rfl rfl <| ?_
    rcases iteS e with ⟨g_22, e⟩ | ⟨g_22, e⟩
    · cases e
      exact s_icmp_ne_T 14 27 rfl (by decide) g_22 <| s_iconst 0 17 rfl (by decide) <| s_fgt [false, false, true] rfl <| k_21
    · cases e
      exact s_icmp_ne_F 14 27 rfl (by decide) (Decidable.not_not.mp g_22) <| s_iconst 1 15 rfl (by decide) <| s_goto 16 28 rfl (by decide) <| s_fgt [false, false, true] rfl <| k_21
def fX3_topicOf (x1 : Int32) (h : Sto) : Option Int32 :=
  grd (inb x1 14) <| grd (inb x1 14) <| if ¬ (h 4 (Int32.toNatClampNeg x1)) = 3 then (grd (inb x1 14) <| if ¬ (h 4 (Int32.toNatClampNeg x1)) = 6 then (some (h 9 (Int32.toNatClampNeg x1))) else (if (h 8 (Int32.toNatClampNeg x1)) < 0 then (some (h 9 (Int32.toNatClampNeg x1))) else ((fX0_latestOf (h 8 (Int32.toNatClampNeg x1)) h).bind fun q_7 => if 0 ≤ q_7 then (grd (inb q_7 200) <| some (h 13 (Int32.toNatClampNeg q_7))) else (some (h 9 (Int32.toNatClampNeg x1)))))) else ((fX0_countOf x1 h).bind fun q_11 => some (jrem ((h 9 (Int32.toNatClampNeg x1)) + (jrem q_11 3)) 10))
set_option maxRecDepth 100000 in
set_option maxHeartbeats 4000000 in
theorem okX3_topicOf (d : Nat) (x1 : Int32) (h : Sto) (q : Int32) (e : fX3_topicOf x1 h = some q) : Ok yX3_topicOf cX3_topicOf 6 (some .int) (d + 2) [.ref 1, .int x1] h (some (.int q)) h := by
  refine Ok_of (lst := kX3_topicOf) (own := RX3) ⟨by decide, rfl⟩ ckX3_topicOf trivial (Nat.le_of_ble_eq_true rfl) ?_
  unfold fX3_topicOf at e
  change Ev kX3_topicOf RX3 6 (d + 2) nox 0 [some (.ref 1), some (.int x1), none, none, none, none] [] h (some (.int q)) h
  obtain ⟨g_1, e⟩ := grdS e
  obtain ⟨g_2, e⟩ := grdS e
  refine s_aload_n 0 rfl rfl <| s_getr 1 rfl fl_X3_12 sh_1 rfl <| s_getr 2 rfl fl_X3_40 sh_2 rfl <| s_iconst 5 3 rfl (by decide) <| s_aald2 9 4 rfl sh_3 (by decide) (by decide) <| s_iload_n 5 rfl rfl <| s_iald (Int32.toNatClampNeg x1) 6 rfl sh_9 g_1 rfl <| s_istore_n [some (.ref 1), some (.int x1), some (.int (h 9 (Int32.toNatClampNeg x1))), none, none, none] 7 rfl (by decide) rfl <| s_aload_n 8 rfl rfl <| s_getr 9 rfl fl_X3_12 sh_1 rfl <| s_getr 10 rfl fl_X3_40 sh_2 rfl <| s_iconst 0 11 rfl (by decide) <| s_aald2 4 12 rfl sh_3 (by decide) (by decide) <| s_iload_n 13 rfl rfl <| s_iald (Int32.toNatClampNeg x1) 14 rfl sh_4 g_2 rfl <| s_istore_n [some (.ref 1), some (.int x1), some (.int (h 9 (Int32.toNatClampNeg x1))), some (.int (h 4 (Int32.toNatClampNeg x1))), none, none] 15 rfl (by decide) rfl <| s_iload_n 16 rfl rfl <| s_iconst 3 17 rfl (by decide) <| ?_
  rcases iteS e with ⟨g_3, e⟩ | ⟨g_3, e⟩
  · obtain ⟨g_4, e⟩ := grdS e
    refine s_icmp_ne_T 18 45 rfl (by decide) g_3 <| s_aload_n 30 rfl rfl <| s_getr 31 rfl fl_X3_12 sh_1 rfl <| s_getr 32 rfl fl_X3_40 sh_2 rfl <| s_iconst 4 33 rfl (by decide) <| s_aald2 8 34 rfl sh_3 (by decide) (by decide) <| s_iload_n 35 rfl rfl <| s_iald (Int32.toNatClampNeg x1) 36 rfl sh_8 g_4 rfl <| s_istore [some (.ref 1), some (.int x1), some (.int (h 9 (Int32.toNatClampNeg x1))), some (.int (h 4 (Int32.toNatClampNeg x1))), some (.int (h 8 (Int32.toNatClampNeg x1))), none] 37 rfl (by decide) rfl <| s_iload_n 38 rfl rfl <| s_bipush 6 39 rfl (by decide) <| ?_
    rcases iteS e with ⟨g_5, e⟩ | ⟨g_5, e⟩
    · obtain rfl := Option.some.inj e
      exact s_icmp_ne_T 40 100 rfl (by decide) g_5 <| s_iload_n 58 rfl rfl <| s_iret 59 rfl
    · refine s_icmp_ne_F 40 100 rfl (by decide) (Decidable.not_not.mp g_5) <| s_iload 41 rfl rfl <| ?_
      rcases iteS e with ⟨g_6, e⟩ | ⟨g_6, e⟩
      · obtain rfl := Option.some.inj e
        exact s_if_lt_T 42 100 rfl (by decide) g_6 <| s_iload_n 58 rfl rfl <| s_iret 59 rfl
      · obtain ⟨q_7, e_8, e⟩ := bndS e
        refine s_if_lt_F 42 100 rfl (by decide) g_6 <| s_aload_n 43 rfl rfl <| s_getr 44 rfl fl_X3_21 sh_1 rfl <| s_iload 45 rfl rfl <| s_callV (b := 10) (ci := 0) 46 [.int (h 8 (Int32.toNatClampNeg x1))] [] rfl ml_X3_91 yw_X0_latestOf sh_10 rfl rfl (okX0_latestOf (d + 1) _ _ _ e_8) rfl rfl (Nat.le_of_ble_eq_true rfl) <| s_istore [some (.ref 1), some (.int x1), some (.int (h 9 (Int32.toNatClampNeg x1))), some (.int (h 4 (Int32.toNatClampNeg x1))), some (.int (h 8 (Int32.toNatClampNeg x1))), some (.int q_7)] 47 rfl (by decide) rfl <| s_iload 48 rfl rfl <| ?_
        rcases iteS e with ⟨g_9, e⟩ | ⟨g_9, e⟩
        · obtain ⟨g_10, e⟩ := grdS e
          obtain rfl := Option.some.inj e
          exact s_if_ge_T 49 89 rfl (by decide) g_9 <| s_aload_n 52 rfl rfl <| s_getr 53 rfl fl_X3_21 sh_1 rfl <| s_getr 54 rfl fl_X3_94 sh_10 rfl <| s_iload 55 rfl rfl <| s_iald (Int32.toNatClampNeg q_7) 56 rfl sh_13 g_10 rfl <| s_iret 57 rfl
        · obtain rfl := Option.some.inj e
          exact s_if_ge_F 49 89 rfl (by decide) g_9 <| s_iload_n 50 rfl rfl <| s_goto 51 99 rfl (by decide) <| s_iret 57 rfl
  · obtain ⟨q_11, e_12, e⟩ := bndS e
    obtain rfl := Option.some.inj e
    exact s_icmp_ne_F 18 45 rfl (by decide) (Decidable.not_not.mp g_3) <| s_iload_n 19 rfl rfl <| s_aload_n 20 rfl rfl <| s_getr 21 rfl fl_X3_21 sh_1 rfl <| s_iload_n 22 rfl rfl <| s_callV (b := 10) (ci := 0) 23 [.int x1] [.int (h 9 (Int32.toNatClampNeg x1))] rfl ml_X3_88 yw_X0_countOf sh_10 rfl rfl (okX0_countOf d _ _ _ e_12) rfl rfl (Nat.le_of_ble_eq_true rfl) <| s_iconst 3 24 rfl (by decide) <| s_irem 25 rfl (by decide) <| s_iadd 26 rfl <| s_bipush 10 27 rfl (by decide) <| s_irem 28 rfl (by decide) <| s_iret 29 rfl
def fX0_wordAhead_b7 (x1 : Int32) (h : Sto) (c2 : Int32) : Option (Int32 ⊕ (Unit ⊕ Int32)) :=
  if c2 < 0 then (some (.inr (.inl ()))) else (grd (inb c2 200) <| if 9 < ((h 10 0) - (h 11 (Int32.toNatClampNeg c2))) then (some (.inr (.inl ()))) else (grd (inb c2 200) <| if (h 10 0) ≤ (h 11 (Int32.toNatClampNeg c2)) then (some (.inl (c2 + (-1)))) else (grd (inb c2 200) <| if (h 12 (Int32.toNatClampNeg c2)) = x1 then (some (.inl (c2 + (-1)))) else (some (.inr (.inr c2))))))
def fX0_wordAhead (x1 : Int32) (h : Sto) : Option Int32 :=
  (lp (fun s => fX0_wordAhead_b7 x1 h s) FUEL ((h 10 1) - 1)).bind fun y_8 => Sum.elim (fun v_16 => some (-1)) (fun z_17 => some z_17) y_8
set_option maxRecDepth 100000 in
set_option maxHeartbeats 4000000 in
theorem okX0_wordAhead (d : Nat) (x1 : Int32) (h : Sto) (q : Int32) (e : fX0_wordAhead x1 h = some q) : Ok yX0_wordAhead cX0_wordAhead 3 (some .int) d [.ref 10, .int x1] h (some (.int q)) h := by
  refine Ok_of (lst := kX0_wordAhead) (own := RX0) ⟨by decide, rfl⟩ ckX0_wordAhead trivial (Nat.le_of_ble_eq_true rfl) ?_
  unfold fX0_wordAhead at e
  change Ev kX0_wordAhead RX0 3 d nox 0 [some (.ref 10), some (.int x1), none] [] h (some (.int q)) h
  obtain ⟨y_8, e_9, e⟩ := bndS e
  have kx_12 : ∀ v_16 : Unit, .inl v_16 = y_8 → Ev kX0_wordAhead RX0 3 d nox 58 [none, none, none] [] h (some (.int q)) h := by
    intro v_16 hy
    subst hy
    have e := elL e
    obtain rfl := Option.some.inj e
    exact s_iconst (-1) 33 rfl (by decide) <| s_iret 34 rfl
  have kz_13 : ∀ z_17 : Int32, .inr z_17 = y_8 → z_17 = q := by
    intro z_17 hy
    subst hy
    have e := elR e
    exact Option.some.inj e
  refine s_aload_n 0 rfl rfl <| s_geti 1 rfl fl_X0_28 sh_10 rfl <| s_iconst 1 2 rfl (by decide) <| s_isub 3 rfl <| s_istore_n [some (.ref 10), some (.int x1), some (.int ((h 10 1) - 1))] 4 rfl (by decide) rfl <| lpS (P := fun (s_15 : Int32) => Ev kX0_wordAhead RX0 3 d nox 7 [some (.ref 10), some (.int x1), some (.int s_15)] [] h (some (.int q)) h) ?_ FUEL _ e_9
  intro s_15 o_14 e hk_10 hx_11
  unfold fX0_wordAhead_b7 at e
  refine s_iload_n 5 rfl rfl <| ?_
  rcases iteS e with ⟨g_18, e⟩ | ⟨g_18, e⟩
  · cases e
    exact s_if_lt_T 6 58 rfl (by decide) g_18 <| s_fgt [true, true, true] rfl <| (kx_12 () (hx_11 _ rfl))
  · obtain ⟨g_19, e⟩ := grdS e
    refine s_if_lt_F 6 58 rfl (by decide) g_18 <| s_aload_n 7 rfl rfl <| s_geti 8 rfl fl_X0_36 sh_10 rfl <| s_aload_n 9 rfl rfl <| s_getr 10 rfl fl_X0_9 sh_10 rfl <| s_iload_n 11 rfl rfl <| s_iald (Int32.toNatClampNeg s_15) 12 rfl sh_11 g_19 rfl <| s_isub 13 rfl <| s_bipush 9 14 rfl (by decide) <| ?_
    rcases iteS e with ⟨g_20, e⟩ | ⟨g_20, e⟩
    · cases e
      exact s_icmp_gt_T 15 58 rfl (by decide) g_20 <| s_fgt [true, true, true] rfl <| (kx_12 () (hx_11 _ rfl))
    · obtain ⟨g_21, e⟩ := grdS e
      refine s_icmp_gt_F 15 58 rfl (by decide) g_20 <| s_aload_n 16 rfl rfl <| s_getr 17 rfl fl_X0_9 sh_10 rfl <| s_iload_n 18 rfl rfl <| s_iald (Int32.toNatClampNeg s_15) 19 rfl sh_11 g_21 rfl <| s_aload_n 20 rfl rfl <| s_geti 21 rfl fl_X0_36 sh_10 rfl <| ?_
      rcases iteS e with ⟨g_22, e⟩ | ⟨g_22, e⟩
      · cases e
        exact s_icmp_ge_T 22 52 rfl (by decide) g_22 <| s_iinc (-1) [some (.ref 10), some (.int x1), some (.int (s_15 + (-1)))] 31 rfl (by decide) rfl (by decide) rfl <| s_goto 32 7 rfl (by decide) <| (hk_10 (s_15 + (-1)) rfl)
      · obtain ⟨g_23, e⟩ := grdS e
        refine s_icmp_ge_F 22 52 rfl (by decide) g_22 <| s_aload_n 23 rfl rfl <| s_getr 24 rfl fl_X0_15 sh_10 rfl <| s_iload_n 25 rfl rfl <| s_iald (Int32.toNatClampNeg s_15) 26 rfl sh_12 g_23 rfl <| s_iload_n 27 rfl rfl <| ?_
        rcases iteS e with ⟨g_24, e⟩ | ⟨g_24, e⟩
        · cases e
          exact s_icmp_eq_T 28 52 rfl (by decide) g_24 <| s_iinc (-1) [some (.ref 10), some (.int x1), some (.int (s_15 + (-1)))] 31 rfl (by decide) rfl (by decide) rfl <| s_goto 32 7 rfl (by decide) <| (hk_10 (s_15 + (-1)) rfl)
        · cases e
          have z0 := kz_13 _ (hx_11 _ rfl)
          subst z0
          exact s_icmp_eq_F 28 52 rfl (by decide) g_24 <| s_iload_n 29 rfl rfl <| s_iret 30 rfl
def fX0_add (x1 : Int32) (x2 : Int32) (h : Sto) : Option (Int32 × Sto) :=
  grd (inb (h 10 1) 200) <| (some (su h 11 (Int32.toNatClampNeg (h 10 1)) (h 10 0))).bind fun h_2 => grd (inb (h_2 10 1) 200) <| (some (su h_2 12 (Int32.toNatClampNeg (h_2 10 1)) x1)).bind fun h_4 => grd (inb (h_4 10 1) 200) <| (some (su h_4 13 (Int32.toNatClampNeg (h_4 10 1)) x2)).bind fun h_6 => (fX0_wordAhead x1 h_6).bind fun q_7 => grd (inb (h_6 10 1) 200) <| (some (su h_6 14 (Int32.toNatClampNeg (h_6 10 1)) q_7)).bind fun h_10 => (some (su h_10 10 1 ((h_10 10 1) + 1))).bind fun h_11 => some (((h_11 10 1) - 1), h_11)
set_option maxRecDepth 100000 in
set_option maxHeartbeats 4000000 in
theorem okX0_add (d : Nat) (x1 : Int32) (x2 : Int32) (h : Sto) (qv : Int32) (qh : Sto) (e : fX0_add x1 x2 h = some (qv, qh)) : Ok yX0_add cX0_add 3 (some .int) (d + 1) [.ref 10, .int x1, .int x2] h (some (.int qv)) qh := by
  refine Ok_of (lst := kX0_add) (own := RX0) ⟨by decide, rfl⟩ ckX0_add trivial (Nat.le_of_ble_eq_true rfl) ?_
  unfold fX0_add at e
  change Ev kX0_add RX0 3 (d + 1) nox 0 [some (.ref 10), some (.int x1), some (.int x2)] [] h (some (.int qv)) qh
  obtain ⟨g_1, e⟩ := grdS e
  obtain ⟨h_2, eh_2, e⟩ := bndS e
  obtain ⟨g_3, e⟩ := grdS e
  obtain ⟨h_4, eh_4, e⟩ := bndS e
  obtain ⟨g_5, e⟩ := grdS e
  obtain ⟨h_6, eh_6, e⟩ := bndS e
  obtain ⟨q_7, e_8, e⟩ := bndS e
  obtain ⟨g_9, e⟩ := grdS e
  obtain ⟨h_10, eh_10, e⟩ := bndS e
  obtain ⟨h_11, eh_11, e⟩ := bndS e
  obtain ⟨rfl, rfl⟩ := some2 e
  exact s_aload_n 0 rfl rfl <| s_getr 1 rfl fl_X0_9 sh_10 rfl <| s_aload_n 2 rfl rfl <| s_geti 3 rfl fl_X0_28 sh_10 rfl <| s_aload_n 4 rfl rfl <| s_geti 5 rfl fl_X0_36 sh_10 rfl <| s_iast (Int32.toNatClampNeg (h 10 1)) 6 rfl sh_11 g_1 rfl <| s_nmH (Option.some.inj eh_2) <| s_aload_n 7 rfl rfl <| s_getr 8 rfl fl_X0_15 sh_10 rfl <| s_aload_n 9 rfl rfl <| s_geti 10 rfl fl_X0_28 sh_10 rfl <| s_iload_n 11 rfl rfl <| s_iast (Int32.toNatClampNeg (h_2 10 1)) 12 rfl sh_12 g_3 rfl <| s_nmH (Option.some.inj eh_4) <| s_aload_n 13 rfl rfl <| s_getr 14 rfl fl_X0_18 sh_10 rfl <| s_aload_n 15 rfl rfl <| s_geti 16 rfl fl_X0_28 sh_10 rfl <| s_iload_n 17 rfl rfl <| s_iast (Int32.toNatClampNeg (h_4 10 1)) 18 rfl sh_13 g_5 rfl <| s_nmH (Option.some.inj eh_6) <| s_aload_n 19 rfl rfl <| s_getr 20 rfl fl_X0_21 sh_10 rfl <| s_aload_n 21 rfl rfl <| s_geti 22 rfl fl_X0_28 sh_10 rfl <| s_aload_n 23 rfl rfl <| s_iload_n 24 rfl rfl <| s_callV (b := 10) (ci := 0) 25 [.int x1] [.int (h_6 10 1), .ref 14] rfl ml_X0_39 yw_X0_wordAhead sh_10 rfl rfl (okX0_wordAhead d _ _ _ e_8) rfl rfl (Nat.le_of_ble_eq_true rfl) <| s_iast (Int32.toNatClampNeg (h_6 10 1)) 26 rfl sh_14 g_9 rfl <| s_nmH (Option.some.inj eh_10) <| s_aload_n 27 rfl rfl <| s_dup 28 rfl rfl <| s_geti 29 rfl fl_X0_28 sh_10 rfl <| s_iconst 1 30 rfl (by decide) <| s_iadd 31 rfl <| s_puti 32 rfl fl_X0_28 sh_10 rfl <| s_nmH (Option.some.inj eh_11) <| s_aload_n 33 rfl rfl <| s_geti 34 rfl fl_X0_28 sh_10 rfl <| s_iconst 1 35 rfl (by decide) <| s_isub 36 rfl <| s_iret 37 rfl
def fX3_passSecond_b2 (c1 : Int32) (h : Sto) : Option ((Int32 × Sto) ⊕ Sto) :=
  if (h 2 0) ≤ c1 then (some (.inr h)) else ((fX8_hasBit (h 2 1) c1 h).bind fun q_2 => if q_2 = true then (some (.inl ((c1 + 1), h))) else ((fX3_isSpeaking c1 (h 10 0) h).bind fun q_5 => if q_5 = true then ((fX0_isFull h).bind fun q_8 => if q_8 = true then ((some (su h 10 2 ((h 10 2) + 1))).bind fun h_11 => some (.inl ((c1 + 1), h_11))) else ((fX3_topicOf c1 h).bind fun q_12 => (fX0_add c1 q_12 h).bind fun q_14 => some (.inl ((c1 + 1), q_14.2)))) else (some (.inl ((c1 + 1), h)))))
def fX3_passSecond (h : Sto) : Option Sto :=
  (lp (fun s => fX3_passSecond_b2 s.1 s.2) FUEL (0, h)).bind fun v_24 => (some (su v_24 10 0 ((v_24 10 0) + 1))).bind fun h_26 => some h_26
set_option maxRecDepth 100000 in
set_option maxHeartbeats 4000000 in
theorem okX3_passSecond (d : Nat) (h : Sto) (q : Sto) (e : fX3_passSecond h = some q) : Ok yX3_passSecond cX3_passSecond 2 none (d + 4) [.ref 1] h none q := by
  refine Ok_of (lst := kX3_passSecond) (own := RX3) ⟨by decide, rfl⟩ ckX3_passSecond trivial (Nat.le_of_ble_eq_true rfl) ?_
  unfold fX3_passSecond at e
  change Ev kX3_passSecond RX3 2 (d + 4) nox 0 [some (.ref 1), none] [] h none q
  obtain ⟨y_16, e_17, e⟩ := bndS e
  have kx_20 : ∀ v_24 : Sto, v_24 = y_16 → Ev kX3_passSecond RX3 2 (d + 4) nox 91 [some (.ref 1), none] [] v_24 none q := by
    intro v_24 hy
    subst hy
    obtain ⟨h_26, eh_26, e⟩ := bndS e
    obtain rfl := Option.some.inj e
    exact s_aload_n 43 rfl rfl <| s_getr 44 rfl fl_X3_21 sh_1 rfl <| s_dup 45 rfl rfl <| s_geti 46 rfl fl_X3_103 sh_10 rfl <| s_iconst 1 47 rfl (by decide) <| s_iadd 48 rfl <| s_puti 49 rfl fl_X3_103 sh_10 rfl <| s_nmH (Option.some.inj eh_26) <| s_vret 50 rfl
  refine s_iconst 0 0 rfl (by decide) <| s_istore_n [some (.ref 1), some (.int 0)] 1 rfl (by decide) rfl <| lpS (P := fun (s_23 : (Int32 × Sto)) => Ev kX3_passSecond RX3 2 (d + 4) nox 2 [some (.ref 1), some (.int s_23.1)] [] s_23.2 none q) ?_ FUEL _ e_17
  intro s_23 o_22 e hk_18 hx_19
  unfold fX3_passSecond_b2 at e
  refine s_iload_n 2 rfl rfl <| s_aload_n 3 rfl rfl <| s_getr 4 rfl fl_X3_12 sh_1 rfl <| s_geti 5 rfl fl_X3_97 sh_2 rfl <| ?_
  rcases iteS e with ⟨g_27, e⟩ | ⟨g_27, e⟩
  · cases e
    exact s_icmp_ge_T 6 91 rfl (by decide) g_27 <| s_fgt [false, true] rfl <| (kx_20 s_23.2 (hx_19 _ rfl))
  · obtain ⟨q_28, e_29, e⟩ := bndS e
    refine s_icmp_ge_F 6 91 rfl (by decide) g_27 <| s_aload_n 7 rfl rfl <| s_getr 8 rfl fl_X3_12 sh_1 rfl <| s_geti 9 rfl fl_X3_100 sh_2 rfl <| s_iload_n 10 rfl rfl <| s_callSN 11 [.int (s_23.2 2 1), .int s_23.1] [] rfl ml_X3_82 yw_X8_hasBit (okX8_hasBit (d + 3) _ _ _ _ e_29) rfl rfl (Nat.le_of_ble_eq_true rfl) <| ?_
    rcases iteS e with ⟨g_30, e⟩ | ⟨g_30, e⟩
    · cases e
      exact s_if_ne_T 12 85 rfl (by decide) (b2i_T g_30) <| s_iinc 1 [some (.ref 1), some (.int (s_23.1 + 1))] 41 rfl (by decide) rfl (by decide) rfl <| s_goto 42 2 rfl (by decide) <| (hk_18 ((s_23.1 + 1), s_23.2) rfl)
    · obtain ⟨q_31, e_32, e⟩ := bndS e
      refine s_if_ne_F 12 85 rfl (by decide) (b2i_F g_30) <| s_aload_n 13 rfl rfl <| s_iload_n 14 rfl rfl <| s_aload_n 15 rfl rfl <| s_getr 16 rfl fl_X3_21 sh_1 rfl <| s_geti 17 rfl fl_X3_103 sh_10 rfl <| s_callV (b := 1) (ci := 3) 18 [.int s_23.1, .int (s_23.2 10 0)] [] rfl ml_X3_106 yw_X3_isSpeaking sh_1 rfl rfl (okX3_isSpeaking d _ _ _ _ e_32) rfl rfl (Nat.le_of_ble_eq_true rfl) <| ?_
      rcases iteS e with ⟨g_33, e⟩ | ⟨g_33, e⟩
      · obtain ⟨q_34, e_35, e⟩ := bndS e
        refine s_if_ne_T 19 45 rfl (by decide) (b2i_T g_33) <| s_aload_n 21 rfl rfl <| s_getr 22 rfl fl_X3_21 sh_1 rfl <| s_callV (b := 10) (ci := 0) 23 [] [] rfl ml_X3_109 yw_X0_isFull sh_10 rfl rfl (okX0_isFull (d + 3) _ _ e_35) rfl rfl (Nat.le_of_ble_eq_true rfl) <| ?_
        rcases iteS e with ⟨g_36, e⟩ | ⟨g_36, e⟩
        · obtain ⟨h_37, eh_37, e⟩ := bndS e
          cases e
          exact s_if_eq_F 24 71 rfl (by decide) (b2i_T g_36) <| s_aload_n 25 rfl rfl <| s_getr 26 rfl fl_X3_21 sh_1 rfl <| s_dup 27 rfl rfl <| s_geti 28 rfl fl_X3_113 sh_10 rfl <| s_iconst 1 29 rfl (by decide) <| s_iadd 30 rfl <| s_puti 31 rfl fl_X3_113 sh_10 rfl <| s_nmH (Option.some.inj eh_37) <| s_goto 32 85 rfl (by decide) <| s_iinc 1 [some (.ref 1), some (.int (s_23.1 + 1))] 41 rfl (by decide) rfl (by decide) rfl <| s_goto 42 2 rfl (by decide) <| (hk_18 ((s_23.1 + 1), h_37) rfl)
        · obtain ⟨q_38, e_39, e⟩ := bndS e
          obtain ⟨q_40, e_41, e⟩ := bndS e
          cases e
          exact s_if_eq_T 24 71 rfl (by decide) (b2i_F g_36) <| s_aload_n 33 rfl rfl <| s_getr 34 rfl fl_X3_21 sh_1 rfl <| s_iload_n 35 rfl rfl <| s_aload_n 36 rfl rfl <| s_iload_n 37 rfl rfl <| s_callV (b := 1) (ci := 3) 38 [.int s_23.1] [.int s_23.1, .ref 10] rfl ml_X3_116 yw_X3_topicOf sh_1 rfl rfl (okX3_topicOf (d + 1) _ _ _ e_39) rfl rfl (Nat.le_of_ble_eq_true rfl) <| s_callV (b := 10) (ci := 0) 39 [.int s_23.1, .int q_38] [] rfl ml_X3_119 yw_X0_add sh_10 rfl rfl (okX0_add (d + 2) _ _ _ q_40.1 q_40.2 e_41) rfl rfl (Nat.le_of_ble_eq_true rfl) <| s_pop 40 rfl rfl <| s_iinc 1 [some (.ref 1), some (.int (s_23.1 + 1))] 41 rfl (by decide) rfl (by decide) rfl <| s_goto 42 2 rfl (by decide) <| (hk_18 ((s_23.1 + 1), q_40.2) rfl)
      · cases e
        exact s_if_ne_F 19 45 rfl (by decide) (b2i_F g_33) <| s_goto 20 85 rfl (by decide) <| s_iinc 1 [some (.ref 1), some (.int (s_23.1 + 1))] 41 rfl (by decide) rfl (by decide) rfl <| s_goto 42 2 rfl (by decide) <| (hk_18 ((s_23.1 + 1), s_23.2) rfl)
def fX8_go_b45 (x1 : Int32) (c2 : Int32) (h : Sto) : Option ((Int32 × Sto) ⊕ Sto) :=
  if x1 ≤ c2 then (some (.inr h)) else ((fX3_passSecond h).bind fun q_6 => some (.inl ((c2 + 1), q_6)))
def fX8_go (x1 : Int32) (h : Sto) : Option (Int32 × Sto) :=
  (fX8_isWithin x1 1 999 h).bind fun q_1 => if q_1 = true then (if ((h 10 0) + x1) ≤ 29999 then ((lp (fun s => fX8_go_b45 x1 s.1 s.2) FUEL (0, h)).bind fun v_16 => some ((v_16 10 0), v_16)) else ((fX8_tellFinding (-1000005) h).bind fun q_21 => some (q_21.1, q_21.2))) else ((fX8_tellFinding (-1000001) h).bind fun q_23 => some (q_23.1, q_23.2))
set_option maxRecDepth 100000 in
set_option maxHeartbeats 4000000 in
theorem okX8_go (d : Nat) (x1 : Int32) (h : Sto) (qv : Int32) (qh : Sto) (e : fX8_go x1 h = some (qv, qh)) : Ok yX8_go cX8_go 3 (some .int) (d + 5) [.ref 0, .int x1] h (some (.int qv)) qh := by
  refine Ok_of (lst := kX8_go) (own := RX8) ⟨by decide, rfl⟩ ckX8_go trivial (Nat.le_of_ble_eq_true rfl) ?_
  unfold fX8_go at e
  change Ev kX8_go RX8 3 (d + 5) nox 0 [some (.ref 0), some (.int x1), none] [] h (some (.int qv)) qh
  obtain ⟨q_1, e_2, e⟩ := bndS e
  refine s_iload_n 0 rfl rfl <| s_iconst 1 1 rfl (by decide) <| s_sipush 999 2 rfl (by decide) <| s_callS 3 [.int x1, .int 1, .int 999] [] rfl ml_X8_65 yw_X8_isWithin (okX8_isWithin (d + 4) _ _ _ _ _ e_2) rfl rfl (Nat.le_of_ble_eq_true rfl) <| ?_
  rcases iteS e with ⟨g_3, e⟩ | ⟨g_3, e⟩
  · refine s_if_ne_T 4 18 rfl (by decide) (b2i_T g_3) <| s_aload_n 9 rfl rfl <| s_getr 10 rfl fl_X8_12 sh_0 rfl <| s_getr 11 rfl fl_X8_134 sh_1 rfl <| s_geti 12 rfl fl_X8_138 sh_10 rfl <| s_iload_n 13 rfl rfl <| s_iadd 14 rfl <| s_sipush 29999 15 rfl (by decide) <| ?_
    rcases iteS e with ⟨g_4, e⟩ | ⟨g_4, e⟩
    · obtain ⟨y_8, e_9, e⟩ := bndS e
      have kx_12 : ∀ v_16 : Sto, v_16 = y_8 → Ev kX8_go RX8 3 (d + 5) nox 63 [some (.ref 0), none, none] [] v_16 (some (.int qv)) qh := by
        intro v_16 hy
        subst hy
        obtain ⟨rfl, rfl⟩ := some2 e
        exact s_aload_n 31 rfl rfl <| s_getr 32 rfl fl_X8_12 sh_0 rfl <| s_getr 33 rfl fl_X8_134 sh_1 rfl <| s_geti 34 rfl fl_X8_138 sh_10 rfl <| s_iret 35 rfl
      refine s_icmp_le_T 16 43 rfl (by decide) g_4 <| s_iconst 0 21 rfl (by decide) <| s_istore_n [some (.ref 0), some (.int x1), some (.int 0)] 22 rfl (by decide) rfl <| lpS (P := fun (s_15 : (Int32 × Sto)) => Ev kX8_go RX8 3 (d + 5) nox 45 [some (.ref 0), some (.int x1), some (.int s_15.1)] [] s_15.2 (some (.int qv)) qh) ?_ FUEL _ e_9
      intro s_15 o_14 e hk_10 hx_11
      unfold fX8_go_b45 at e
      refine s_iload_n 23 rfl rfl <| s_iload_n 24 rfl rfl <| ?_
      rcases iteS e with ⟨g_18, e⟩ | ⟨g_18, e⟩
      · cases e
        exact s_icmp_ge_T 25 63 rfl (by decide) g_18 <| s_fgt [false, true, true] rfl <| (kx_12 s_15.2 (hx_11 _ rfl))
      · obtain ⟨q_19, e_20, e⟩ := bndS e
        cases e
        exact s_icmp_ge_F 25 63 rfl (by decide) g_18 <| s_aload_n 26 rfl rfl <| s_getr 27 rfl fl_X8_12 sh_0 rfl <| s_callV (b := 1) (ci := 3) 28 [] [] rfl ml_X8_144 yw_X3_passSecond sh_1 rfl rfl (okX3_passSecond d _ _ e_20) rfl rfl (Nat.le_of_ble_eq_true rfl) <| s_iinc 1 [some (.ref 0), some (.int x1), some (.int (s_15.1 + 1))] 29 rfl (by decide) rfl (by decide) rfl <| s_goto 30 45 rfl (by decide) <| (hk_10 ((s_15.1 + 1), q_19) rfl)
    · obtain ⟨q_21, e_22, e⟩ := bndS e
      obtain ⟨rfl, rfl⟩ := some2 e
      exact s_icmp_le_F 16 43 rfl (by decide) g_4 <| s_aload_n 17 rfl rfl <| s_ldc 18 rfl wc_X8_143 <| s_callV (b := 0) (ci := 8) 19 [.int (-1000005)] [] rfl ml_X8_70 yw_X8_tellFinding sh_0 rfl rfl (okX8_tellFinding (d + 3) _ _ q_21.1 q_21.2 e_22) rfl rfl (Nat.le_of_ble_eq_true rfl) <| s_iret 20 rfl
  · obtain ⟨q_23, e_24, e⟩ := bndS e
    obtain ⟨rfl, rfl⟩ := some2 e
    exact s_if_ne_F 4 18 rfl (by decide) (b2i_F g_3) <| s_aload_n 5 rfl rfl <| s_ldc 6 rfl wc_X8_69 <| s_callV (b := 0) (ci := 8) 7 [.int (-1000001)] [] rfl ml_X8_70 yw_X8_tellFinding sh_0 rfl rfl (okX8_tellFinding (d + 3) _ _ q_23.1 q_23.2 e_24) rfl rfl (Nat.le_of_ble_eq_true rfl) <| s_iret 8 rfl
def fX9_wordsOf_b4 (x1 : Int32) (h : Sto) (c2 : Int32) (c3 : Int32) : Option ((Int32 × Int32) ⊕ Int32) :=
  if (h 84 2) ≤ c3 then (some (.inr c2)) else ((fX9_word c3 1 h).bind fun q_2 => if ¬ q_2 = x1 then (some (.inl ((c2 + 0), (c3 + 1)))) else (some (.inl ((c2 + 1), (c3 + 1)))))
def fX9_wordsOf (x1 : Int32) (h : Sto) : Option Int32 :=
  (lp (fun s => fX9_wordsOf_b4 x1 h s.1 s.2) FUEL (0, 0)).bind fun v_13 => some v_13
set_option maxRecDepth 100000 in
set_option maxHeartbeats 4000000 in
theorem okX9_wordsOf (d : Nat) (x1 : Int32) (h : Sto) (q : Int32) (e : fX9_wordsOf x1 h = some q) : Ok yX9_wordsOf cX9_wordsOf 4 (some .int) (d + 1) [.ref 83, .int x1] h (some (.int q)) h := by
  refine Ok_of (lst := kX9_wordsOf) (own := RX9) ⟨by decide, rfl⟩ ckX9_wordsOf trivial (Nat.le_of_ble_eq_true rfl) ?_
  unfold fX9_wordsOf at e
  change Ev kX9_wordsOf RX9 4 (d + 1) nox 0 [some (.ref 83), some (.int x1), none, none] [] h (some (.int q)) h
  obtain ⟨y_5, e_6, e⟩ := bndS e
  have kx_9 : ∀ v_13 : Int32, v_13 = y_5 → Ev kX9_wordsOf RX9 4 (d + 1) nox 38 [none, none, some (.int v_13), none] [] h (some (.int q)) h := by
    intro v_13 hy
    subst hy
    obtain rfl := Option.some.inj e
    exact s_iload_n 24 rfl rfl <| s_iret 25 rfl
  refine s_iconst 0 0 rfl (by decide) <| s_istore_n [some (.ref 83), some (.int x1), some (.int 0), none] 1 rfl (by decide) rfl <| s_iconst 0 2 rfl (by decide) <| s_istore_n [some (.ref 83), some (.int x1), some (.int 0), some (.int 0)] 3 rfl (by decide) rfl <| lpS (P := fun (s_12 : (Int32 × Int32)) => Ev kX9_wordsOf RX9 4 (d + 1) nox 4 [some (.ref 83), some (.int x1), some (.int s_12.1), some (.int s_12.2)] [] h (some (.int q)) h) ?_ FUEL _ e_6
  intro s_12 o_11 e hk_7 hx_8
  unfold fX9_wordsOf_b4 at e
  refine s_iload_n 4 rfl rfl <| s_aload_n 5 rfl rfl <| s_getr 6 rfl fl_X9_9 sh_83 rfl <| s_iconst 2 7 rfl (by decide) <| s_iald 2 8 rfl sh_84 (by decide) (by decide) <| ?_
  rcases iteS e with ⟨g_15, e⟩ | ⟨g_15, e⟩
  · cases e
    exact s_icmp_ge_T 9 38 rfl (by decide) g_15 <| s_fgt [true, true, false, true] rfl <| (kx_9 s_12.1 (hx_8 _ rfl))
  · obtain ⟨q_16, e_17, e⟩ := bndS e
    refine s_icmp_ge_F 9 38 rfl (by decide) g_15 <| s_iload_n 10 rfl rfl <| s_aload_n 11 rfl rfl <| s_iload_n 12 rfl rfl <| s_iconst 1 13 rfl (by decide) <| s_callV (b := 83) (ci := 9) 14 [.int s_12.2, .int 1] [.int s_12.1] rfl ml_X9_101 yw_X9_word sh_83 rfl rfl (okX9_word d _ _ _ _ e_17) rfl rfl (Nat.le_of_ble_eq_true rfl) <| s_iload_n 15 rfl rfl <| ?_
    rcases iteS e with ⟨g_18, e⟩ | ⟨g_18, e⟩
    · cases e
      exact s_icmp_ne_T 16 29 rfl (by decide) g_18 <| s_iconst 0 19 rfl (by decide) <| s_iadd 20 rfl <| s_istore_n [some (.ref 83), some (.int x1), some (.int (s_12.1 + 0)), some (.int s_12.2)] 21 rfl (by decide) rfl <| s_iinc 1 [some (.ref 83), some (.int x1), some (.int (s_12.1 + 0)), some (.int (s_12.2 + 1))] 22 rfl (by decide) rfl (by decide) rfl <| s_goto 23 4 rfl (by decide) <| (hk_7 ((s_12.1 + 0), (s_12.2 + 1)) rfl)
    · cases e
      exact s_icmp_ne_F 16 29 rfl (by decide) (Decidable.not_not.mp g_18) <| s_iconst 1 17 rfl (by decide) <| s_goto 18 30 rfl (by decide) <| s_iadd 20 rfl <| s_istore_n [some (.ref 83), some (.int x1), some (.int (s_12.1 + 1)), some (.int s_12.2)] 21 rfl (by decide) rfl <| s_iinc 1 [some (.ref 83), some (.int x1), some (.int (s_12.1 + 1)), some (.int (s_12.2 + 1))] 22 rfl (by decide) rfl (by decide) rfl <| s_goto 23 4 rfl (by decide) <| (hk_7 ((s_12.1 + 1), (s_12.2 + 1)) rfl)
def fX9_tellsNow_b61 (x1 : Int32) (x2 : Int32) (h : Sto) (c3 : Int32) : Option (Int32 ⊕ (Unit ⊕ Int32)) :=
  if c3 < 0 then (some (.inr (.inl ()))) else ((fX9_word c3 1 h).bind fun q_13 => (fX9_of x1 4 h).bind fun q_15 => if ¬ q_13 = q_15 then (some (.inl (c3 + (-1)))) else ((fX9_word c3 2 h).bind fun q_18 => some (.inr (.inr q_18))))
def fX9_tellsNow (x1 : Int32) (h : Sto) : Option Int32 :=
  (fX9_of x1 5 h).bind fun q_1 => (fX9_of x1 0 h).bind fun q_3 => if ¬ q_3 = 3 then ((fX9_of x1 0 h).bind fun q_6 => if ¬ q_6 = 6 then (some q_1) else ((fX9_of x1 4 h).bind fun q_9 => if 0 ≤ q_9 then ((lp (fun s => fX9_tellsNow_b61 x1 q_1 h s) FUEL ((h 84 2) - 1)).bind fun y_20 => Sum.elim (fun v_28 => some q_1) (fun z_29 => some z_29) y_20) else (some q_1))) else ((fX9_wordsOf x1 h).bind fun q_38 => some (jrem (q_1 + (jrem q_38 3)) 10))
set_option maxRecDepth 100000 in
set_option maxHeartbeats 4000000 in
theorem okX9_tellsNow (d : Nat) (x1 : Int32) (h : Sto) (q : Int32) (e : fX9_tellsNow x1 h = some q) : Ok yX9_tellsNow cX9_tellsNow 4 (some .int) (d + 2) [.ref 83, .int x1] h (some (.int q)) h := by
  refine Ok_of (lst := kX9_tellsNow) (own := RX9) ⟨by decide, rfl⟩ ckX9_tellsNow trivial (Nat.le_of_ble_eq_true rfl) ?_
  unfold fX9_tellsNow at e
  change Ev kX9_tellsNow RX9 4 (d + 2) nox 0 [some (.ref 83), some (.int x1), none, none] [] h (some (.int q)) h
  obtain ⟨q_1, e_2, e⟩ := bndS e
  obtain ⟨q_3, e_4, e⟩ := bndS e
  refine s_aload_n 0 rfl rfl <| s_iload_n 1 rfl rfl <| s_iconst 5 2 rfl (by decide) <| s_callV (b := 83) (ci := 9) 3 [.int x1, .int 5] [] rfl ml_X9_69 yw_X9_of sh_83 rfl rfl (okX9_of (d + 1) _ _ _ _ e_2) rfl rfl (Nat.le_of_ble_eq_true rfl) <| s_istore_n [some (.ref 83), some (.int x1), some (.int q_1), none] 4 rfl (by decide) rfl <| s_aload_n 5 rfl rfl <| s_iload_n 6 rfl rfl <| s_iconst 0 7 rfl (by decide) <| s_callV (b := 83) (ci := 9) 8 [.int x1, .int 0] [] rfl ml_X9_69 yw_X9_of sh_83 rfl rfl (okX9_of (d + 1) _ _ _ _ e_4) rfl rfl (Nat.le_of_ble_eq_true rfl) <| s_iconst 3 9 rfl (by decide) <| ?_
  rcases iteS e with ⟨g_5, e⟩ | ⟨g_5, e⟩
  · obtain ⟨q_6, e_7, e⟩ := bndS e
    refine s_icmp_ne_T 10 30 rfl (by decide) g_5 <| s_aload_n 21 rfl rfl <| s_iload_n 22 rfl rfl <| s_iconst 0 23 rfl (by decide) <| s_callV (b := 83) (ci := 9) 24 [.int x1, .int 0] [] rfl ml_X9_69 yw_X9_of sh_83 rfl rfl (okX9_of (d + 1) _ _ _ _ e_7) rfl rfl (Nat.le_of_ble_eq_true rfl) <| s_bipush 6 25 rfl (by decide) <| ?_
    rcases iteS e with ⟨g_8, e⟩ | ⟨g_8, e⟩
    · obtain rfl := Option.some.inj e
      exact s_icmp_ne_T 26 50 rfl (by decide) g_8 <| s_iload_n 32 rfl rfl <| s_iret 33 rfl
    · obtain ⟨q_9, e_10, e⟩ := bndS e
      refine s_icmp_ne_F 26 50 rfl (by decide) (Decidable.not_not.mp g_8) <| s_aload_n 27 rfl rfl <| s_iload_n 28 rfl rfl <| s_iconst 4 29 rfl (by decide) <| s_callV (b := 83) (ci := 9) 30 [.int x1, .int 4] [] rfl ml_X9_69 yw_X9_of sh_83 rfl rfl (okX9_of (d + 1) _ _ _ _ e_10) rfl rfl (Nat.le_of_ble_eq_true rfl) <| ?_
      rcases iteS e with ⟨g_11, e⟩ | ⟨g_11, e⟩
      · obtain ⟨y_20, e_21, e⟩ := bndS e
        have kx_24 : ∀ v_28 : Unit, .inl v_28 = y_20 → Ev kX9_tellsNow RX9 4 (d + 2) nox 93 [none, none, some (.int q_1), none] [] h (some (.int q)) h := by
          intro v_28 hy
          subst hy
          have e := elL e
          obtain rfl := Option.some.inj e
          exact s_iload_n 59 rfl rfl <| s_iret 60 rfl
        have kz_25 : ∀ z_29 : Int32, .inr z_29 = y_20 → z_29 = q := by
          intro z_29 hy
          subst hy
          have e := elR e
          exact Option.some.inj e
        refine s_if_ge_T 31 52 rfl (by decide) g_11 <| s_aload_n 34 rfl rfl <| s_getr 35 rfl fl_X9_9 sh_83 rfl <| s_iconst 2 36 rfl (by decide) <| s_iald 2 37 rfl sh_84 (by decide) (by decide) <| s_iconst 1 38 rfl (by decide) <| s_isub 39 rfl <| s_istore_n [some (.ref 83), some (.int x1), some (.int q_1), some (.int ((h 84 2) - 1))] 40 rfl (by decide) rfl <| lpS (P := fun (s_27 : Int32) => Ev kX9_tellsNow RX9 4 (d + 2) nox 61 [some (.ref 83), some (.int x1), some (.int q_1), some (.int s_27)] [] h (some (.int q)) h) ?_ FUEL _ e_21
        intro s_27 o_26 e hk_22 hx_23
        unfold fX9_tellsNow_b61 at e
        refine s_iload_n 41 rfl rfl <| ?_
        rcases iteS e with ⟨g_30, e⟩ | ⟨g_30, e⟩
        · cases e
          exact s_if_lt_T 42 93 rfl (by decide) g_30 <| s_fgt [true, true, false, true] rfl <| (kx_24 () (hx_23 _ rfl))
        · obtain ⟨q_31, e_32, e⟩ := bndS e
          obtain ⟨q_33, e_34, e⟩ := bndS e
          refine s_if_lt_F 42 93 rfl (by decide) g_30 <| s_aload_n 43 rfl rfl <| s_iload_n 44 rfl rfl <| s_iconst 1 45 rfl (by decide) <| s_callV (b := 83) (ci := 9) 46 [.int s_27, .int 1] [] rfl ml_X9_101 yw_X9_word sh_83 rfl rfl (okX9_word (d + 1) _ _ _ _ e_32) rfl rfl (Nat.le_of_ble_eq_true rfl) <| s_aload_n 47 rfl rfl <| s_iload_n 48 rfl rfl <| s_iconst 4 49 rfl (by decide) <| s_callV (b := 83) (ci := 9) 50 [.int x1, .int 4] [.int q_31] rfl ml_X9_69 yw_X9_of sh_83 rfl rfl (okX9_of (d + 1) _ _ _ _ e_34) rfl rfl (Nat.le_of_ble_eq_true rfl) <| ?_
          rcases iteS e with ⟨g_35, e⟩ | ⟨g_35, e⟩
          · cases e
            exact s_icmp_ne_T 51 87 rfl (by decide) g_35 <| s_iinc (-1) [some (.ref 83), some (.int x1), some (.int q_1), some (.int (s_27 + (-1)))] 57 rfl (by decide) rfl (by decide) rfl <| s_goto 58 61 rfl (by decide) <| (hk_22 (s_27 + (-1)) rfl)
          · obtain ⟨q_36, e_37, e⟩ := bndS e
            cases e
            have z0 := kz_25 _ (hx_23 _ rfl)
            subst z0
            exact s_icmp_ne_F 51 87 rfl (by decide) (Decidable.not_not.mp g_35) <| s_aload_n 52 rfl rfl <| s_iload_n 53 rfl rfl <| s_iconst 2 54 rfl (by decide) <| s_callV (b := 83) (ci := 9) 55 [.int s_27, .int 2] [] rfl ml_X9_101 yw_X9_word sh_83 rfl rfl (okX9_word (d + 1) _ _ _ _ e_37) rfl rfl (Nat.le_of_ble_eq_true rfl) <| s_iret 56 rfl
      · obtain rfl := Option.some.inj e
        exact s_if_ge_F 31 52 rfl (by decide) g_11 <| s_iload_n 32 rfl rfl <| s_iret 33 rfl
  · obtain ⟨q_38, e_39, e⟩ := bndS e
    obtain rfl := Option.some.inj e
    exact s_icmp_ne_F 10 30 rfl (by decide) (Decidable.not_not.mp g_5) <| s_iload_n 11 rfl rfl <| s_aload_n 12 rfl rfl <| s_iload_n 13 rfl rfl <| s_callV (b := 83) (ci := 9) 14 [.int x1] [.int q_1] rfl ml_X9_123 yw_X9_wordsOf sh_83 rfl rfl (okX9_wordsOf d _ _ _ e_39) rfl rfl (Nat.le_of_ble_eq_true rfl) <| s_iconst 3 15 rfl (by decide) <| s_irem 16 rfl (by decide) <| s_iadd 17 rfl <| s_bipush 10 18 rfl (by decide) <| s_irem 19 rfl (by decide) <| s_iret 20 rfl
def fX9_isSaid (x1 : Int32) (x2 : Int32) (h : Sto) : Option (Bool × Sto) :=
  if ¬ (h 84 2) = 200 then (grd (inb (118 + (3 * (h 84 2))) 1214) <| (some (su h 84 (Int32.toNatClampNeg (118 + (3 * (h 84 2)))) (h 84 1))).bind fun h_3 => grd (inb ((118 + (3 * (h 84 2))) + 1) 1214) <| (some (su h_3 84 (Int32.toNatClampNeg ((118 + (3 * (h 84 2))) + 1)) x1)).bind fun h_5 => grd (inb ((118 + (3 * (h 84 2))) + 2) 1214) <| (some (su h_5 84 (Int32.toNatClampNeg ((118 + (3 * (h 84 2))) + 2)) x2)).bind fun h_7 => (some (su h_7 84 2 ((h_7 84 2) + 1))).bind fun h_8 => some (true, h_8)) else (some (false, h))
set_option maxRecDepth 100000 in
set_option maxHeartbeats 4000000 in
theorem okX9_isSaid (d : Nat) (x1 : Int32) (x2 : Int32) (h : Sto) (qv : Bool) (qh : Sto) (e : fX9_isSaid x1 x2 h = some (qv, qh)) : Ok yX9_isSaid cX9_isSaid 4 (some .boolean) d [.ref 83, .int x1, .int x2] h (some (.int (b2i qv))) qh := by
  refine Ok_of (lst := kX9_isSaid) (own := RX9) ⟨by decide, rfl⟩ ckX9_isSaid (b2i_01 _) (Nat.le_of_ble_eq_true rfl) ?_
  unfold fX9_isSaid at e
  change Ev kX9_isSaid RX9 4 d nox 0 [some (.ref 83), some (.int x1), some (.int x2), none] [] h (some (.int (b2i qv))) qh
  refine s_aload_n 0 rfl rfl <| s_getr 1 rfl fl_X9_9 sh_83 rfl <| s_iconst 2 2 rfl (by decide) <| s_iald 2 3 rfl sh_84 (by decide) (by decide) <| s_sipush 200 4 rfl (by decide) <| ?_
  rcases iteS e with ⟨g_1, e⟩ | ⟨g_1, e⟩
  · obtain ⟨g_2, e⟩ := grdS e
    obtain ⟨h_3, eh_3, e⟩ := bndS e
    obtain ⟨g_4, e⟩ := grdS e
    obtain ⟨h_5, eh_5, e⟩ := bndS e
    obtain ⟨g_6, e⟩ := grdS e
    obtain ⟨h_7, eh_7, e⟩ := bndS e
    obtain ⟨h_8, eh_8, e⟩ := bndS e
    obtain ⟨rfl, rfl⟩ := some2 e
    exact s_icmp_ne_T 5 14 rfl (by decide) g_1 <| s_bipush 118 8 rfl (by decide) <| s_iconst 3 9 rfl (by decide) <| s_aload_n 10 rfl rfl <| s_getr 11 rfl fl_X9_9 sh_83 rfl <| s_iconst 2 12 rfl (by decide) <| s_iald 2 13 rfl sh_84 (by decide) (by decide) <| s_imul 14 rfl <| s_iadd 15 rfl <| s_istore_n [some (.ref 83), some (.int x1), some (.int x2), some (.int (118 + (3 * (h 84 2))))] 16 rfl (by decide) rfl <| s_aload_n 17 rfl rfl <| s_getr 18 rfl fl_X9_9 sh_83 rfl <| s_iload_n 19 rfl rfl <| s_aload_n 20 rfl rfl <| s_getr 21 rfl fl_X9_9 sh_83 rfl <| s_iconst 1 22 rfl (by decide) <| s_iald 1 23 rfl sh_84 (by decide) (by decide) <| s_iast (Int32.toNatClampNeg (118 + (3 * (h 84 2)))) 24 rfl sh_84 g_2 rfl <| s_nmH (Option.some.inj eh_3) <| s_aload_n 25 rfl rfl <| s_getr 26 rfl fl_X9_9 sh_83 rfl <| s_iload_n 27 rfl rfl <| s_iconst 1 28 rfl (by decide) <| s_iadd 29 rfl <| s_iload_n 30 rfl rfl <| s_iast (Int32.toNatClampNeg ((118 + (3 * (h 84 2))) + 1)) 31 rfl sh_84 g_4 rfl <| s_nmH (Option.some.inj eh_5) <| s_aload_n 32 rfl rfl <| s_getr 33 rfl fl_X9_9 sh_83 rfl <| s_iload_n 34 rfl rfl <| s_iconst 2 35 rfl (by decide) <| s_iadd 36 rfl <| s_iload_n 37 rfl rfl <| s_iast (Int32.toNatClampNeg ((118 + (3 * (h 84 2))) + 2)) 38 rfl sh_84 g_6 rfl <| s_nmH (Option.some.inj eh_7) <| s_aload_n 39 rfl rfl <| s_getr 40 rfl fl_X9_9 sh_83 rfl <| s_iconst 2 41 rfl (by decide) <| s_dup2 42 rfl rfl rfl <| s_iald 2 43 rfl sh_84 (by decide) (by decide) <| s_iconst 1 44 rfl (by decide) <| s_iadd 45 rfl <| s_iast 2 46 rfl sh_84 (by decide) (by decide) <| s_nmH (Option.some.inj eh_8) <| s_iconst 1 47 rfl (by decide) <| s_iret 48 rfl
  · obtain ⟨rfl, rfl⟩ := some2 e
    exact s_icmp_ne_F 5 14 rfl (by decide) (Decidable.not_not.mp g_1) <| s_iconst 0 6 rfl (by decide) <| s_iret 7 rfl
def fX9_go_b49 (x1 : Int32) (x2 : Int32) (c3 : Int32) (h : Sto) : Option ((Int32 × Sto) ⊕ Sto) :=
  if (h 84 0) ≤ c3 then (some (.inr h)) else ((fX9_of c3 6 h).bind fun q_7 => if q_7 = 1 then (some (.inl ((c3 + 1), h))) else ((fX9_doesSpeak c3 (h 84 1) h).bind fun q_10 => if q_10 = true then ((fX9_tellsNow c3 h).bind fun q_13 => (fX9_isSaid c3 q_13 h).bind fun q_15 => if q_15.1 = true then ((some (su q_15.2 84 3 ((h 84 3) + 0))).bind fun h_18 => some (.inl ((c3 + 1), h_18))) else ((some (su q_15.2 84 3 ((h 84 3) + 1))).bind fun h_19 => some (.inl ((c3 + 1), h_19)))) else (some (.inl ((c3 + 1), h)))))
def fX9_go_b42 (x1 : Int32) (c2 : Int32) (h : Sto) : Option ((Int32 × Sto) ⊕ Sto) :=
  if x1 ≤ c2 then (some (.inr h)) else ((lp (fun s => fX9_go_b49 x1 c2 s.1 s.2) FUEL (0, h)).bind fun v_28 => (some (su v_28 84 1 ((v_28 84 1) + 1))).bind fun h_30 => some (.inl ((c2 + 1), h_30)))
def fX9_go (x1 : Int32) (h : Sto) : Option (Int32 × Sto) :=
  (fX9_in x1.toInt64 1 999 h).bind fun q_1 => if q_1 = true then (if ((h 84 1) + x1) ≤ 29999 then ((lp (fun s => fX9_go_b42 x1 s.1 s.2) FUEL (0, h)).bind fun v_53 => some ((v_53 84 1), v_53)) else ((fX9_finds (-1000005) h).bind fun q_95 => some (q_95.1, q_95.2))) else ((fX9_finds (-1000001) h).bind fun q_97 => some (q_97.1, q_97.2))
set_option maxRecDepth 100000 in
set_option maxHeartbeats 4000000 in
theorem okX9_go (d : Nat) (x1 : Int32) (h : Sto) (qv : Int32) (qh : Sto) (e : fX9_go x1 h = some (qv, qh)) : Ok yX9_go cX9_go 4 (some .int) (d + 3) [.ref 83, .int x1] h (some (.int qv)) qh := by
  refine Ok_of (lst := kX9_go) (own := RX9) ⟨by decide, rfl⟩ ckX9_go trivial (Nat.le_of_ble_eq_true rfl) ?_
  unfold fX9_go at e
  change Ev kX9_go RX9 4 (d + 3) nox 0 [some (.ref 83), some (.int x1), none, none] [] h (some (.int qv)) qh
  obtain ⟨q_1, e_2, e⟩ := bndS e
  refine s_iload_n 0 rfl rfl <| s_i2l 1 rfl <| s_lconst 1 2 rfl (by decide) <| s_ldc2_w 3 rfl wc_X9_62 <| s_callS 4 [.long x1.toInt64, .long 1, .long 999] [] rfl ml_X9_48 yw_X9_in (okX9_in (d + 2) _ _ _ _ _ e_2) rfl rfl (Nat.le_of_ble_eq_true rfl) <| ?_
  rcases iteS e with ⟨g_3, e⟩ | ⟨g_3, e⟩
  · refine s_if_ne_T 5 19 rfl (by decide) (b2i_T g_3) <| s_aload_n 10 rfl rfl <| s_getr 11 rfl fl_X9_9 sh_83 rfl <| s_iconst 1 12 rfl (by decide) <| s_iald 1 13 rfl sh_84 (by decide) (by decide) <| s_iload_n 14 rfl rfl <| s_iadd 15 rfl <| s_sipush 29999 16 rfl (by decide) <| ?_
    rcases iteS e with ⟨g_4, e⟩ | ⟨g_4, e⟩
    · obtain ⟨y_45, e_46, e⟩ := bndS e
      have kx_49 : ∀ v_53 : Sto, v_53 = y_45 → Ev kX9_go RX9 4 (d + 3) nox 136 [some (.ref 83), none, none, none] [] v_53 (some (.int qv)) qh := by
        intro v_53 hy
        subst hy
        obtain ⟨rfl, rfl⟩ := some2 e
        exact s_aload_n 79 rfl rfl <| s_getr 80 rfl fl_X9_9 sh_83 rfl <| s_iconst 1 81 rfl (by decide) <| s_iald 1 82 rfl sh_84 (by decide) (by decide) <| s_iret 83 rfl
      refine s_icmp_le_T 17 40 rfl (by decide) g_4 <| s_iconst 0 22 rfl (by decide) <| s_istore_n [some (.ref 83), some (.int x1), some (.int 0), none] 23 rfl (by decide) rfl <| lpS (P := fun (s_52 : (Int32 × Sto)) => Ev kX9_go RX9 4 (d + 3) nox 42 [some (.ref 83), some (.int x1), some (.int s_52.1), none] [] s_52.2 (some (.int qv)) qh) ?_ FUEL _ e_46
      intro s_52 o_51 e hk_47 hx_48
      unfold fX9_go_b42 at e
      refine s_iload_n 24 rfl rfl <| s_iload_n 25 rfl rfl <| ?_
      rcases iteS e with ⟨g_55, e⟩ | ⟨g_55, e⟩
      · cases e
        exact s_icmp_ge_T 26 136 rfl (by decide) g_55 <| s_fgt [false, true, true] rfl <| (kx_49 s_52.2 (hx_48 _ rfl))
      · obtain ⟨y_70, e_71, e⟩ := bndS e
        have kx_74 : ∀ v_78 : Sto, v_78 = y_70 → Ev kX9_go RX9 4 (d + 3) nox 120 [some (.ref 83), some (.int x1), some (.int s_52.1), none] [] v_78 (some (.int qv)) qh := by
          intro v_78 hy
          subst hy
          obtain ⟨h_80, eh_80, e⟩ := bndS e
          cases e
          exact s_aload_n 69 rfl rfl <| s_getr 70 rfl fl_X9_9 sh_83 rfl <| s_iconst 1 71 rfl (by decide) <| s_dup2 72 rfl rfl rfl <| s_iald 1 73 rfl sh_84 (by decide) (by decide) <| s_iconst 1 74 rfl (by decide) <| s_iadd 75 rfl <| s_iast 1 76 rfl sh_84 (by decide) (by decide) <| s_nmH (Option.some.inj eh_80) <| s_iinc 1 [some (.ref 83), some (.int x1), some (.int (s_52.1 + 1)), none] 77 rfl (by decide) rfl (by decide) rfl <| s_goto 78 42 rfl (by decide) <| (hk_47 ((s_52.1 + 1), h_80) rfl)
        refine s_icmp_ge_F 26 136 rfl (by decide) g_55 <| s_iconst 0 27 rfl (by decide) <| s_istore_n [some (.ref 83), some (.int x1), some (.int s_52.1), some (.int 0)] 28 rfl (by decide) rfl <| lpS (P := fun (s_77 : (Int32 × Sto)) => Ev kX9_go RX9 4 (d + 3) nox 49 [some (.ref 83), some (.int x1), some (.int s_52.1), some (.int s_77.1)] [] s_77.2 (some (.int qv)) qh) ?_ FUEL _ e_71
        intro s_77 o_76 e hk_72 hx_73
        unfold fX9_go_b49 at e
        refine s_iload_n 29 rfl rfl <| s_aload_n 30 rfl rfl <| s_getr 31 rfl fl_X9_9 sh_83 rfl <| s_iconst 0 32 rfl (by decide) <| s_iald 0 33 rfl sh_84 (by decide) (by decide) <| ?_
        rcases iteS e with ⟨g_81, e⟩ | ⟨g_81, e⟩
        · cases e
          exact s_icmp_ge_T 34 120 rfl (by decide) g_81 <| s_fgt [false, false, false, true] rfl <| (kx_74 s_77.2 (hx_73 _ rfl))
        · obtain ⟨q_82, e_83, e⟩ := bndS e
          refine s_icmp_ge_F 34 120 rfl (by decide) g_81 <| s_aload_n 35 rfl rfl <| s_iload_n 36 rfl rfl <| s_bipush 6 37 rfl (by decide) <| s_callV (b := 83) (ci := 9) 38 [.int s_77.1, .int 6] [] rfl ml_X9_69 yw_X9_of sh_83 rfl rfl (okX9_of (d + 2) _ _ _ _ e_83) rfl rfl (Nat.le_of_ble_eq_true rfl) <| s_iconst 1 39 rfl (by decide) <| ?_
          rcases iteS e with ⟨g_84, e⟩ | ⟨g_84, e⟩
          · cases e
            exact s_icmp_eq_T 40 114 rfl (by decide) g_84 <| s_iinc 1 [some (.ref 83), some (.int x1), some (.int s_52.1), some (.int (s_77.1 + 1))] 67 rfl (by decide) rfl (by decide) rfl <| s_goto 68 49 rfl (by decide) <| (hk_72 ((s_77.1 + 1), s_77.2) rfl)
          · obtain ⟨q_85, e_86, e⟩ := bndS e
            refine s_icmp_eq_F 40 114 rfl (by decide) g_84 <| s_aload_n 41 rfl rfl <| s_iload_n 42 rfl rfl <| s_aload_n 43 rfl rfl <| s_getr 44 rfl fl_X9_9 sh_83 rfl <| s_iconst 1 45 rfl (by decide) <| s_iald 1 46 rfl sh_84 (by decide) (by decide) <| s_callV (b := 83) (ci := 9) 47 [.int s_77.1, .int (s_77.2 84 1)] [] rfl ml_X9_119 yw_X9_doesSpeak sh_83 rfl rfl (okX9_doesSpeak d _ _ _ _ e_86) rfl rfl (Nat.le_of_ble_eq_true rfl) <| ?_
            rcases iteS e with ⟨g_87, e⟩ | ⟨g_87, e⟩
            · obtain ⟨q_88, e_89, e⟩ := bndS e
              obtain ⟨q_90, e_91, e⟩ := bndS e
              refine s_if_ne_T 48 87 rfl (by decide) (b2i_T g_87) <| s_aload_n 50 rfl rfl <| s_getr 51 rfl fl_X9_9 sh_83 rfl <| s_iconst 3 52 rfl (by decide) <| s_dup2 53 rfl rfl rfl <| s_iald 3 54 rfl sh_84 (by decide) (by decide) <| s_aload_n 55 rfl rfl <| s_iload_n 56 rfl rfl <| s_aload_n 57 rfl rfl <| s_iload_n 58 rfl rfl <| s_callV (b := 83) (ci := 9) 59 [.int s_77.1] [.int s_77.1, .ref 83, .int (s_77.2 84 3), .int 3, .ref 84] rfl ml_X9_127 yw_X9_tellsNow sh_83 rfl rfl (okX9_tellsNow d _ _ _ e_89) rfl rfl (Nat.le_of_ble_eq_true rfl) <| s_callV (b := 83) (ci := 9) 60 [.int s_77.1, .int q_88] [.int (s_77.2 84 3), .int 3, .ref 84] rfl ml_X9_130 yw_X9_isSaid sh_83 rfl rfl (okX9_isSaid (d + 2) _ _ _ q_90.1 q_90.2 e_91) rfl rfl (Nat.le_of_ble_eq_true rfl) <| ?_
              rcases iteS e with ⟨g_92, e⟩ | ⟨g_92, e⟩
              · obtain ⟨h_93, eh_93, e⟩ := bndS e
                cases e
                exact s_if_eq_F 61 111 rfl (by decide) (b2i_T g_92) <| s_iconst 0 62 rfl (by decide) <| s_goto 63 112 rfl (by decide) <| s_iadd 65 rfl <| s_iast 3 66 rfl sh_84 (by decide) (by decide) <| s_nmH (Option.some.inj eh_93) <| s_iinc 1 [some (.ref 83), some (.int x1), some (.int s_52.1), some (.int (s_77.1 + 1))] 67 rfl (by decide) rfl (by decide) rfl <| s_goto 68 49 rfl (by decide) <| (hk_72 ((s_77.1 + 1), h_93) rfl)
              · obtain ⟨h_94, eh_94, e⟩ := bndS e
                cases e
                exact s_if_eq_T 61 111 rfl (by decide) (b2i_F g_92) <| s_iconst 1 64 rfl (by decide) <| s_iadd 65 rfl <| s_iast 3 66 rfl sh_84 (by decide) (by decide) <| s_nmH (Option.some.inj eh_94) <| s_iinc 1 [some (.ref 83), some (.int x1), some (.int s_52.1), some (.int (s_77.1 + 1))] 67 rfl (by decide) rfl (by decide) rfl <| s_goto 68 49 rfl (by decide) <| (hk_72 ((s_77.1 + 1), h_94) rfl)
            · cases e
              exact s_if_ne_F 48 87 rfl (by decide) (b2i_F g_87) <| s_goto 49 114 rfl (by decide) <| s_iinc 1 [some (.ref 83), some (.int x1), some (.int s_52.1), some (.int (s_77.1 + 1))] 67 rfl (by decide) rfl (by decide) rfl <| s_goto 68 49 rfl (by decide) <| (hk_72 ((s_77.1 + 1), s_77.2) rfl)
    · obtain ⟨q_95, e_96, e⟩ := bndS e
      obtain ⟨rfl, rfl⟩ := some2 e
      exact s_icmp_le_F 17 40 rfl (by decide) g_4 <| s_aload_n 18 rfl rfl <| s_ldc 19 rfl wc_X9_126 <| s_callV (b := 83) (ci := 9) 20 [.int (-1000005)] [] rfl ml_X9_64 yw_X9_finds sh_83 rfl rfl (okX9_finds (d + 2) _ _ q_95.1 q_95.2 e_96) rfl rfl (Nat.le_of_ble_eq_true rfl) <| s_iret 21 rfl
  · obtain ⟨q_97, e_98, e⟩ := bndS e
    obtain ⟨rfl, rfl⟩ := some2 e
    exact s_if_ne_F 5 19 rfl (by decide) (b2i_F g_3) <| s_aload_n 6 rfl rfl <| s_ldc 7 rfl wc_X9_47 <| s_callV (b := 83) (ci := 9) 8 [.int (-1000001)] [] rfl ml_X9_64 yw_X9_finds sh_83 rfl rfl (okX9_finds (d + 2) _ _ q_97.1 q_97.2 e_98) rfl rfl (Nat.le_of_ble_eq_true rfl) <| s_iret 9 rfl
def fX8_say (x1 : Int32) (x2 : Int32) (h : Sto) : Option (Int32 × Sto) :=
  (fX1_has x1 h).bind fun q_1 => if q_1 = true then ((fX8_isTopic x2 h).bind fun q_4 => if q_4 = true then ((fX0_isFull h).bind fun q_7 => if q_7 = true then ((fX8_tellFinding (-1000002) h).bind fun q_10 => some (q_10.1, q_10.2)) else ((fX0_add x1 x2 h).bind fun q_12 => some (q_12.1, q_12.2))) else ((fX8_tellFinding (-1000001) h).bind fun q_14 => some (q_14.1, q_14.2))) else ((fX8_tellFinding (-1000001) h).bind fun q_16 => some (q_16.1, q_16.2))
set_option maxRecDepth 100000 in
set_option maxHeartbeats 4000000 in
theorem okX8_say (d : Nat) (x1 : Int32) (x2 : Int32) (h : Sto) (qv : Int32) (qh : Sto) (e : fX8_say x1 x2 h = some (qv, qh)) : Ok yX8_say cX8_say 3 (some .int) (d + 2) [.ref 0, .int x1, .int x2] h (some (.int qv)) qh := by
  refine Ok_of (lst := kX8_say) (own := RX8) ⟨by decide, rfl⟩ ckX8_say trivial (Nat.le_of_ble_eq_true rfl) ?_
  unfold fX8_say at e
  change Ev kX8_say RX8 3 (d + 2) nox 0 [some (.ref 0), some (.int x1), some (.int x2)] [] h (some (.int qv)) qh
  obtain ⟨q_1, e_2, e⟩ := bndS e
  refine s_aload_n 0 rfl rfl <| s_getr 1 rfl fl_X8_12 sh_0 rfl <| s_getr 2 rfl fl_X8_74 sh_1 rfl <| s_iload_n 3 rfl rfl <| s_callV (b := 2) (ci := 1) 4 [.int x1] [] rfl ml_X8_88 yw_X1_has sh_2 rfl rfl (okX1_has d _ _ _ e_2) rfl rfl (Nat.le_of_ble_eq_true rfl) <| ?_
  rcases iteS e with ⟨g_3, e⟩ | ⟨g_3, e⟩
  · obtain ⟨q_4, e_5, e⟩ := bndS e
    refine s_if_eq_F 5 21 rfl (by decide) (b2i_T g_3) <| s_iload_n 6 rfl rfl <| s_callS 7 [.int x2] [] rfl ml_X8_147 yw_X8_isTopic (okX8_isTopic d _ _ _ e_5) rfl rfl (Nat.le_of_ble_eq_true rfl) <| ?_
    rcases iteS e with ⟨g_6, e⟩ | ⟨g_6, e⟩
    · obtain ⟨q_7, e_8, e⟩ := bndS e
      refine s_if_ne_T 8 28 rfl (by decide) (b2i_T g_6) <| s_aload_n 13 rfl rfl <| s_getr 14 rfl fl_X8_12 sh_0 rfl <| s_getr 15 rfl fl_X8_134 sh_1 rfl <| s_callV (b := 10) (ci := 0) 16 [] [] rfl ml_X8_150 yw_X0_isFull sh_10 rfl rfl (okX0_isFull (d + 1) _ _ e_8) rfl rfl (Nat.le_of_ble_eq_true rfl) <| ?_
      rcases iteS e with ⟨g_9, e⟩ | ⟨g_9, e⟩
      · obtain ⟨q_10, e_11, e⟩ := bndS e
        obtain ⟨rfl, rfl⟩ := some2 e
        exact s_if_eq_F 17 48 rfl (by decide) (b2i_T g_9) <| s_aload_n 18 rfl rfl <| s_ldc 19 rfl wc_X8_83 <| s_callV (b := 0) (ci := 8) 20 [.int (-1000002)] [] rfl ml_X8_70 yw_X8_tellFinding sh_0 rfl rfl (okX8_tellFinding d _ _ q_10.1 q_10.2 e_11) rfl rfl (Nat.le_of_ble_eq_true rfl) <| s_iret 21 rfl
      · obtain ⟨q_12, e_13, e⟩ := bndS e
        obtain ⟨rfl, rfl⟩ := some2 e
        exact s_if_eq_T 17 48 rfl (by decide) (b2i_F g_9) <| s_aload_n 22 rfl rfl <| s_getr 23 rfl fl_X8_12 sh_0 rfl <| s_getr 24 rfl fl_X8_134 sh_1 rfl <| s_iload_n 25 rfl rfl <| s_iload_n 26 rfl rfl <| s_callV (b := 10) (ci := 0) 27 [.int x1, .int x2] [] rfl ml_X8_154 yw_X0_add sh_10 rfl rfl (okX0_add d _ _ _ q_12.1 q_12.2 e_13) rfl rfl (Nat.le_of_ble_eq_true rfl) <| s_iret 28 rfl
    · obtain ⟨q_14, e_15, e⟩ := bndS e
      obtain ⟨rfl, rfl⟩ := some2 e
      exact s_if_ne_F 8 28 rfl (by decide) (b2i_F g_6) <| s_aload_n 9 rfl rfl <| s_ldc 10 rfl wc_X8_69 <| s_callV (b := 0) (ci := 8) 11 [.int (-1000001)] [] rfl ml_X8_70 yw_X8_tellFinding sh_0 rfl rfl (okX8_tellFinding d _ _ q_14.1 q_14.2 e_15) rfl rfl (Nat.le_of_ble_eq_true rfl) <| s_iret 12 rfl
  · obtain ⟨q_16, e_17, e⟩ := bndS e
    obtain ⟨rfl, rfl⟩ := some2 e
    exact s_if_eq_T 5 21 rfl (by decide) (b2i_F g_3) <| s_aload_n 9 rfl rfl <| s_ldc 10 rfl wc_X8_69 <| s_callV (b := 0) (ci := 8) 11 [.int (-1000001)] [] rfl ml_X8_70 yw_X8_tellFinding sh_0 rfl rfl (okX8_tellFinding d _ _ q_16.1 q_16.2 e_17) rfl rfl (Nat.le_of_ble_eq_true rfl) <| s_iret 12 rfl
def fX9_say (x1 : Int32) (x2 : Int32) (h : Sto) : Option (Int32 × Sto) :=
  (fX9_isName x1 h).bind fun q_1 => if q_1 = true then ((fX9_isTopic x2 h).bind fun q_4 => if q_4 = true then ((fX9_isSaid x1 x2 h).bind fun q_7 => if q_7.1 = true then (some (((q_7.2 84 2) - 1), q_7.2)) else ((fX9_finds (-1000002) q_7.2).bind fun q_10 => some (q_10.1, q_10.2))) else ((fX9_finds (-1000001) h).bind fun q_12 => some (q_12.1, q_12.2))) else ((fX9_finds (-1000001) h).bind fun q_14 => some (q_14.1, q_14.2))
set_option maxRecDepth 100000 in
set_option maxHeartbeats 4000000 in
theorem okX9_say (d : Nat) (x1 : Int32) (x2 : Int32) (h : Sto) (qv : Int32) (qh : Sto) (e : fX9_say x1 x2 h = some (qv, qh)) : Ok yX9_say cX9_say 3 (some .int) (d + 2) [.ref 83, .int x1, .int x2] h (some (.int qv)) qh := by
  refine Ok_of (lst := kX9_say) (own := RX9) ⟨by decide, rfl⟩ ckX9_say trivial (Nat.le_of_ble_eq_true rfl) ?_
  unfold fX9_say at e
  change Ev kX9_say RX9 3 (d + 2) nox 0 [some (.ref 83), some (.int x1), some (.int x2)] [] h (some (.int qv)) qh
  obtain ⟨q_1, e_2, e⟩ := bndS e
  refine s_aload_n 0 rfl rfl <| s_iload_n 1 rfl rfl <| s_callV (b := 83) (ci := 9) 2 [.int x1] [] rfl ml_X9_73 yw_X9_isName sh_83 rfl rfl (okX9_isName d _ _ _ e_2) rfl rfl (Nat.le_of_ble_eq_true rfl) <| ?_
  rcases iteS e with ⟨g_3, e⟩ | ⟨g_3, e⟩
  · obtain ⟨q_4, e_5, e⟩ := bndS e
    refine s_if_eq_F 3 15 rfl (by decide) (b2i_T g_3) <| s_iload_n 4 rfl rfl <| s_callS 5 [.int x2] [] rfl ml_X9_84 yw_X9_isTopic (okX9_isTopic d _ _ _ e_5) rfl rfl (Nat.le_of_ble_eq_true rfl) <| ?_
    rcases iteS e with ⟨g_6, e⟩ | ⟨g_6, e⟩
    · obtain ⟨q_7, e_8, e⟩ := bndS e
      refine s_if_ne_T 6 22 rfl (by decide) (b2i_T g_6) <| s_aload_n 11 rfl rfl <| s_iload_n 12 rfl rfl <| s_iload_n 13 rfl rfl <| s_callV (b := 83) (ci := 9) 14 [.int x1, .int x2] [] rfl ml_X9_130 yw_X9_isSaid sh_83 rfl rfl (okX9_isSaid (d + 1) _ _ _ q_7.1 q_7.2 e_8) rfl rfl (Nat.le_of_ble_eq_true rfl) <| ?_
      rcases iteS e with ⟨g_9, e⟩ | ⟨g_9, e⟩
      · obtain ⟨rfl, rfl⟩ := some2 e
        exact s_if_eq_F 15 42 rfl (by decide) (b2i_T g_9) <| s_aload_n 16 rfl rfl <| s_getr 17 rfl fl_X9_9 sh_83 rfl <| s_iconst 2 18 rfl (by decide) <| s_iald 2 19 rfl sh_84 (by decide) (by decide) <| s_iconst 1 20 rfl (by decide) <| s_isub 21 rfl <| s_goto 22 48 rfl (by decide) <| s_iret 26 rfl
      · obtain ⟨q_10, e_11, e⟩ := bndS e
        obtain ⟨rfl, rfl⟩ := some2 e
        exact s_if_eq_T 15 42 rfl (by decide) (b2i_F g_9) <| s_aload_n 23 rfl rfl <| s_ldc 24 rfl wc_X9_68 <| s_callV (b := 83) (ci := 9) 25 [.int (-1000002)] [] rfl ml_X9_64 yw_X9_finds sh_83 rfl rfl (okX9_finds (d + 1) _ _ q_10.1 q_10.2 e_11) rfl rfl (Nat.le_of_ble_eq_true rfl) <| s_iret 26 rfl
    · obtain ⟨q_12, e_13, e⟩ := bndS e
      obtain ⟨rfl, rfl⟩ := some2 e
      exact s_if_ne_F 6 22 rfl (by decide) (b2i_F g_6) <| s_aload_n 7 rfl rfl <| s_ldc 8 rfl wc_X9_47 <| s_callV (b := 83) (ci := 9) 9 [.int (-1000001)] [] rfl ml_X9_64 yw_X9_finds sh_83 rfl rfl (okX9_finds (d + 1) _ _ q_12.1 q_12.2 e_13) rfl rfl (Nat.le_of_ble_eq_true rfl) <| s_iret 10 rfl
  · obtain ⟨q_14, e_15, e⟩ := bndS e
    obtain ⟨rfl, rfl⟩ := some2 e
    exact s_if_eq_T 3 15 rfl (by decide) (b2i_F g_3) <| s_aload_n 7 rfl rfl <| s_ldc 8 rfl wc_X9_47 <| s_callV (b := 83) (ci := 9) 9 [.int (-1000001)] [] rfl ml_X9_64 yw_X9_finds sh_83 rfl rfl (okX9_finds (d + 1) _ _ q_14.1 q_14.2 e_15) rfl rfl (Nat.le_of_ble_eq_true rfl) <| s_iret 10 rfl
def fX0_has (x1 : Int32) (h : Sto) : Option Bool :=
  (fX8_isWithin x1 0 ((h 10 1) - 1) h).bind fun q_1 => some q_1
set_option maxRecDepth 100000 in
set_option maxHeartbeats 4000000 in
theorem okX0_has (d : Nat) (x1 : Int32) (h : Sto) (q : Bool) (e : fX0_has x1 h = some q) : Ok yX0_has cX0_has 2 (some .boolean) (d + 1) [.ref 10, .int x1] h (some (.int (b2i q))) h := by
  refine Ok_of (lst := kX0_has) (own := RX0) ⟨by decide, rfl⟩ ckX0_has (b2i_01 _) (Nat.le_of_ble_eq_true rfl) ?_
  unfold fX0_has at e
  change Ev kX0_has RX0 2 (d + 1) nox 0 [some (.ref 10), some (.int x1)] [] h (some (.int (b2i q))) h
  obtain ⟨q_1, e_2, e⟩ := bndS e
  obtain rfl := Option.some.inj e
  exact s_iload_n 0 rfl rfl <| s_iconst 0 1 rfl (by decide) <| s_aload_n 2 rfl rfl <| s_geti 3 rfl fl_X0_28 sh_10 rfl <| s_iconst 1 4 rfl (by decide) <| s_isub 5 rfl <| s_callSN 6 [.int x1, .int 0, .int ((h 10 1) - 1)] [] rfl ml_X0_32 yw_X8_isWithin (okX8_isWithin d _ _ _ _ _ e_2) rfl rfl (Nat.le_of_ble_eq_true rfl) <| s_iret 7 rfl
def fX8_wordOf (x1 : Int32) (x2 : Int32) (h : Sto) : Option (Int32 × Sto) :=
  (fX0_has x1 h).bind fun q_1 => if q_1 = true then (if x2 < 0 ∨ 3 < x2 then ((fX8_tellFinding (-1000001) h).bind fun q_5 => some (q_5.1, q_5.2)) else if x2 = 0 then (grd (inb x1 200) <| some ((h 11 (Int32.toNatClampNeg x1)), h)) else if x2 = 1 then (grd (inb x1 200) <| some ((h 12 (Int32.toNatClampNeg x1)), h)) else if x2 = 2 then (grd (inb x1 200) <| some ((h 13 (Int32.toNatClampNeg x1)), h)) else if x2 = 3 then (grd (inb x1 200) <| some ((h 14 (Int32.toNatClampNeg x1)), h)) else none) else ((fX8_tellFinding (-1000001) h).bind fun q_15 => some (q_15.1, q_15.2))
set_option maxRecDepth 100000 in
set_option maxHeartbeats 4000000 in
theorem okX8_wordOf (d : Nat) (x1 : Int32) (x2 : Int32) (h : Sto) (qv : Int32) (qh : Sto) (e : fX8_wordOf x1 x2 h = some (qv, qh)) : Ok yX8_wordOf cX8_wordOf 4 (some .int) (d + 2) [.ref 0, .int x1, .int x2] h (some (.int qv)) qh := by
  refine Ok_of (lst := kX8_wordOf) (own := RX8) ⟨by decide, rfl⟩ ckX8_wordOf trivial (Nat.le_of_ble_eq_true rfl) ?_
  unfold fX8_wordOf at e
  change Ev kX8_wordOf RX8 4 (d + 2) nox 0 [some (.ref 0), some (.int x1), some (.int x2), none] [] h (some (.int qv)) qh
  obtain ⟨q_1, e_2, e⟩ := bndS e
  refine s_aload_n 0 rfl rfl <| s_getr 1 rfl fl_X8_12 sh_0 rfl <| s_getr 2 rfl fl_X8_134 sh_1 rfl <| s_astore_n [some (.ref 0), some (.int x1), some (.int x2), some (.ref 10)] 3 rfl (by decide) rfl <| s_aload_n 4 rfl rfl <| s_iload_n 5 rfl rfl <| s_callV (b := 10) (ci := 0) 6 [.int x1] [] rfl ml_X8_155 yw_X0_has sh_10 rfl rfl (okX0_has d _ _ _ e_2) rfl rfl (Nat.le_of_ble_eq_true rfl) <| ?_
  rcases iteS e with ⟨g_3, e⟩ | ⟨g_3, e⟩
  · refine s_if_ne_T 7 23 rfl (by decide) (b2i_T g_3) <| s_iload_n 12 rfl rfl <| ?_
    rcases iteS e with ⟨g_4, e⟩ | ⟨g_4, e⟩
    · obtain ⟨q_5, e_6, e⟩ := bndS e
      obtain ⟨rfl, rfl⟩ := some2 e
      exact s_swOut 0 3 13 84 rfl g_4 (by decide) <| s_aload_n 34 rfl rfl <| s_ldc 35 rfl wc_X8_69 <| s_callV (b := 0) (ci := 8) 36 [.int (-1000001)] [] rfl ml_X8_70 yw_X8_tellFinding sh_0 rfl rfl (okX8_tellFinding d _ _ q_5.1 q_5.2 e_6) rfl rfl (Nat.le_of_ble_eq_true rfl) <| s_iret 37 rfl
    rcases iteS e with ⟨g_7, e⟩ | ⟨g_7, e⟩
    · obtain ⟨g_8, e⟩ := grdS e
      obtain ⟨rfl, rfl⟩ := some2 e
      exact s_swIn (off := 32) 0 13 56 rfl g_7 (by decide) <| s_aload_n 14 rfl rfl <| s_getr 15 rfl fl_X8_156 sh_10 rfl <| s_iload_n 16 rfl rfl <| s_iald (Int32.toNatClampNeg x1) 17 rfl sh_11 g_8 rfl <| s_iret 18 rfl
    rcases iteS e with ⟨g_9, e⟩ | ⟨g_9, e⟩
    · obtain ⟨g_10, e⟩ := grdS e
      obtain ⟨rfl, rfl⟩ := some2 e
      exact s_swIn (off := 39) 1 13 63 rfl g_9 (by decide) <| s_aload_n 19 rfl rfl <| s_getr 20 rfl fl_X8_159 sh_10 rfl <| s_iload_n 21 rfl rfl <| s_iald (Int32.toNatClampNeg x1) 22 rfl sh_12 g_10 rfl <| s_iret 23 rfl
    rcases iteS e with ⟨g_11, e⟩ | ⟨g_11, e⟩
    · obtain ⟨g_12, e⟩ := grdS e
      obtain ⟨rfl, rfl⟩ := some2 e
      exact s_swIn (off := 46) 2 13 70 rfl g_11 (by decide) <| s_aload_n 24 rfl rfl <| s_getr 25 rfl fl_X8_162 sh_10 rfl <| s_iload_n 26 rfl rfl <| s_iald (Int32.toNatClampNeg x1) 27 rfl sh_13 g_12 rfl <| s_iret 28 rfl
    rcases iteS e with ⟨g_13, e⟩ | ⟨g_13, e⟩
    · obtain ⟨g_14, e⟩ := grdS e
      obtain ⟨rfl, rfl⟩ := some2 e
      exact s_swIn (off := 53) 3 13 77 rfl g_13 (by decide) <| s_aload_n 29 rfl rfl <| s_getr 30 rfl fl_X8_165 sh_10 rfl <| s_iload_n 31 rfl rfl <| s_iald (Int32.toNatClampNeg x1) 32 rfl sh_14 g_14 rfl <| s_iret 33 rfl
    cases e
  · obtain ⟨q_15, e_16, e⟩ := bndS e
    obtain ⟨rfl, rfl⟩ := some2 e
    exact s_if_ne_F 7 23 rfl (by decide) (b2i_F g_3) <| s_aload_n 8 rfl rfl <| s_ldc 9 rfl wc_X8_69 <| s_callV (b := 0) (ci := 8) 10 [.int (-1000001)] [] rfl ml_X8_70 yw_X8_tellFinding sh_0 rfl rfl (okX8_tellFinding d _ _ q_15.1 q_15.2 e_16) rfl rfl (Nat.le_of_ble_eq_true rfl) <| s_iret 11 rfl
def fX9_isWord (x1 : Int32) (h : Sto) : Option Bool :=
  (fX9_in x1.toInt64 0 (((h 84 2) - 1).toInt64) h).bind fun q_1 => some q_1
set_option maxRecDepth 100000 in
set_option maxHeartbeats 4000000 in
theorem okX9_isWord (d : Nat) (x1 : Int32) (h : Sto) (q : Bool) (e : fX9_isWord x1 h = some q) : Ok yX9_isWord cX9_isWord 2 (some .boolean) (d + 1) [.ref 83, .int x1] h (some (.int (b2i q))) h := by
  refine Ok_of (lst := kX9_isWord) (own := RX9) ⟨by decide, rfl⟩ ckX9_isWord (b2i_01 _) (Nat.le_of_ble_eq_true rfl) ?_
  unfold fX9_isWord at e
  change Ev kX9_isWord RX9 2 (d + 1) nox 0 [some (.ref 83), some (.int x1)] [] h (some (.int (b2i q))) h
  obtain ⟨q_1, e_2, e⟩ := bndS e
  obtain rfl := Option.some.inj e
  exact s_iload_n 0 rfl rfl <| s_i2l 1 rfl <| s_lconst 0 2 rfl (by decide) <| s_aload_n 3 rfl rfl <| s_getr 4 rfl fl_X9_9 sh_83 rfl <| s_iconst 2 5 rfl (by decide) <| s_iald 2 6 rfl sh_84 (by decide) (by decide) <| s_iconst 1 7 rfl (by decide) <| s_isub 8 rfl <| s_i2l 9 rfl <| s_callS 10 [.long x1.toInt64, .long 0, .long (((h 84 2) - 1).toInt64)] [] rfl ml_X9_48 yw_X9_in (okX9_in d _ _ _ _ _ e_2) rfl rfl (Nat.le_of_ble_eq_true rfl) <| s_iret 11 rfl
def fX9_follows_b4 (x1 : Int32) (h : Sto) (c2 : Int32) : Option (Int32 ⊕ (Unit ⊕ Int32)) :=
  if c2 < 0 then (some (.inr (.inl ()))) else ((fX9_word c2 1 h).bind fun q_2 => (fX9_word x1 1 h).bind fun q_4 => if q_2 = q_4 then (some (.inl (c2 + (-1)))) else ((fX9_word x1 0 h).bind fun q_7 => (fX9_word c2 0 h).bind fun q_9 => (fX9_in ((q_7 - q_9).toInt64) 1 9 h).bind fun q_11 => if q_11 = true then (some (.inr (.inr c2))) else (some (.inl (c2 + (-1))))))
def fX9_follows (x1 : Int32) (h : Sto) : Option Int32 :=
  (lp (fun s => fX9_follows_b4 x1 h s) FUEL (x1 - 1)).bind fun y_14 => Sum.elim (fun v_22 => some (-1)) (fun z_23 => some z_23) y_14
set_option maxRecDepth 100000 in
set_option maxHeartbeats 4000000 in
theorem okX9_follows (d : Nat) (x1 : Int32) (h : Sto) (q : Int32) (e : fX9_follows x1 h = some q) : Ok yX9_follows cX9_follows 3 (some .int) (d + 1) [.ref 83, .int x1] h (some (.int q)) h := by
  refine Ok_of (lst := kX9_follows) (own := RX9) ⟨by decide, rfl⟩ ckX9_follows trivial (Nat.le_of_ble_eq_true rfl) ?_
  unfold fX9_follows at e
  change Ev kX9_follows RX9 3 (d + 1) nox 0 [some (.ref 83), some (.int x1), none] [] h (some (.int q)) h
  obtain ⟨y_14, e_15, e⟩ := bndS e
  have kx_18 : ∀ v_22 : Unit, .inl v_22 = y_14 → Ev kX9_follows RX9 3 (d + 1) nox 55 [none, none, none] [] h (some (.int q)) h := by
    intro v_22 hy
    subst hy
    have e := elL e
    obtain rfl := Option.some.inj e
    exact s_iconst (-1) 33 rfl (by decide) <| s_iret 34 rfl
  have kz_19 : ∀ z_23 : Int32, .inr z_23 = y_14 → z_23 = q := by
    intro z_23 hy
    subst hy
    have e := elR e
    exact Option.some.inj e
  refine s_iload_n 0 rfl rfl <| s_iconst 1 1 rfl (by decide) <| s_isub 2 rfl <| s_istore_n [some (.ref 83), some (.int x1), some (.int (x1 - 1))] 3 rfl (by decide) rfl <| lpS (P := fun (s_21 : Int32) => Ev kX9_follows RX9 3 (d + 1) nox 4 [some (.ref 83), some (.int x1), some (.int s_21)] [] h (some (.int q)) h) ?_ FUEL _ e_15
  intro s_21 o_20 e hk_16 hx_17
  unfold fX9_follows_b4 at e
  refine s_iload_n 4 rfl rfl <| ?_
  rcases iteS e with ⟨g_24, e⟩ | ⟨g_24, e⟩
  · cases e
    exact s_if_lt_T 5 55 rfl (by decide) g_24 <| s_fgt [true, true, true] rfl <| (kx_18 () (hx_17 _ rfl))
  · obtain ⟨q_25, e_26, e⟩ := bndS e
    obtain ⟨q_27, e_28, e⟩ := bndS e
    refine s_if_lt_F 5 55 rfl (by decide) g_24 <| s_aload_n 6 rfl rfl <| s_iload_n 7 rfl rfl <| s_iconst 1 8 rfl (by decide) <| s_callV (b := 83) (ci := 9) 9 [.int s_21, .int 1] [] rfl ml_X9_101 yw_X9_word sh_83 rfl rfl (okX9_word d _ _ _ _ e_26) rfl rfl (Nat.le_of_ble_eq_true rfl) <| s_aload_n 10 rfl rfl <| s_iload_n 11 rfl rfl <| s_iconst 1 12 rfl (by decide) <| s_callV (b := 83) (ci := 9) 13 [.int x1, .int 1] [.int q_25] rfl ml_X9_101 yw_X9_word sh_83 rfl rfl (okX9_word d _ _ _ _ e_28) rfl rfl (Nat.le_of_ble_eq_true rfl) <| ?_
    rcases iteS e with ⟨g_29, e⟩ | ⟨g_29, e⟩
    · cases e
      exact s_icmp_eq_T 14 49 rfl (by decide) g_29 <| s_iinc (-1) [some (.ref 83), some (.int x1), some (.int (s_21 + (-1)))] 31 rfl (by decide) rfl (by decide) rfl <| s_goto 32 4 rfl (by decide) <| (hk_16 (s_21 + (-1)) rfl)
    · obtain ⟨q_30, e_31, e⟩ := bndS e
      obtain ⟨q_32, e_33, e⟩ := bndS e
      obtain ⟨q_34, e_35, e⟩ := bndS e
      refine s_icmp_eq_F 14 49 rfl (by decide) g_29 <| s_aload_n 15 rfl rfl <| s_iload_n 16 rfl rfl <| s_iconst 0 17 rfl (by decide) <| s_callV (b := 83) (ci := 9) 18 [.int x1, .int 0] [] rfl ml_X9_101 yw_X9_word sh_83 rfl rfl (okX9_word d _ _ _ _ e_31) rfl rfl (Nat.le_of_ble_eq_true rfl) <| s_aload_n 19 rfl rfl <| s_iload_n 20 rfl rfl <| s_iconst 0 21 rfl (by decide) <| s_callV (b := 83) (ci := 9) 22 [.int s_21, .int 0] [.int q_30] rfl ml_X9_101 yw_X9_word sh_83 rfl rfl (okX9_word d _ _ _ _ e_33) rfl rfl (Nat.le_of_ble_eq_true rfl) <| s_isub 23 rfl <| s_i2l 24 rfl <| s_lconst 1 25 rfl (by decide) <| s_ldc2_w 26 rfl wc_X9_58 <| s_callS 27 [.long ((q_30 - q_32).toInt64), .long 1, .long 9] [] rfl ml_X9_48 yw_X9_in (okX9_in d _ _ _ _ _ e_35) rfl rfl (Nat.le_of_ble_eq_true rfl) <| ?_
      rcases iteS e with ⟨g_36, e⟩ | ⟨g_36, e⟩
      · cases e
        have z0 := kz_19 _ (hx_17 _ rfl)
        subst z0
        exact s_if_eq_F 28 49 rfl (by decide) (b2i_T g_36) <| s_iload_n 29 rfl rfl <| s_iret 30 rfl
      · cases e
        exact s_if_eq_T 28 49 rfl (by decide) (b2i_F g_36) <| s_iinc (-1) [some (.ref 83), some (.int x1), some (.int (s_21 + (-1)))] 31 rfl (by decide) rfl (by decide) rfl <| s_goto 32 4 rfl (by decide) <| (hk_16 (s_21 + (-1)) rfl)
def fX9_wordOf (x1 : Int32) (x2 : Int32) (h : Sto) : Option (Int32 × Sto) :=
  (fX9_isWord x1 h).bind fun q_1 => if q_1 = true then ((fX9_in x2.toInt64 0 3 h).bind fun q_4 => if q_4 = true then (if 3 ≤ x2 then ((fX9_follows x1 h).bind fun q_8 => some (q_8, h)) else ((fX9_word x1 x2 h).bind fun q_10 => some (q_10, h))) else ((fX9_finds (-1000001) h).bind fun q_12 => some (q_12.1, q_12.2))) else ((fX9_finds (-1000001) h).bind fun q_14 => some (q_14.1, q_14.2))
set_option maxRecDepth 100000 in
set_option maxHeartbeats 4000000 in
theorem okX9_wordOf (d : Nat) (x1 : Int32) (x2 : Int32) (h : Sto) (qv : Int32) (qh : Sto) (e : fX9_wordOf x1 x2 h = some (qv, qh)) : Ok yX9_wordOf cX9_wordOf 3 (some .int) (d + 2) [.ref 83, .int x1, .int x2] h (some (.int qv)) qh := by
  refine Ok_of (lst := kX9_wordOf) (own := RX9) ⟨by decide, rfl⟩ ckX9_wordOf trivial (Nat.le_of_ble_eq_true rfl) ?_
  unfold fX9_wordOf at e
  change Ev kX9_wordOf RX9 3 (d + 2) nox 0 [some (.ref 83), some (.int x1), some (.int x2)] [] h (some (.int qv)) qh
  obtain ⟨q_1, e_2, e⟩ := bndS e
  refine s_aload_n 0 rfl rfl <| s_iload_n 1 rfl rfl <| s_callV (b := 83) (ci := 9) 2 [.int x1] [] rfl ml_X9_133 yw_X9_isWord sh_83 rfl rfl (okX9_isWord d _ _ _ e_2) rfl rfl (Nat.le_of_ble_eq_true rfl) <| ?_
  rcases iteS e with ⟨g_3, e⟩ | ⟨g_3, e⟩
  · obtain ⟨q_4, e_5, e⟩ := bndS e
    refine s_if_eq_F 3 20 rfl (by decide) (b2i_T g_3) <| s_iload_n 4 rfl rfl <| s_i2l 5 rfl <| s_lconst 0 6 rfl (by decide) <| s_ldc2_w 7 rfl wc_X9_136 <| s_callS 8 [.long x2.toInt64, .long 0, .long 3] [] rfl ml_X9_48 yw_X9_in (okX9_in (d + 1) _ _ _ _ _ e_5) rfl rfl (Nat.le_of_ble_eq_true rfl) <| ?_
    rcases iteS e with ⟨g_6, e⟩ | ⟨g_6, e⟩
    · refine s_if_ne_T 9 27 rfl (by decide) (b2i_T g_6) <| s_iload_n 14 rfl rfl <| s_iconst 3 15 rfl (by decide) <| ?_
      rcases iteS e with ⟨g_7, e⟩ | ⟨g_7, e⟩
      · obtain ⟨q_8, e_9, e⟩ := bndS e
        obtain ⟨rfl, rfl⟩ := some2 e
        exact s_icmp_ge_T 16 41 rfl (by decide) g_7 <| s_aload_n 22 rfl rfl <| s_iload_n 23 rfl rfl <| s_callV (b := 83) (ci := 9) 24 [.int x1] [] rfl ml_X9_138 yw_X9_follows sh_83 rfl rfl (okX9_follows d _ _ _ e_9) rfl rfl (Nat.le_of_ble_eq_true rfl) <| s_iret 25 rfl
      · obtain ⟨q_10, e_11, e⟩ := bndS e
        obtain ⟨rfl, rfl⟩ := some2 e
        exact s_icmp_ge_F 16 41 rfl (by decide) g_7 <| s_aload_n 17 rfl rfl <| s_iload_n 18 rfl rfl <| s_iload_n 19 rfl rfl <| s_callV (b := 83) (ci := 9) 20 [.int x1, .int x2] [] rfl ml_X9_101 yw_X9_word sh_83 rfl rfl (okX9_word (d + 1) _ _ _ _ e_11) rfl rfl (Nat.le_of_ble_eq_true rfl) <| s_goto 21 46 rfl (by decide) <| s_iret 25 rfl
    · obtain ⟨q_12, e_13, e⟩ := bndS e
      obtain ⟨rfl, rfl⟩ := some2 e
      exact s_if_ne_F 9 27 rfl (by decide) (b2i_F g_6) <| s_aload_n 10 rfl rfl <| s_ldc 11 rfl wc_X9_47 <| s_callV (b := 83) (ci := 9) 12 [.int (-1000001)] [] rfl ml_X9_64 yw_X9_finds sh_83 rfl rfl (okX9_finds (d + 1) _ _ q_12.1 q_12.2 e_13) rfl rfl (Nat.le_of_ble_eq_true rfl) <| s_iret 13 rfl
  · obtain ⟨q_14, e_15, e⟩ := bndS e
    obtain ⟨rfl, rfl⟩ := some2 e
    exact s_if_eq_T 3 20 rfl (by decide) (b2i_F g_3) <| s_aload_n 10 rfl rfl <| s_ldc 11 rfl wc_X9_47 <| s_callV (b := 83) (ci := 9) 12 [.int (-1000001)] [] rfl ml_X9_64 yw_X9_finds sh_83 rfl rfl (okX9_finds (d + 1) _ _ q_14.1 q_14.2 e_15) rfl rfl (Nat.le_of_ble_eq_true rfl) <| s_iret 13 rfl
def fX0_countBelow_b6 (x1 : Int32) (c2 : Int32) (c3 : Int32) (h : Sto) : Option ((Int32 × Int32 × Sto) ⊕ (Int32 × Sto)) :=
  if (h 10 1) ≤ c3 then (some (.inr (c2, h))) else (grd (inb c3 200) <| (if (h 14 (Int32.toNatClampNeg c3)) = x1 then (some true) else (if (h 14 (Int32.toNatClampNeg c3)) ≤ x1 then (some false) else (grd (inb (h 14 (Int32.toNatClampNeg c3)) 200) <| if (h 15 (Int32.toNatClampNeg (h 14 (Int32.toNatClampNeg c3)))) = 0 then (some false) else (some true)))).bind fun q_3 => grd (inb c3 200) <| (some (su h 15 (Int32.toNatClampNeg c3) (nzb (b2i q_3)))).bind fun h_10 => grd (inb c3 200) <| (fX8_asInt (h_10 15 (Int32.toNatClampNeg c3)) h_10).bind fun q_12 => some (.inl ((c2 + q_12), (c3 + 1), h_10)))
def fX0_countBelow (x1 : Int32) (h : Sto) : Option (Int32 × Sto) :=
  (lp (fun s => fX0_countBelow_b6 x1 s.1 s.2.1 s.2.2) FUEL (0, (x1 + 1), h)).bind fun v_22 => some (v_22.1, v_22.2)
set_option maxRecDepth 100000 in
set_option maxHeartbeats 4000000 in
theorem okX0_countBelow (d : Nat) (x1 : Int32) (h : Sto) (qv : Int32) (qh : Sto) (e : fX0_countBelow x1 h = some (qv, qh)) : Ok yX0_countBelow cX0_countBelow 5 (some .int) (d + 1) [.ref 10, .int x1] h (some (.int qv)) qh := by
  refine Ok_of (lst := kX0_countBelow) (own := RX0) ⟨by decide, rfl⟩ ckX0_countBelow trivial (Nat.le_of_ble_eq_true rfl) ?_
  unfold fX0_countBelow at e
  change Ev kX0_countBelow RX0 5 (d + 1) nox 0 [some (.ref 10), some (.int x1), none, none, none] [] h (some (.int qv)) qh
  obtain ⟨y_14, e_15, e⟩ := bndS e
  have kx_18 : ∀ v_22 : (Int32 × Sto), v_22 = y_14 → Ev kX0_countBelow RX0 5 (d + 1) nox 73 [none, none, some (.int v_22.1), none, none] [] v_22.2 (some (.int qv)) qh := by
    intro v_22 hy
    subst hy
    obtain ⟨rfl, rfl⟩ := some2 e
    exact s_iload_n 43 rfl rfl <| s_iret 44 rfl
  refine s_iconst 0 0 rfl (by decide) <| s_istore_n [some (.ref 10), some (.int x1), some (.int 0), none, none] 1 rfl (by decide) rfl <| s_iload_n 2 rfl rfl <| s_iconst 1 3 rfl (by decide) <| s_iadd 4 rfl <| s_istore_n [some (.ref 10), some (.int x1), some (.int 0), some (.int (x1 + 1)), none] 5 rfl (by decide) rfl <| lpS (P := fun (s_21 : (Int32 × Int32 × Sto)) => Ev kX0_countBelow RX0 5 (d + 1) nox 6 [some (.ref 10), some (.int x1), some (.int s_21.1), some (.int s_21.2.1), none] [] s_21.2.2 (some (.int qv)) qh) ?_ FUEL _ e_15
  intro s_21 o_20 e hk_16 hx_17
  unfold fX0_countBelow_b6 at e
  refine s_iload_n 6 rfl rfl <| s_aload_n 7 rfl rfl <| s_geti 8 rfl fl_X0_28 sh_10 rfl <| ?_
  rcases iteS e with ⟨g_24, e⟩ | ⟨g_24, e⟩
  · cases e
    exact s_icmp_ge_T 9 73 rfl (by decide) g_24 <| s_fgt [true, true, false, true] rfl <| (kx_18 (s_21.1, s_21.2.2) (hx_17 _ rfl))
  · obtain ⟨g_25, e⟩ := grdS e
    obtain ⟨q_26, e1, e⟩ := bndS e
    have k_27 : Ev kX0_countBelow RX0 5 (d + 1) nox 54 [some (.ref 10), some (.int x1), some (.int s_21.1), some (.int s_21.2.1), none] [.int (b2i q_26), .int s_21.2.1, .ref 15] s_21.2.2 (some (.int qv)) qh := by
      obtain ⟨g_32, e⟩ := grdS e
      obtain ⟨h_33, eh_33, e⟩ := bndS e
      obtain ⟨g_34, e⟩ := grdS e
      obtain ⟨q_35, e_36, e⟩ := bndS e
      cases e
      exact s_zast (Int32.toNatClampNeg s_21.2.1) 32 rfl sh_15 g_32 rfl <| s_nmH (Option.some.inj eh_33) <| s_iload_n 33 rfl rfl <| s_aload_n 34 rfl rfl <| s_getr 35 rfl fl_X0_24 sh_10 rfl <| s_iload_n 36 rfl rfl <| s_zald (Int32.toNatClampNeg s_21.2.1) 37 rfl sh_15 g_34 rfl <| s_callSN 38 [.int (h_33 15 (Int32.toNatClampNeg s_21.2.1))] [.int s_21.1] rfl ml_X0_43 yw_X8_asInt (okX8_asInt d _ _ _ e_36) rfl rfl (Nat.le_of_ble_eq_true rfl) <| s_iadd 39 rfl <| s_istore_n [some (.ref 10), some (.int x1), some (.int (s_21.1 + q_35)), some (.int s_21.2.1), none] 40 rfl (by decide) rfl <| s_iinc 1 [some (.ref 10), some (.int x1), some (.int (s_21.1 + q_35)), some (.int (s_21.2.1 + 1)), none] 41 rfl (by decide) rfl (by decide) rfl <| s_goto 42 6 rfl (by decide) <| (hk_16 ((s_21.1 + q_35), (s_21.2.1 + 1), h_33) rfl)
    clear e
    have e := e1
    clear e1
    refine s_icmp_ge_F 9 73 rfl (by decide) g_24 <| s_aload_n 10 rfl rfl <| s_getr 11 rfl fl_X0_21 sh_10 rfl <| s_iload_n 12 rfl rfl <| s_iald (Int32.toNatClampNeg s_21.2.1) 13 rfl sh_14 g_25 rfl <| s_istore [some (.ref 10), some (.int x1), some (.int s_21.1), some (.int s_21.2.1), some (.int (s_21.2.2 14 (Int32.toNatClampNeg s_21.2.1)))] 14 rfl (by decide) rfl <| s_aload_n 15 rfl rfl <| s_getr 16 rfl fl_X0_24 sh_10 rfl <| s_iload_n 17 rfl rfl <| s_iload 18 rfl rfl <| s_iload_n 19 rfl rfl <| ?_
    rcases iteS e with ⟨g_28, e⟩ | ⟨g_28, e⟩
    · cases e
      exact s_icmp_eq_T 20 49 rfl (by decide) g_28 <| s_iconst 1 29 rfl (by decide) <| s_goto 30 54 rfl (by decide) <| s_fgt [false, false, false, false, true] rfl <| k_27
    · refine s_icmp_eq_F 20 49 rfl (by decide) g_28 <| s_iload 21 rfl rfl <| s_iload_n 22 rfl rfl <| ?_
      rcases iteS e with ⟨g_29, e⟩ | ⟨g_29, e⟩
      · cases e
        exact s_icmp_le_T 23 53 rfl (by decide) g_29 <| s_iconst 0 31 rfl (by decide) <| s_fgt [false, false, false, false, true] rfl <| k_27
      · obtain ⟨g_30, e⟩ := grdS e
        refine s_icmp_le_F 23 53 rfl (by decide) g_29 <| s_aload_n 24 rfl rfl <| s_getr 25 rfl fl_X0_24 sh_10 rfl <| s_iload 26 rfl rfl <| s_zald (Int32.toNatClampNeg (s_21.2.2 14 (Int32.toNatClampNeg s_21.2.1))) 27 rfl sh_15 g_30 rfl <| ?_
        rcases iteS e with ⟨g_31, e⟩ | ⟨g_31, e⟩
        · cases e
          exact s_if_eq_T 28 53 rfl (by decide) g_31 <| s_iconst 0 31 rfl (by decide) <| s_fgt [false, false, false, false, true] rfl <| k_27
        · cases e
          exact s_if_eq_F 28 53 rfl (by decide) g_31 <| s_iconst 1 29 rfl (by decide) <| s_goto 30 54 rfl (by decide) <| s_fgt [false, false, false, false, true] rfl <| k_27
def fX8_below (x1 : Int32) (h : Sto) : Option (Int32 × Sto) :=
  (fX0_has x1 h).bind fun q_1 => if q_1 = true then ((fX0_countBelow x1 h).bind fun q_4 => some (q_4.1, q_4.2)) else ((fX8_tellFinding (-1000001) h).bind fun q_6 => some (q_6.1, q_6.2))
set_option maxRecDepth 100000 in
set_option maxHeartbeats 4000000 in
theorem okX8_below (d : Nat) (x1 : Int32) (h : Sto) (qv : Int32) (qh : Sto) (e : fX8_below x1 h = some (qv, qh)) : Ok yX8_below cX8_below 2 (some .int) (d + 2) [.ref 0, .int x1] h (some (.int qv)) qh := by
  refine Ok_of (lst := kX8_below) (own := RX8) ⟨by decide, rfl⟩ ckX8_below trivial (Nat.le_of_ble_eq_true rfl) ?_
  unfold fX8_below at e
  change Ev kX8_below RX8 2 (d + 2) nox 0 [some (.ref 0), some (.int x1)] [] h (some (.int qv)) qh
  obtain ⟨q_1, e_2, e⟩ := bndS e
  refine s_aload_n 0 rfl rfl <| s_getr 1 rfl fl_X8_12 sh_0 rfl <| s_getr 2 rfl fl_X8_134 sh_1 rfl <| s_iload_n 3 rfl rfl <| s_callV (b := 10) (ci := 0) 4 [.int x1] [] rfl ml_X8_155 yw_X0_has sh_10 rfl rfl (okX0_has d _ _ _ e_2) rfl rfl (Nat.le_of_ble_eq_true rfl) <| ?_
  rcases iteS e with ⟨g_3, e⟩ | ⟨g_3, e⟩
  · obtain ⟨q_4, e_5, e⟩ := bndS e
    obtain ⟨rfl, rfl⟩ := some2 e
    exact s_if_ne_T 5 21 rfl (by decide) (b2i_T g_3) <| s_aload_n 10 rfl rfl <| s_getr 11 rfl fl_X8_12 sh_0 rfl <| s_getr 12 rfl fl_X8_134 sh_1 rfl <| s_iload_n 13 rfl rfl <| s_callV (b := 10) (ci := 0) 14 [.int x1] [] rfl ml_X8_168 yw_X0_countBelow sh_10 rfl rfl (okX0_countBelow d _ _ q_4.1 q_4.2 e_5) rfl rfl (Nat.le_of_ble_eq_true rfl) <| s_iret 15 rfl
  · obtain ⟨q_6, e_7, e⟩ := bndS e
    obtain ⟨rfl, rfl⟩ := some2 e
    exact s_if_ne_F 5 21 rfl (by decide) (b2i_F g_3) <| s_aload_n 6 rfl rfl <| s_ldc 7 rfl wc_X8_69 <| s_callV (b := 0) (ci := 8) 8 [.int (-1000001)] [] rfl ml_X8_70 yw_X8_tellFinding sh_0 rfl rfl (okX8_tellFinding d _ _ q_6.1 q_6.2 e_7) rfl rfl (Nat.le_of_ble_eq_true rfl) <| s_iret 9 rfl
def fX9_below_b19 (x1 : Int32) (c2 : Int32) (c3 : Int32) (h : Sto) : Option ((Int32 × Int32 × Sto) ⊕ (Int32 × Sto)) :=
  if (h 84 2) ≤ c3 then (some (.inr (c2, h))) else ((if ¬ c3 = x1 then ((fX9_follows c3 h).bind fun q_8 => some q_8) else (some (-1))).bind fun q_5 => (if q_5 = x1 then (some true) else (if q_5 ≤ x1 then (some false) else (grd (inb q_5 200) <| if (h 87 (Int32.toNatClampNeg q_5)) = 0 then (some false) else (some true)))).bind fun q_10 => grd (inb c3 200) <| (some (su h 87 (Int32.toNatClampNeg c3) (nzb (b2i q_10)))).bind fun h_17 => grd (inb c3 200) <| if (h_17 87 (Int32.toNatClampNeg c3)) = 0 then (some (.inl ((c2 + 0), (c3 + 1), h_17))) else (some (.inl ((c2 + 1), (c3 + 1), h_17))))
def fX9_below (x1 : Int32) (h : Sto) : Option (Int32 × Sto) :=
  (fX9_isWord x1 h).bind fun q_1 => if q_1 = true then ((lp (fun s => fX9_below_b19 x1 s.1 s.2.1 s.2.2) FUEL (0, x1, h)).bind fun v_28 => some (v_28.1, v_28.2)) else ((fX9_finds (-1000001) h).bind fun q_46 => some (q_46.1, q_46.2))
set_option maxRecDepth 100000 in
set_option maxHeartbeats 4000000 in
theorem okX9_below (d : Nat) (x1 : Int32) (h : Sto) (qv : Int32) (qh : Sto) (e : fX9_below x1 h = some (qv, qh)) : Ok yX9_below cX9_below 5 (some .int) (d + 2) [.ref 83, .int x1] h (some (.int qv)) qh := by
  refine Ok_of (lst := kX9_below) (own := RX9) ⟨by decide, rfl⟩ ckX9_below trivial (Nat.le_of_ble_eq_true rfl) ?_
  unfold fX9_below at e
  change Ev kX9_below RX9 5 (d + 2) nox 0 [some (.ref 83), some (.int x1), none, none, none] [] h (some (.int qv)) qh
  obtain ⟨q_1, e_2, e⟩ := bndS e
  refine s_aload_n 0 rfl rfl <| s_iload_n 1 rfl rfl <| s_callV (b := 83) (ci := 9) 2 [.int x1] [] rfl ml_X9_133 yw_X9_isWord sh_83 rfl rfl (okX9_isWord d _ _ _ e_2) rfl rfl (Nat.le_of_ble_eq_true rfl) <| ?_
  rcases iteS e with ⟨g_3, e⟩ | ⟨g_3, e⟩
  · obtain ⟨y_20, e_21, e⟩ := bndS e
    have kx_24 : ∀ v_28 : (Int32 × Sto), v_28 = y_20 → Ev kX9_below RX9 5 (d + 2) nox 101 [none, none, some (.int v_28.1), none, none] [] v_28.2 (some (.int qv)) qh := by
      intro v_28 hy
      subst hy
      obtain ⟨rfl, rfl⟩ := some2 e
      exact s_iload_n 58 rfl rfl <| s_iret 59 rfl
    refine s_if_ne_T 3 15 rfl (by decide) (b2i_T g_3) <| s_iconst 0 8 rfl (by decide) <| s_istore_n [some (.ref 83), some (.int x1), some (.int 0), none, none] 9 rfl (by decide) rfl <| s_iload_n 10 rfl rfl <| s_istore_n [some (.ref 83), some (.int x1), some (.int 0), some (.int x1), none] 11 rfl (by decide) rfl <| lpS (P := fun (s_27 : (Int32 × Int32 × Sto)) => Ev kX9_below RX9 5 (d + 2) nox 19 [some (.ref 83), some (.int x1), some (.int s_27.1), some (.int s_27.2.1), none] [] s_27.2.2 (some (.int qv)) qh) ?_ FUEL _ e_21
    intro s_27 o_26 e hk_22 hx_23
    unfold fX9_below_b19 at e
    refine s_iload_n 12 rfl rfl <| s_aload_n 13 rfl rfl <| s_getr 14 rfl fl_X9_9 sh_83 rfl <| s_iconst 2 15 rfl (by decide) <| s_iald 2 16 rfl sh_84 (by decide) (by decide) <| ?_
    rcases iteS e with ⟨g_30, e⟩ | ⟨g_30, e⟩
    · cases e
      exact s_icmp_ge_T 17 101 rfl (by decide) g_30 <| s_fgt [true, true, false, true] rfl <| (kx_24 (s_27.1, s_27.2.2) (hx_23 _ rfl))
    · obtain ⟨q_31, e1, e⟩ := bndS e
      have k_32 : Ev kX9_below RX9 5 (d + 2) nox 43 [some (.ref 83), some (.int x1), some (.int s_27.1), some (.int s_27.2.1), none] [.int q_31] s_27.2.2 (some (.int qv)) qh := by
        obtain ⟨q_36, e1, e⟩ := bndS e
        have k_37 : Ev kX9_below RX9 5 (d + 2) nox 77 [some (.ref 83), some (.int x1), some (.int s_27.1), some (.int s_27.2.1), none] [.int (b2i q_36), .int s_27.2.1, .ref 87] s_27.2.2 (some (.int qv)) qh := by
          obtain ⟨g_42, e⟩ := grdS e
          obtain ⟨h_43, eh_43, e⟩ := bndS e
          obtain ⟨g_44, e⟩ := grdS e
          refine s_zast (Int32.toNatClampNeg s_27.2.1) 44 rfl sh_87 g_42 rfl <| s_nmH (Option.some.inj eh_43) <| s_iload_n 45 rfl rfl <| s_aload_n 46 rfl rfl <| s_getr 47 rfl fl_X9_19 sh_83 rfl <| s_iload_n 48 rfl rfl <| s_zald (Int32.toNatClampNeg s_27.2.1) 49 rfl sh_87 g_44 rfl <| ?_
          rcases iteS e with ⟨g_45, e⟩ | ⟨g_45, e⟩
          · cases e
            exact s_if_eq_T 50 92 rfl (by decide) g_45 <| s_iconst 0 53 rfl (by decide) <| s_iadd 54 rfl <| s_istore_n [some (.ref 83), some (.int x1), some (.int (s_27.1 + 0)), some (.int s_27.2.1), none] 55 rfl (by decide) rfl <| s_iinc 1 [some (.ref 83), some (.int x1), some (.int (s_27.1 + 0)), some (.int (s_27.2.1 + 1)), none] 56 rfl (by decide) rfl (by decide) rfl <| s_goto 57 19 rfl (by decide) <| (hk_22 ((s_27.1 + 0), (s_27.2.1 + 1), h_43) rfl)
          · cases e
            exact s_if_eq_F 50 92 rfl (by decide) g_45 <| s_iconst 1 51 rfl (by decide) <| s_goto 52 93 rfl (by decide) <| s_iadd 54 rfl <| s_istore_n [some (.ref 83), some (.int x1), some (.int (s_27.1 + 1)), some (.int s_27.2.1), none] 55 rfl (by decide) rfl <| s_iinc 1 [some (.ref 83), some (.int x1), some (.int (s_27.1 + 1)), some (.int (s_27.2.1 + 1)), none] 56 rfl (by decide) rfl (by decide) rfl <| s_goto 57 19 rfl (by decide) <| (hk_22 ((s_27.1 + 1), (s_27.2.1 + 1), h_43) rfl)
        clear e
        have e := e1
        clear e1
        refine s_istore [some (.ref 83), some (.int x1), some (.int s_27.1), some (.int s_27.2.1), some (.int q_31)] 26 rfl (by decide) rfl <| s_aload_n 27 rfl rfl <| s_getr 28 rfl fl_X9_19 sh_83 rfl <| s_iload_n 29 rfl rfl <| s_iload 30 rfl rfl <| s_iload_n 31 rfl rfl <| ?_
        rcases iteS e with ⟨g_38, e⟩ | ⟨g_38, e⟩
        · cases e
          exact s_icmp_eq_T 32 72 rfl (by decide) g_38 <| s_iconst 1 41 rfl (by decide) <| s_goto 42 77 rfl (by decide) <| s_fgt [false, false, false, false, true] rfl <| k_37
        · refine s_icmp_eq_F 32 72 rfl (by decide) g_38 <| s_iload 33 rfl rfl <| s_iload_n 34 rfl rfl <| ?_
          rcases iteS e with ⟨g_39, e⟩ | ⟨g_39, e⟩
          · cases e
            exact s_icmp_le_T 35 76 rfl (by decide) g_39 <| s_iconst 0 43 rfl (by decide) <| s_fgt [false, false, false, false, true] rfl <| k_37
          · obtain ⟨g_40, e⟩ := grdS e
            refine s_icmp_le_F 35 76 rfl (by decide) g_39 <| s_aload_n 36 rfl rfl <| s_getr 37 rfl fl_X9_19 sh_83 rfl <| s_iload 38 rfl rfl <| s_zald (Int32.toNatClampNeg q_31) 39 rfl sh_87 g_40 rfl <| ?_
            rcases iteS e with ⟨g_41, e⟩ | ⟨g_41, e⟩
            · cases e
              exact s_if_eq_T 40 76 rfl (by decide) g_41 <| s_iconst 0 43 rfl (by decide) <| s_fgt [false, false, false, false, true] rfl <| k_37
            · cases e
              exact s_if_eq_F 40 76 rfl (by decide) g_41 <| s_iconst 1 41 rfl (by decide) <| s_goto 42 77 rfl (by decide) <| s_fgt [false, false, false, false, true] rfl <| k_37
      clear e
      have e := e1
      clear e1
      refine s_icmp_ge_F 17 101 rfl (by decide) g_30 <| s_iload_n 18 rfl rfl <| s_iload_n 19 rfl rfl <| ?_
      rcases iteS e with ⟨g_33, e⟩ | ⟨g_33, e⟩
      · obtain ⟨q_34, e_35, e⟩ := bndS e
        cases e
        exact s_icmp_ne_T 20 38 rfl (by decide) g_33 <| s_aload_n 23 rfl rfl <| s_iload_n 24 rfl rfl <| s_callV (b := 83) (ci := 9) 25 [.int s_27.2.1] [] rfl ml_X9_138 yw_X9_follows sh_83 rfl rfl (okX9_follows d _ _ _ e_35) rfl rfl (Nat.le_of_ble_eq_true rfl) <| k_32
      · cases e
        exact s_icmp_ne_F 20 38 rfl (by decide) (Decidable.not_not.mp g_33) <| s_iconst (-1) 21 rfl (by decide) <| s_goto 22 43 rfl (by decide) <| k_32
  · obtain ⟨q_46, e_47, e⟩ := bndS e
    obtain ⟨rfl, rfl⟩ := some2 e
    exact s_if_ne_F 3 15 rfl (by decide) (b2i_F g_3) <| s_aload_n 4 rfl rfl <| s_ldc 5 rfl wc_X9_47 <| s_callV (b := 83) (ci := 9) 6 [.int (-1000001)] [] rfl ml_X9_64 yw_X9_finds sh_83 rfl rfl (okX9_finds (d + 1) _ _ q_46.1 q_46.2 e_47) rfl rfl (Nat.le_of_ble_eq_true rfl) <| s_iret 7 rfl
