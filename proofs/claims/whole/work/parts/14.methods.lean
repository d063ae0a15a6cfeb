/-! 14 methods (written by wip/whole/gen_m.py) -/
def fX9_every (h : Sto) : Option Int32 :=
  some ((jshl 1 (h 84 0)) - 1)
set_option maxRecDepth 100000 in
set_option maxHeartbeats 4000000 in
theorem okX9_every (d : Nat) (h : Sto) (q : Int32) (e : fX9_every h = some q) : Ok yX9_every cX9_every 1 (some .int) d [.ref 83] h (some (.int q)) h := by
  refine Ok_of (lst := kX9_every) (own := RX9) ⟨by decide, rfl⟩ ckX9_every trivial (Nat.le_of_ble_eq_true rfl) ?_
  unfold fX9_every at e
  change Ev kX9_every RX9 1 d nox 0 [some (.ref 83)] [] h (some (.int q)) h
  obtain rfl := Option.some.inj e
  exact s_iconst 1 0 rfl (by decide) <| s_aload_n 1 rfl rfl <| s_getr 2 rfl fl_X9_9 sh_83 rfl <| s_iconst 0 3 rfl (by decide) <| s_iald 0 4 rfl sh_84 (by decide) (by decide) <| s_ishl 5 rfl <| s_iconst 1 6 rfl (by decide) <| s_isub 7 rfl <| s_iret 8 rfl
def fX9_people_b4 (h : Sto) (c1 : Int32) (c2 : Int32) : Option ((Int32 × Int32) ⊕ Int32) :=
  if (h 84 0) ≤ c2 then (some (.inr c1)) else ((fX9_isPerson c2 h).bind fun q_2 => if q_2 = true then (some (.inl ((c1 ||| (jshl 1 c2)), (c2 + 1)))) else (some (.inl ((c1 ||| 0), (c2 + 1)))))
def fX9_people (h : Sto) : Option Int32 :=
  (lp (fun s => fX9_people_b4 h s.1 s.2) FUEL (0, 0)).bind fun v_13 => some v_13
set_option maxRecDepth 100000 in
set_option maxHeartbeats 4000000 in
theorem okX9_people (d : Nat) (h : Sto) (q : Int32) (e : fX9_people h = some q) : Ok yX9_people cX9_people 3 (some .int) (d + 2) [.ref 83] h (some (.int q)) h := by
  refine Ok_of (lst := kX9_people) (own := RX9) ⟨by decide, rfl⟩ ckX9_people trivial (Nat.le_of_ble_eq_true rfl) ?_
  unfold fX9_people at e
  change Ev kX9_people RX9 3 (d + 2) nox 0 [some (.ref 83), none, none] [] h (some (.int q)) h
  obtain ⟨y_5, e_6, e⟩ := bndS e
  have kx_9 : ∀ v_13 : Int32, v_13 = y_5 → Ev kX9_people RX9 3 (d + 2) nox 38 [none, some (.int v_13), none] [] h (some (.int q)) h := by
    intro v_13 hy
    subst hy
    obtain rfl := Option.some.inj e
    exact s_iload_n 24 rfl rfl <| s_iret 25 rfl
  refine s_iconst 0 0 rfl (by decide) <| s_istore_n [some (.ref 83), some (.int 0), none] 1 rfl (by decide) rfl <| s_iconst 0 2 rfl (by decide) <| s_istore_n [some (.ref 83), some (.int 0), some (.int 0)] 3 rfl (by decide) rfl <| lpS (P := fun (s_12 : (Int32 × Int32)) => Ev kX9_people RX9 3 (d + 2) nox 4 [some (.ref 83), some (.int s_12.1), some (.int s_12.2)] [] h (some (.int q)) h) ?_ FUEL _ e_6
  intro s_12 o_11 e hk_7 hx_8
  unfold fX9_people_b4 at e
  refine s_iload_n 4 rfl rfl <| s_aload_n 5 rfl rfl <| s_getr 6 rfl fl_X9_9 sh_83 rfl <| s_iconst 0 7 rfl (by decide) <| s_iald 0 8 rfl sh_84 (by decide) (by decide) <| ?_
  rcases iteS e with ⟨g_15, e⟩ | ⟨g_15, e⟩
  · cases e
    exact s_icmp_ge_T 9 38 rfl (by decide) g_15 <| s_fgt [true, false, true] rfl <| (kx_9 s_12.1 (hx_8 _ rfl))
  · obtain ⟨q_16, e_17, e⟩ := bndS e
    refine s_icmp_ge_F 9 38 rfl (by decide) g_15 <| s_iload_n 10 rfl rfl <| s_aload_n 11 rfl rfl <| s_iload_n 12 rfl rfl <| s_callV (b := 83) (ci := 9) 13 [.int s_12.2] [.int s_12.1] rfl ml_X9_77 yw_X9_isPerson sh_83 rfl rfl (okX9_isPerson d _ _ _ e_17) rfl rfl (Nat.le_of_ble_eq_true rfl) <| ?_
    rcases iteS e with ⟨g_18, e⟩ | ⟨g_18, e⟩
    · cases e
      exact s_if_eq_F 14 29 rfl (by decide) (b2i_T g_18) <| s_iconst 1 15 rfl (by decide) <| s_iload_n 16 rfl rfl <| s_ishl 17 rfl <| s_goto 18 30 rfl (by decide) <| s_ior 20 rfl <| s_istore_n [some (.ref 83), some (.int (s_12.1 ||| (jshl 1 s_12.2))), some (.int s_12.2)] 21 rfl (by decide) rfl <| s_iinc 1 [some (.ref 83), some (.int (s_12.1 ||| (jshl 1 s_12.2))), some (.int (s_12.2 + 1))] 22 rfl (by decide) rfl (by decide) rfl <| s_goto 23 4 rfl (by decide) <| (hk_7 ((s_12.1 ||| (jshl 1 s_12.2)), (s_12.2 + 1)) rfl)
    · cases e
      exact s_if_eq_T 14 29 rfl (by decide) (b2i_F g_18) <| s_iconst 0 19 rfl (by decide) <| s_ior 20 rfl <| s_istore_n [some (.ref 83), some (.int (s_12.1 ||| 0)), some (.int s_12.2)] 21 rfl (by decide) rfl <| s_iinc 1 [some (.ref 83), some (.int (s_12.1 ||| 0)), some (.int (s_12.2 + 1))] 22 rfl (by decide) rfl (by decide) rfl <| s_goto 23 4 rfl (by decide) <| (hk_7 ((s_12.1 ||| 0), (s_12.2 + 1)) rfl)
def fX9_found (x1 : Int32) (x2 : Int32) (x3 : Int32) (h : Sto) : Option (Int32 × Sto) :=
  (fX9_isText x1 h).bind fun q_1 => if q_1 = true then ((fX9_in x3.toInt64 0 2 h).bind fun q_4 => if q_4 = true then ((fX9_findScores x1 h).bind fun q_7 => (fX9_foundBy x2 q_7).bind fun q_9 => if ¬ x3 = 0 then (if ¬ x3 = 1 then ((fX9_every q_7).bind fun q_13 => (fX9_people q_7).bind fun q_15 => some (((q_13 &&& (q_9 ^^^ (-1))) &&& (q_15 ^^^ (-1))), q_7)) else ((fX9_people q_7).bind fun q_17 => some ((q_9 &&& q_17), q_7))) else (some (q_9, q_7))) else ((fX9_finds (-1000001) h).bind fun q_19 => some (q_19.1, q_19.2))) else ((fX9_finds (-1000001) h).bind fun q_21 => some (q_21.1, q_21.2))
set_option maxRecDepth 100000 in
set_option maxHeartbeats 4000000 in
theorem okX9_found (d : Nat) (x1 : Int32) (x2 : Int32) (x3 : Int32) (h : Sto) (qv : Int32) (qh : Sto) (e : fX9_found x1 x2 x3 h = some (qv, qh)) : Ok yX9_found cX9_found 5 (some .int) (d + 6) [.ref 83, .int x1, .int x2, .int x3] h (some (.int qv)) qh := by
  refine Ok_of (lst := kX9_found) (own := RX9) ⟨by decide, rfl⟩ ckX9_found trivial (Nat.le_of_ble_eq_true rfl) ?_
  unfold fX9_found at e
  change Ev kX9_found RX9 5 (d + 6) nox 0 [some (.ref 83), some (.int x1), some (.int x2), some (.int x3), none] [] h (some (.int qv)) qh
  obtain ⟨q_1, e_2, e⟩ := bndS e
  refine s_aload_n 0 rfl rfl <| s_iload_n 1 rfl rfl <| s_callV (b := 83) (ci := 9) 2 [.int x1] [] rfl ml_X9_223 yw_X9_isText sh_83 rfl rfl (okX9_isText (d + 4) _ _ _ e_2) rfl rfl (Nat.le_of_ble_eq_true rfl) <| ?_
  rcases iteS e with ⟨g_3, e⟩ | ⟨g_3, e⟩
  · obtain ⟨q_4, e_5, e⟩ := bndS e
    refine s_if_eq_F 3 20 rfl (by decide) (b2i_T g_3) <| s_iload_n 4 rfl rfl <| s_i2l 5 rfl <| s_lconst 0 6 rfl (by decide) <| s_ldc2_w 7 rfl wc_X9_229 <| s_callS 8 [.long x3.toInt64, .long 0, .long 2] [] rfl ml_X9_48 yw_X9_in (okX9_in (d + 5) _ _ _ _ _ e_5) rfl rfl (Nat.le_of_ble_eq_true rfl) <| ?_
    rcases iteS e with ⟨g_6, e⟩ | ⟨g_6, e⟩
    · obtain ⟨q_7, e_8, e⟩ := bndS e
      obtain ⟨q_9, e_10, e⟩ := bndS e
      refine s_if_ne_T 9 27 rfl (by decide) (b2i_T g_6) <| s_aload_n 14 rfl rfl <| s_iload_n 15 rfl rfl <| s_callV (b := 83) (ci := 9) 16 [.int x1] [] rfl ml_X9_231 yw_X9_findScores sh_83 rfl rfl (okX9_findScores d _ _ _ e_8) rfl rfl (Nat.le_of_ble_eq_true rfl) <| s_aload_n 17 rfl rfl <| s_iload_n 18 rfl rfl <| s_callV (b := 83) (ci := 9) 19 [.int x2] [] rfl ml_X9_234 yw_X9_foundBy sh_83 rfl rfl (okX9_foundBy (d + 5) _ _ _ e_10) rfl rfl (Nat.le_of_ble_eq_true rfl) <| s_istore [some (.ref 83), some (.int x1), some (.int x2), some (.int x3), some (.int q_9)] 20 rfl (by decide) rfl <| s_iload_n 21 rfl rfl <| ?_
      rcases iteS e with ⟨g_11, e⟩ | ⟨g_11, e⟩
      · refine s_if_ne_T 22 48 rfl (by decide) g_11 <| s_iload_n 25 rfl rfl <| s_iconst 1 26 rfl (by decide) <| ?_
        rcases iteS e with ⟨g_12, e⟩ | ⟨g_12, e⟩
        · obtain ⟨q_13, e_14, e⟩ := bndS e
          obtain ⟨q_15, e_16, e⟩ := bndS e
          obtain ⟨rfl, rfl⟩ := some2 e
          exact s_icmp_ne_T 27 63 rfl (by decide) g_12 <| s_aload_n 33 rfl rfl <| s_callV (b := 83) (ci := 9) 34 [] [] rfl ml_X9_52 yw_X9_every sh_83 rfl rfl (okX9_every (d + 5) _ _ e_14) rfl rfl (Nat.le_of_ble_eq_true rfl) <| s_iload 35 rfl rfl <| s_iconst (-1) 36 rfl (by decide) <| s_ixor 37 rfl <| s_iand 38 rfl <| s_aload_n 39 rfl rfl <| s_callV (b := 83) (ci := 9) 40 [] [.int (q_13 &&& (q_9 ^^^ (-1)))] rfl ml_X9_237 yw_X9_people sh_83 rfl rfl (okX9_people (d + 3) _ _ e_16) rfl rfl (Nat.le_of_ble_eq_true rfl) <| s_iconst (-1) 41 rfl (by decide) <| s_ixor 42 rfl <| s_iand 43 rfl <| s_iret 44 rfl
        · obtain ⟨q_17, e_18, e⟩ := bndS e
          obtain ⟨rfl, rfl⟩ := some2 e
          exact s_icmp_ne_F 27 63 rfl (by decide) (Decidable.not_not.mp g_12) <| s_iload 28 rfl rfl <| s_aload_n 29 rfl rfl <| s_callV (b := 83) (ci := 9) 30 [] [.int q_9] rfl ml_X9_237 yw_X9_people sh_83 rfl rfl (okX9_people (d + 3) _ _ e_18) rfl rfl (Nat.le_of_ble_eq_true rfl) <| s_iand 31 rfl <| s_goto 32 79 rfl (by decide) <| s_iret 44 rfl
      · obtain ⟨rfl, rfl⟩ := some2 e
        exact s_if_ne_F 22 48 rfl (by decide) (Decidable.not_not.mp g_11) <| s_iload 23 rfl rfl <| s_goto 24 79 rfl (by decide) <| s_iret 44 rfl
    · obtain ⟨q_19, e_20, e⟩ := bndS e
      obtain ⟨rfl, rfl⟩ := some2 e
      exact s_if_ne_F 9 27 rfl (by decide) (b2i_F g_6) <| s_aload_n 10 rfl rfl <| s_ldc 11 rfl wc_X9_47 <| s_callV (b := 83) (ci := 9) 12 [.int (-1000001)] [] rfl ml_X9_64 yw_X9_finds sh_83 rfl rfl (okX9_finds (d + 5) _ _ q_19.1 q_19.2 e_20) rfl rfl (Nat.le_of_ble_eq_true rfl) <| s_iret 13 rfl
  · obtain ⟨q_21, e_22, e⟩ := bndS e
    obtain ⟨rfl, rfl⟩ := some2 e
    exact s_if_eq_T 3 20 rfl (by decide) (b2i_F g_3) <| s_aload_n 10 rfl rfl <| s_ldc 11 rfl wc_X9_47 <| s_callV (b := 83) (ci := 9) 12 [.int (-1000001)] [] rfl ml_X9_64 yw_X9_finds sh_83 rfl rfl (okX9_finds (d + 5) _ _ q_21.1 q_21.2 e_22) rfl rfl (Nat.le_of_ble_eq_true rfl) <| s_iret 13 rfl
def fX8_lineSum (x1 : Int32) (x2 : Int32) (x3 : Int32) (h : Sto) : Option Int32 :=
  (fX8_wrongedSet x1 h).bind fun q_1 => (fJ6_bitCount_0f7a4 q_1 h).bind fun q_3 => (fX8_missedSet x1 h).bind fun q_5 => (fJ6_bitCount_0f7a4 q_5 h).bind fun q_7 => some ((x2 * q_3) + (x3 * q_7))
set_option maxRecDepth 100000 in
set_option maxHeartbeats 4000000 in
theorem okX8_lineSum (d : Nat) (x1 : Int32) (x2 : Int32) (x3 : Int32) (h : Sto) (q : Int32) (e : fX8_lineSum x1 x2 x3 h = some q) : Ok yX8_lineSum cX8_lineSum 4 (some .int) (d + 4) [.ref 0, .int x1, .int x2, .int x3] h (some (.int q)) h := by
  refine Ok_of (lst := kX8_lineSum) (own := RX8) ⟨by decide, rfl⟩ ckX8_lineSum trivial (Nat.le_of_ble_eq_true rfl) ?_
  unfold fX8_lineSum at e
  change Ev kX8_lineSum RX8 4 (d + 4) nox 0 [some (.ref 0), some (.int x1), some (.int x2), some (.int x3)] [] h (some (.int q)) h
  obtain ⟨q_1, e_2, e⟩ := bndS e
  obtain ⟨q_3, e_4, e⟩ := bndS e
  obtain ⟨q_5, e_6, e⟩ := bndS e
  obtain ⟨q_7, e_8, e⟩ := bndS e
  obtain rfl := Option.some.inj e
  exact s_iload_n 0 rfl rfl <| s_aload_n 1 rfl rfl <| s_iload_n 2 rfl rfl <| s_callV (b := 0) (ci := 8) 3 [.int x1] [.int x2] rfl ml_X8_209 yw_X8_wrongedSet sh_0 rfl rfl (okX8_wrongedSet (d + 1) _ _ _ e_2) rfl rfl (Nat.le_of_ble_eq_true rfl) <| s_callS 4 [.int q_1] [.int x2] rfl ml_X8_117 yw_J6_bitCount_0f7a4 (okJ6_bitCount_0f7a4 (d + 3) _ _ _ e_4) rfl rfl (Nat.le_of_ble_eq_true rfl) <| s_imul 5 rfl <| s_iload_n 6 rfl rfl <| s_aload_n 7 rfl rfl <| s_iload_n 8 rfl rfl <| s_callV (b := 0) (ci := 8) 9 [.int x1] [.int x3, .int (x2 * q_3)] rfl ml_X8_212 yw_X8_missedSet sh_0 rfl rfl (okX8_missedSet d _ _ _ e_6) rfl rfl (Nat.le_of_ble_eq_true rfl) <| s_callS 10 [.int q_5] [.int x3, .int (x2 * q_3)] rfl ml_X8_117 yw_J6_bitCount_0f7a4 (okJ6_bitCount_0f7a4 (d + 3) _ _ _ e_8) rfl rfl (Nat.le_of_ble_eq_true rfl) <| s_imul 11 rfl <| s_iadd 12 rfl <| s_iret 13 rfl
def fX8_line_b88 (x2 : Int32) (x3 : Int32) (x4 : Int32) (h : Sto) (c6 : Int32) (c7 : Int32) (c8 : Int32) : Option ((Int32 × Int32 × Int32) ⊕ (Int32 × Int32)) :=
  if 200 < c8 then (some (.inr (c6, c7))) else ((fX8_lineSum c8 x2 x3 h).bind fun q_21 => if c7 ≤ q_21 then (some (.inl (c6, c7, (c8 + 1)))) else (some (.inl (c8, q_21, (c8 + 1)))))
def fX8_line (x1 : Int32) (x2 : Int32) (x3 : Int32) (x4 : Int32) (h : Sto) : Option (Int32 × Sto) :=
  (fX6_has x1 h).bind fun q_1 => (if q_1 = true then ((fX8_isWithin x2 0 99 h).bind fun q_6 => if q_6 = true then ((fX8_isWithin x3 0 99 h).bind fun q_9 => if q_9 = true then (some true) else (some false)) else (some false)) else (some false)).bind fun q_3 => if q_3 = true then ((fX8_isWithin x4 0 1 h).bind fun q_13 => if q_13 = true then ((fX8_gatherScores x1 h).bind fun q_16 => (fX8_lineSum (-200) x2 x3 q_16).bind fun q_18 => (lp (fun s => fX8_line_b88 x2 x3 x4 q_16 s.1 s.2.1 s.2.2) FUEL ((-200), q_18, (-199))).bind fun v_32 => if ¬ x4 = 0 then (some (v_32.2, q_16)) else (some (v_32.1, q_16))) else ((fX8_tellFinding (-1000001) h).bind fun q_39 => some (q_39.1, q_39.2))) else ((fX8_tellFinding (-1000001) h).bind fun q_41 => some (q_41.1, q_41.2))
set_option maxRecDepth 100000 in
set_option maxHeartbeats 4000000 in
theorem okX8_line (d : Nat) (x1 : Int32) (x2 : Int32) (x3 : Int32) (x4 : Int32) (h : Sto) (qv : Int32) (qh : Sto) (e : fX8_line x1 x2 x3 x4 h = some (qv, qh)) : Ok yX8_line cX8_line 10 (some .int) (d + 52) [.ref 0, .int x1, .int x2, .int x3, .int x4] h (some (.int qv)) qh := by
  refine Ok_of (lst := kX8_line) (own := RX8) ⟨by decide, rfl⟩ ckX8_line trivial (Nat.le_of_ble_eq_true rfl) ?_
  unfold fX8_line at e
  change Ev kX8_line RX8 10 (d + 52) nox 0 [some (.ref 0), some (.int x1), some (.int x2), some (.int x3), some (.int x4), none, none, none, none, none] [] h (some (.int qv)) qh
  obtain ⟨q_1, e_2, e⟩ := bndS e
  obtain ⟨q_3, e1, e⟩ := bndS e
  have k_4 : Ev kX8_line RX8 10 (d + 52) nox 39 [some (.ref 0), some (.int x1), some (.int x2), some (.int x3), some (.int x4), none, none, none, none, none] [.int (b2i q_3)] h (some (.int qv)) qh := by
    refine s_istore [some (.ref 0), some (.int x1), some (.int x2), some (.int x3), some (.int x4), some (.int (b2i q_3)), none, none, none, none] 19 rfl (by decide) rfl <| s_iload 20 rfl rfl <| ?_
    rcases iteS e with ⟨g_12, e⟩ | ⟨g_12, e⟩
    · obtain ⟨q_13, e_14, e⟩ := bndS e
      refine s_if_eq_F 21 56 rfl (by decide) (b2i_T g_12) <| s_iload 22 rfl rfl <| s_iconst 0 23 rfl (by decide) <| s_iconst 1 24 rfl (by decide) <| s_callS 25 [.int x4, .int 0, .int 1] [] rfl ml_X8_65 yw_X8_isWithin (okX8_isWithin (d + 51) _ _ _ _ _ e_14) rfl rfl (Nat.le_of_ble_eq_true rfl) <| ?_
      rcases iteS e with ⟨g_15, e⟩ | ⟨g_15, e⟩
      · obtain ⟨q_16, e_17, e⟩ := bndS e
        obtain ⟨q_18, e_19, e⟩ := bndS e
        obtain ⟨y_24, e_25, e⟩ := bndS e
        have kx_28 : ∀ v_32 : (Int32 × Int32), v_32 = y_24 → Ev kX8_line RX8 10 (d + 52) nox 127 [none, none, none, none, some (.int x4), none, some (.int v_32.1), some (.int v_32.2), none, none] [] q_16 (some (.int qv)) qh := by
          intro v_32 hy
          subst hy
          refine s_iload 62 rfl rfl <| ?_
          rcases iteS e with ⟨g_34, e⟩ | ⟨g_34, e⟩
          · obtain ⟨rfl, rfl⟩ := some2 e
            exact s_if_ne_T 63 137 rfl (by decide) g_34 <| s_iload 66 rfl rfl <| s_iret 67 rfl
          · obtain ⟨rfl, rfl⟩ := some2 e
            exact s_if_ne_F 63 137 rfl (by decide) (Decidable.not_not.mp g_34) <| s_iload 64 rfl rfl <| s_goto 65 139 rfl (by decide) <| s_iret 67 rfl
        refine s_if_ne_T 26 63 rfl (by decide) (b2i_T g_15) <| s_aload_n 31 rfl rfl <| s_iload_n 32 rfl rfl <| s_callV (b := 0) (ci := 8) 33 [.int x1] [] rfl ml_X8_202 yw_X8_gatherScores sh_0 rfl rfl (okX8_gatherScores d _ _ _ e_17) rfl rfl (Nat.le_of_ble_eq_true rfl) <| s_sipush (-200) 34 rfl (by decide) <| s_istore [some (.ref 0), some (.int x1), some (.int x2), some (.int x3), some (.int x4), some (.int (b2i q_3)), some (.int (-200)), none, none, none] 35 rfl (by decide) rfl <| s_aload_n 36 rfl rfl <| s_iload 37 rfl rfl <| s_iload_n 38 rfl rfl <| s_iload_n 39 rfl rfl <| s_callV (b := 0) (ci := 8) 40 [.int (-200), .int x2, .int x3] [] rfl ml_X8_215 yw_X8_lineSum sh_0 rfl rfl (okX8_lineSum (d + 47) _ _ _ _ _ e_19) rfl rfl (Nat.le_of_ble_eq_true rfl) <| s_istore [some (.ref 0), some (.int x1), some (.int x2), some (.int x3), some (.int x4), some (.int (b2i q_3)), some (.int (-200)), some (.int q_18), none, none] 41 rfl (by decide) rfl <| s_sipush (-199) 42 rfl (by decide) <| s_istore [some (.ref 0), some (.int x1), some (.int x2), some (.int x3), some (.int x4), some (.int (b2i q_3)), some (.int (-200)), some (.int q_18), some (.int (-199)), none] 43 rfl (by decide) rfl <| s_fgt [false, true, false, false, false, true] rfl <| lpS (P := fun (s_31 : (Int32 × Int32 × Int32)) => Ev kX8_line RX8 10 (d + 52) nox 88 [some (.ref 0), none, some (.int x2), some (.int x3), some (.int x4), none, some (.int s_31.1), some (.int s_31.2.1), some (.int s_31.2.2), none] [] q_16 (some (.int qv)) qh) ?_ FUEL _ e_25
        intro s_31 o_30 e hk_26 hx_27
        unfold fX8_line_b88 at e
        refine s_iload 44 rfl rfl <| s_sipush 200 45 rfl (by decide) <| ?_
        rcases iteS e with ⟨g_35, e⟩ | ⟨g_35, e⟩
        · cases e
          exact s_icmp_gt_T 46 127 rfl (by decide) g_35 <| s_fgt [true, false, true, true, false, false, false, false, true] rfl <| (kx_28 (s_31.1, s_31.2.1) (hx_27 _ rfl))
        · obtain ⟨q_36, e_37, e⟩ := bndS e
          refine s_icmp_gt_F 46 127 rfl (by decide) g_35 <| s_aload_n 47 rfl rfl <| s_iload 48 rfl rfl <| s_iload_n 49 rfl rfl <| s_iload_n 50 rfl rfl <| s_callV (b := 0) (ci := 8) 51 [.int s_31.2.2, .int x2, .int x3] [] rfl ml_X8_215 yw_X8_lineSum sh_0 rfl rfl (okX8_lineSum (d + 47) _ _ _ _ _ e_37) rfl rfl (Nat.le_of_ble_eq_true rfl) <| s_istore [some (.ref 0), none, some (.int x2), some (.int x3), some (.int x4), none, some (.int s_31.1), some (.int s_31.2.1), some (.int s_31.2.2), some (.int q_36)] 52 rfl (by decide) rfl <| s_iload 53 rfl rfl <| s_iload 54 rfl rfl <| ?_
          rcases iteS e with ⟨g_38, e⟩ | ⟨g_38, e⟩
          · cases e
            exact s_icmp_ge_T 55 121 rfl (by decide) g_38 <| s_iinc 1 [some (.ref 0), none, some (.int x2), some (.int x3), some (.int x4), none, some (.int s_31.1), some (.int s_31.2.1), some (.int (s_31.2.2 + 1)), some (.int q_36)] 60 rfl (by decide) rfl (by decide) rfl <| s_goto 61 88 rfl (by decide) <| s_fgt [false, false, false, false, false, false, false, false, false, true] rfl <| (hk_26 (s_31.1, s_31.2.1, (s_31.2.2 + 1)) rfl)
          · cases e
            exact s_icmp_ge_F 55 121 rfl (by decide) g_38 <| s_iload 56 rfl rfl <| s_istore [some (.ref 0), none, some (.int x2), some (.int x3), some (.int x4), none, some (.int s_31.1), some (.int q_36), some (.int s_31.2.2), some (.int q_36)] 57 rfl (by decide) rfl <| s_iload 58 rfl rfl <| s_istore [some (.ref 0), none, some (.int x2), some (.int x3), some (.int x4), none, some (.int s_31.2.2), some (.int q_36), some (.int s_31.2.2), some (.int q_36)] 59 rfl (by decide) rfl <| s_iinc 1 [some (.ref 0), none, some (.int x2), some (.int x3), some (.int x4), none, some (.int s_31.2.2), some (.int q_36), some (.int (s_31.2.2 + 1)), some (.int q_36)] 60 rfl (by decide) rfl (by decide) rfl <| s_goto 61 88 rfl (by decide) <| s_fgt [false, false, false, false, false, false, false, false, false, true] rfl <| (hk_26 (s_31.2.2, q_36, (s_31.2.2 + 1)) rfl)
      · obtain ⟨q_39, e_40, e⟩ := bndS e
        obtain ⟨rfl, rfl⟩ := some2 e
        exact s_if_ne_F 26 63 rfl (by decide) (b2i_F g_15) <| s_aload_n 27 rfl rfl <| s_ldc 28 rfl wc_X8_69 <| s_callV (b := 0) (ci := 8) 29 [.int (-1000001)] [] rfl ml_X8_70 yw_X8_tellFinding sh_0 rfl rfl (okX8_tellFinding (d + 50) _ _ q_39.1 q_39.2 e_40) rfl rfl (Nat.le_of_ble_eq_true rfl) <| s_iret 30 rfl
    · obtain ⟨q_41, e_42, e⟩ := bndS e
      obtain ⟨rfl, rfl⟩ := some2 e
      exact s_if_eq_T 21 56 rfl (by decide) (b2i_F g_12) <| s_aload_n 27 rfl rfl <| s_ldc 28 rfl wc_X8_69 <| s_callV (b := 0) (ci := 8) 29 [.int (-1000001)] [] rfl ml_X8_70 yw_X8_tellFinding sh_0 rfl rfl (okX8_tellFinding (d + 50) _ _ q_41.1 q_41.2 e_42) rfl rfl (Nat.le_of_ble_eq_true rfl) <| s_iret 30 rfl
  clear e
  have e := e1
  clear e1
  refine s_aload_n 0 rfl rfl <| s_getr 1 rfl fl_X8_12 sh_0 rfl <| s_getr 2 rfl fl_X8_181 sh_1 rfl <| s_iload_n 3 rfl rfl <| s_callV (b := 16) (ci := 6) 4 [.int x1] [] rfl ml_X8_198 yw_X6_has sh_16 rfl rfl (okX6_has (d + 50) _ _ _ e_2) rfl rfl (Nat.le_of_ble_eq_true rfl) <| ?_
  rcases iteS e with ⟨g_5, e⟩ | ⟨g_5, e⟩
  · obtain ⟨q_6, e_7, e⟩ := bndS e
    refine s_if_eq_F 5 38 rfl (by decide) (b2i_T g_5) <| s_iload_n 6 rfl rfl <| s_iconst 0 7 rfl (by decide) <| s_bipush 99 8 rfl (by decide) <| s_callS 9 [.int x2, .int 0, .int 99] [] rfl ml_X8_65 yw_X8_isWithin (okX8_isWithin (d + 51) _ _ _ _ _ e_7) rfl rfl (Nat.le_of_ble_eq_true rfl) <| ?_
    rcases iteS e with ⟨g_8, e⟩ | ⟨g_8, e⟩
    · obtain ⟨q_9, e_10, e⟩ := bndS e
      refine s_if_eq_F 10 38 rfl (by decide) (b2i_T g_8) <| s_iload_n 11 rfl rfl <| s_iconst 0 12 rfl (by decide) <| s_bipush 99 13 rfl (by decide) <| s_callS 14 [.int x3, .int 0, .int 99] [] rfl ml_X8_65 yw_X8_isWithin (okX8_isWithin (d + 51) _ _ _ _ _ e_10) rfl rfl (Nat.le_of_ble_eq_true rfl) <| ?_
      rcases iteS e with ⟨g_11, e⟩ | ⟨g_11, e⟩
      · cases e
        exact s_if_eq_F 15 38 rfl (by decide) (b2i_T g_11) <| s_iconst 1 16 rfl (by decide) <| s_goto 17 39 rfl (by decide) <| k_4
      · cases e
        exact s_if_eq_T 15 38 rfl (by decide) (b2i_F g_11) <| s_iconst 0 18 rfl (by decide) <| k_4
    · cases e
      exact s_if_eq_T 10 38 rfl (by decide) (b2i_F g_8) <| s_iconst 0 18 rfl (by decide) <| k_4
  · cases e
    exact s_if_eq_T 5 38 rfl (by decide) (b2i_F g_5) <| s_iconst 0 18 rfl (by decide) <| k_4
def fX9_line_b68 (x2 : Int32) (x3 : Int32) (x4 : Int32) (h : Sto) (c5 : Int32) (c6 : Int32) (c7 : Int32) : Option ((Int32 × Int32 × Int32) ⊕ (Int32 × Int32)) :=
  if 200 < c7 then (some (.inr (c5, c6))) else ((fX9_foundBy c7 h).bind fun q_16 => (fX9_people h).bind fun q_18 => (fX9_many (q_16 &&& q_18) h).bind fun q_20 => (fX9_every h).bind fun q_22 => (fX9_people h).bind fun q_24 => (fX9_many ((q_22 &&& (q_16 ^^^ (-1))) &&& (q_24 ^^^ (-1))) h).bind fun q_26 => if c5 < (-200) then (some (.inl (c7, ((x2 * q_20) + (x3 * q_26)), (c7 + 1)))) else (if ((x2 * q_20) + (x3 * q_26)) < c6 then (some (.inl (c7, ((x2 * q_20) + (x3 * q_26)), (c7 + 1)))) else (some (.inl (c5, c6, (c7 + 1))))))
def fX9_line (x1 : Int32) (x2 : Int32) (x3 : Int32) (x4 : Int32) (h : Sto) : Option (Int32 × Sto) :=
  (fX9_isText x1 h).bind fun q_1 => if q_1 = true then ((fX9_in x2.toInt64 0 99 h).bind fun q_4 => if q_4 = true then ((fX9_in x3.toInt64 0 99 h).bind fun q_7 => if q_7 = true then ((fX9_in x4.toInt64 0 1 h).bind fun q_10 => if q_10 = true then ((fX9_findScores x1 h).bind fun q_13 => (lp (fun s => fX9_line_b68 x2 x3 x4 q_13 s.1 s.2.1 s.2.2) FUEL ((-201), 0, (-200))).bind fun v_38 => if ¬ x4 = 0 then (some (v_38.2, q_13)) else (some (v_38.1, q_13))) else ((fX9_finds (-1000001) h).bind fun q_56 => some (q_56.1, q_56.2))) else ((fX9_finds (-1000001) h).bind fun q_58 => some (q_58.1, q_58.2))) else ((fX9_finds (-1000001) h).bind fun q_60 => some (q_60.1, q_60.2))) else ((fX9_finds (-1000001) h).bind fun q_62 => some (q_62.1, q_62.2))
set_option maxRecDepth 100000 in
set_option maxHeartbeats 4000000 in
theorem okX9_line (d : Nat) (x1 : Int32) (x2 : Int32) (x3 : Int32) (x4 : Int32) (h : Sto) (qv : Int32) (qh : Sto) (e : fX9_line x1 x2 x3 x4 h = some (qv, qh)) : Ok yX9_line cX9_line 10 (some .int) (d + 6) [.ref 83, .int x1, .int x2, .int x3, .int x4] h (some (.int qv)) qh := by
  refine Ok_of (lst := kX9_line) (own := RX9) ⟨by decide, rfl⟩ ckX9_line trivial (Nat.le_of_ble_eq_true rfl) ?_
  unfold fX9_line at e
  change Ev kX9_line RX9 10 (d + 6) nox 0 [some (.ref 83), some (.int x1), some (.int x2), some (.int x3), some (.int x4), none, none, none, none, none] [] h (some (.int qv)) qh
  obtain ⟨q_1, e_2, e⟩ := bndS e
  refine s_aload_n 0 rfl rfl <| s_iload_n 1 rfl rfl <| s_callV (b := 83) (ci := 9) 2 [.int x1] [] rfl ml_X9_223 yw_X9_isText sh_83 rfl rfl (okX9_isText (d + 4) _ _ _ e_2) rfl rfl (Nat.le_of_ble_eq_true rfl) <| ?_
  rcases iteS e with ⟨g_3, e⟩ | ⟨g_3, e⟩
  · obtain ⟨q_4, e_5, e⟩ := bndS e
    refine s_if_eq_F 3 43 rfl (by decide) (b2i_T g_3) <| s_iload_n 4 rfl rfl <| s_i2l 5 rfl <| s_lconst 0 6 rfl (by decide) <| s_ldc2_w 7 rfl wc_X9_82 <| s_callS 8 [.long x2.toInt64, .long 0, .long 99] [] rfl ml_X9_48 yw_X9_in (okX9_in (d + 5) _ _ _ _ _ e_5) rfl rfl (Nat.le_of_ble_eq_true rfl) <| ?_
    rcases iteS e with ⟨g_6, e⟩ | ⟨g_6, e⟩
    · obtain ⟨q_7, e_8, e⟩ := bndS e
      refine s_if_eq_F 9 43 rfl (by decide) (b2i_T g_6) <| s_iload_n 10 rfl rfl <| s_i2l 11 rfl <| s_lconst 0 12 rfl (by decide) <| s_ldc2_w 13 rfl wc_X9_82 <| s_callS 14 [.long x3.toInt64, .long 0, .long 99] [] rfl ml_X9_48 yw_X9_in (okX9_in (d + 5) _ _ _ _ _ e_8) rfl rfl (Nat.le_of_ble_eq_true rfl) <| ?_
      rcases iteS e with ⟨g_9, e⟩ | ⟨g_9, e⟩
      · obtain ⟨q_10, e_11, e⟩ := bndS e
        refine s_if_eq_F 15 43 rfl (by decide) (b2i_T g_9) <| s_iload 16 rfl rfl <| s_i2l 17 rfl <| s_lconst 0 18 rfl (by decide) <| s_lconst 1 19 rfl (by decide) <| s_callS 20 [.long x4.toInt64, .long 0, .long 1] [] rfl ml_X9_48 yw_X9_in (okX9_in (d + 5) _ _ _ _ _ e_11) rfl rfl (Nat.le_of_ble_eq_true rfl) <| ?_
        rcases iteS e with ⟨g_12, e⟩ | ⟨g_12, e⟩
        · obtain ⟨q_13, e_14, e⟩ := bndS e
          obtain ⟨y_30, e_31, e⟩ := bndS e
          have kx_34 : ∀ v_38 : (Int32 × Int32), v_38 = y_30 → Ev kX9_line RX9 10 (d + 6) nox 152 [none, none, none, none, some (.int x4), some (.int v_38.1), some (.int v_38.2), none, none, none] [] q_13 (some (.int qv)) qh := by
            intro v_38 hy
            subst hy
            refine s_iload 78 rfl rfl <| ?_
            rcases iteS e with ⟨g_40, e⟩ | ⟨g_40, e⟩
            · obtain ⟨rfl, rfl⟩ := some2 e
              exact s_if_ne_T 79 162 rfl (by decide) g_40 <| s_iload 82 rfl rfl <| s_iret 83 rfl
            · obtain ⟨rfl, rfl⟩ := some2 e
              exact s_if_ne_F 79 162 rfl (by decide) (Decidable.not_not.mp g_40) <| s_iload 80 rfl rfl <| s_goto 81 164 rfl (by decide) <| s_iret 83 rfl
          refine s_if_ne_T 21 50 rfl (by decide) (b2i_T g_12) <| s_aload_n 26 rfl rfl <| s_iload_n 27 rfl rfl <| s_callV (b := 83) (ci := 9) 28 [.int x1] [] rfl ml_X9_231 yw_X9_findScores sh_83 rfl rfl (okX9_findScores d _ _ _ e_14) rfl rfl (Nat.le_of_ble_eq_true rfl) <| s_sipush (-201) 29 rfl (by decide) <| s_istore [some (.ref 83), some (.int x1), some (.int x2), some (.int x3), some (.int x4), some (.int (-201)), none, none, none, none] 30 rfl (by decide) rfl <| s_iconst 0 31 rfl (by decide) <| s_istore [some (.ref 83), some (.int x1), some (.int x2), some (.int x3), some (.int x4), some (.int (-201)), some (.int 0), none, none, none] 32 rfl (by decide) rfl <| s_sipush (-200) 33 rfl (by decide) <| s_istore [some (.ref 83), some (.int x1), some (.int x2), some (.int x3), some (.int x4), some (.int (-201)), some (.int 0), some (.int (-200)), none, none] 34 rfl (by decide) rfl <| s_fgt [false, true] rfl <| lpS (P := fun (s_37 : (Int32 × Int32 × Int32)) => Ev kX9_line RX9 10 (d + 6) nox 68 [some (.ref 83), none, some (.int x2), some (.int x3), some (.int x4), some (.int s_37.1), some (.int s_37.2.1), some (.int s_37.2.2), none, none] [] q_13 (some (.int qv)) qh) ?_ FUEL _ e_31
          intro s_37 o_36 e hk_32 hx_33
          unfold fX9_line_b68 at e
          refine s_iload 35 rfl rfl <| s_sipush 200 36 rfl (by decide) <| ?_
          rcases iteS e with ⟨g_41, e⟩ | ⟨g_41, e⟩
          · cases e
            exact s_icmp_gt_T 37 152 rfl (by decide) g_41 <| s_fgt [true, false, true, true, false, false, false, true] rfl <| (kx_34 (s_37.1, s_37.2.1) (hx_33 _ rfl))
          · obtain ⟨q_42, e_43, e⟩ := bndS e
            obtain ⟨q_44, e_45, e⟩ := bndS e
            obtain ⟨q_46, e_47, e⟩ := bndS e
            obtain ⟨q_48, e_49, e⟩ := bndS e
            obtain ⟨q_50, e_51, e⟩ := bndS e
            obtain ⟨q_52, e_53, e⟩ := bndS e
            refine s_icmp_gt_F 37 152 rfl (by decide) g_41 <| s_aload_n 38 rfl rfl <| s_iload 39 rfl rfl <| s_callV (b := 83) (ci := 9) 40 [.int s_37.2.2] [] rfl ml_X9_234 yw_X9_foundBy sh_83 rfl rfl (okX9_foundBy (d + 5) _ _ _ e_43) rfl rfl (Nat.le_of_ble_eq_true rfl) <| s_istore [some (.ref 83), none, some (.int x2), some (.int x3), some (.int x4), some (.int s_37.1), some (.int s_37.2.1), some (.int s_37.2.2), some (.int q_42), none] 41 rfl (by decide) rfl <| s_iload_n 42 rfl rfl <| s_iload 43 rfl rfl <| s_aload_n 44 rfl rfl <| s_callV (b := 83) (ci := 9) 45 [] [.int q_42, .int x2] rfl ml_X9_237 yw_X9_people sh_83 rfl rfl (okX9_people (d + 3) _ _ e_45) rfl rfl (Nat.le_of_ble_eq_true rfl) <| s_iand 46 rfl <| s_callS 47 [.int (q_42 &&& q_44)] [.int x2] rfl ml_X9_148 yw_X9_many (okX9_many (d + 5) _ _ _ e_47) rfl rfl (Nat.le_of_ble_eq_true rfl) <| s_imul 48 rfl <| s_iload_n 49 rfl rfl <| s_aload_n 50 rfl rfl <| s_callV (b := 83) (ci := 9) 51 [] [.int x3, .int (x2 * q_46)] rfl ml_X9_52 yw_X9_every sh_83 rfl rfl (okX9_every (d + 5) _ _ e_49) rfl rfl (Nat.le_of_ble_eq_true rfl) <| s_iload 52 rfl rfl <| s_iconst (-1) 53 rfl (by decide) <| s_ixor 54 rfl <| s_iand 55 rfl <| s_aload_n 56 rfl rfl <| s_callV (b := 83) (ci := 9) 57 [] [.int (q_48 &&& (q_42 ^^^ (-1))), .int x3, .int (x2 * q_46)] rfl ml_X9_237 yw_X9_people sh_83 rfl rfl (okX9_people (d + 3) _ _ e_51) rfl rfl (Nat.le_of_ble_eq_true rfl) <| s_iconst (-1) 58 rfl (by decide) <| s_ixor 59 rfl <| s_iand 60 rfl <| s_callS 61 [.int ((q_48 &&& (q_42 ^^^ (-1))) &&& (q_50 ^^^ (-1)))] [.int x3, .int (x2 * q_46)] rfl ml_X9_148 yw_X9_many (okX9_many (d + 5) _ _ _ e_53) rfl rfl (Nat.le_of_ble_eq_true rfl) <| s_imul 62 rfl <| s_iadd 63 rfl <| s_istore [some (.ref 83), none, some (.int x2), some (.int x3), some (.int x4), some (.int s_37.1), some (.int s_37.2.1), some (.int s_37.2.2), some (.int q_42), some (.int ((x2 * q_46) + (x3 * q_52)))] 64 rfl (by decide) rfl <| s_iload 65 rfl rfl <| s_sipush (-200) 66 rfl (by decide) <| ?_
            rcases iteS e with ⟨g_54, e⟩ | ⟨g_54, e⟩
            · cases e
              exact s_icmp_lt_T 67 138 rfl (by decide) g_54 <| s_iload 72 rfl rfl <| s_istore [some (.ref 83), none, some (.int x2), some (.int x3), some (.int x4), some (.int s_37.2.2), some (.int s_37.2.1), some (.int s_37.2.2), some (.int q_42), some (.int ((x2 * q_46) + (x3 * q_52)))] 73 rfl (by decide) rfl <| s_iload 74 rfl rfl <| s_istore [some (.ref 83), none, some (.int x2), some (.int x3), some (.int x4), some (.int s_37.2.2), some (.int ((x2 * q_46) + (x3 * q_52))), some (.int s_37.2.2), some (.int q_42), some (.int ((x2 * q_46) + (x3 * q_52)))] 75 rfl (by decide) rfl <| s_iinc 1 [some (.ref 83), none, some (.int x2), some (.int x3), some (.int x4), some (.int s_37.2.2), some (.int ((x2 * q_46) + (x3 * q_52))), some (.int (s_37.2.2 + 1)), some (.int q_42), some (.int ((x2 * q_46) + (x3 * q_52)))] 76 rfl (by decide) rfl (by decide) rfl <| s_goto 77 68 rfl (by decide) <| s_fgt [false, false, false, false, false, false, false, false, true, true] rfl <| (hk_32 (s_37.2.2, ((x2 * q_46) + (x3 * q_52)), (s_37.2.2 + 1)) rfl)
            · refine s_icmp_lt_F 67 138 rfl (by decide) g_54 <| s_iload 68 rfl rfl <| s_iload 69 rfl rfl <| ?_
              rcases iteS e with ⟨g_55, e⟩ | ⟨g_55, e⟩
              · cases e
                exact s_icmp_lt_T 70 138 rfl (by decide) g_55 <| s_iload 72 rfl rfl <| s_istore [some (.ref 83), none, some (.int x2), some (.int x3), some (.int x4), some (.int s_37.2.2), some (.int s_37.2.1), some (.int s_37.2.2), some (.int q_42), some (.int ((x2 * q_46) + (x3 * q_52)))] 73 rfl (by decide) rfl <| s_iload 74 rfl rfl <| s_istore [some (.ref 83), none, some (.int x2), some (.int x3), some (.int x4), some (.int s_37.2.2), some (.int ((x2 * q_46) + (x3 * q_52))), some (.int s_37.2.2), some (.int q_42), some (.int ((x2 * q_46) + (x3 * q_52)))] 75 rfl (by decide) rfl <| s_iinc 1 [some (.ref 83), none, some (.int x2), some (.int x3), some (.int x4), some (.int s_37.2.2), some (.int ((x2 * q_46) + (x3 * q_52))), some (.int (s_37.2.2 + 1)), some (.int q_42), some (.int ((x2 * q_46) + (x3 * q_52)))] 76 rfl (by decide) rfl (by decide) rfl <| s_goto 77 68 rfl (by decide) <| s_fgt [false, false, false, false, false, false, false, false, true, true] rfl <| (hk_32 (s_37.2.2, ((x2 * q_46) + (x3 * q_52)), (s_37.2.2 + 1)) rfl)
              · cases e
                exact s_icmp_lt_F 70 138 rfl (by decide) g_55 <| s_goto 71 146 rfl (by decide) <| s_iinc 1 [some (.ref 83), none, some (.int x2), some (.int x3), some (.int x4), some (.int s_37.1), some (.int s_37.2.1), some (.int (s_37.2.2 + 1)), some (.int q_42), some (.int ((x2 * q_46) + (x3 * q_52)))] 76 rfl (by decide) rfl (by decide) rfl <| s_goto 77 68 rfl (by decide) <| s_fgt [false, false, false, false, false, false, false, false, true, true] rfl <| (hk_32 (s_37.1, s_37.2.1, (s_37.2.2 + 1)) rfl)
        · obtain ⟨q_56, e_57, e⟩ := bndS e
          obtain ⟨rfl, rfl⟩ := some2 e
          exact s_if_ne_F 21 50 rfl (by decide) (b2i_F g_12) <| s_aload_n 22 rfl rfl <| s_ldc 23 rfl wc_X9_47 <| s_callV (b := 83) (ci := 9) 24 [.int (-1000001)] [] rfl ml_X9_64 yw_X9_finds sh_83 rfl rfl (okX9_finds (d + 5) _ _ q_56.1 q_56.2 e_57) rfl rfl (Nat.le_of_ble_eq_true rfl) <| s_iret 25 rfl
      · obtain ⟨q_58, e_59, e⟩ := bndS e
        obtain ⟨rfl, rfl⟩ := some2 e
        exact s_if_eq_T 15 43 rfl (by decide) (b2i_F g_9) <| s_aload_n 22 rfl rfl <| s_ldc 23 rfl wc_X9_47 <| s_callV (b := 83) (ci := 9) 24 [.int (-1000001)] [] rfl ml_X9_64 yw_X9_finds sh_83 rfl rfl (okX9_finds (d + 5) _ _ q_58.1 q_58.2 e_59) rfl rfl (Nat.le_of_ble_eq_true rfl) <| s_iret 25 rfl
    · obtain ⟨q_60, e_61, e⟩ := bndS e
      obtain ⟨rfl, rfl⟩ := some2 e
      exact s_if_eq_T 9 43 rfl (by decide) (b2i_F g_6) <| s_aload_n 22 rfl rfl <| s_ldc 23 rfl wc_X9_47 <| s_callV (b := 83) (ci := 9) 24 [.int (-1000001)] [] rfl ml_X9_64 yw_X9_finds sh_83 rfl rfl (okX9_finds (d + 5) _ _ q_60.1 q_60.2 e_61) rfl rfl (Nat.le_of_ble_eq_true rfl) <| s_iret 25 rfl
  · obtain ⟨q_62, e_63, e⟩ := bndS e
    obtain ⟨rfl, rfl⟩ := some2 e
    exact s_if_eq_T 3 43 rfl (by decide) (b2i_F g_3) <| s_aload_n 22 rfl rfl <| s_ldc 23 rfl wc_X9_47 <| s_callV (b := 83) (ci := 9) 24 [.int (-1000001)] [] rfl ml_X9_64 yw_X9_finds sh_83 rfl rfl (okX9_finds (d + 5) _ _ q_62.1 q_62.2 e_63) rfl rfl (Nat.le_of_ble_eq_true rfl) <| s_iret 25 rfl
def fX8_shutAll (x1 : Int32) (x2 : Int32) (h : Sto) : Option (Int32 × Sto) :=
  (fX6_has x1 h).bind fun q_1 => if q_1 = true then ((fX8_gatherScores x1 h).bind fun q_4 => (fX8_foundSet x2 q_4).bind fun q_6 => (some (su q_4 2 1 ((q_4 2 1) ||| (q_6 &&& ((q_4 2 1) ^^^ (-1)))))).bind fun h_8 => (fJ6_bitCount_0f7a4 (q_6 &&& ((q_4 2 1) ^^^ (-1))) h_8).bind fun q_9 => some (q_9, h_8)) else ((fX8_tellFinding (-1000001) h).bind fun q_11 => some (q_11.1, q_11.2))
set_option maxRecDepth 100000 in
set_option maxHeartbeats 4000000 in
theorem okX8_shutAll (d : Nat) (x1 : Int32) (x2 : Int32) (h : Sto) (qv : Int32) (qh : Sto) (e : fX8_shutAll x1 x2 h = some (qv, qh)) : Ok yX8_shutAll cX8_shutAll 4 (some .int) (d + 52) [.ref 0, .int x1, .int x2] h (some (.int qv)) qh := by
  refine Ok_of (lst := kX8_shutAll) (own := RX8) ⟨by decide, rfl⟩ ckX8_shutAll trivial (Nat.le_of_ble_eq_true rfl) ?_
  unfold fX8_shutAll at e
  change Ev kX8_shutAll RX8 4 (d + 52) nox 0 [some (.ref 0), some (.int x1), some (.int x2), none] [] h (some (.int qv)) qh
  obtain ⟨q_1, e_2, e⟩ := bndS e
  refine s_aload_n 0 rfl rfl <| s_getr 1 rfl fl_X8_12 sh_0 rfl <| s_getr 2 rfl fl_X8_181 sh_1 rfl <| s_iload_n 3 rfl rfl <| s_callV (b := 16) (ci := 6) 4 [.int x1] [] rfl ml_X8_198 yw_X6_has sh_16 rfl rfl (okX6_has (d + 50) _ _ _ e_2) rfl rfl (Nat.le_of_ble_eq_true rfl) <| ?_
  rcases iteS e with ⟨g_3, e⟩ | ⟨g_3, e⟩
  · obtain ⟨q_4, e_5, e⟩ := bndS e
    obtain ⟨q_6, e_7, e⟩ := bndS e
    obtain ⟨h_8, eh_8, e⟩ := bndS e
    obtain ⟨q_9, e_10, e⟩ := bndS e
    obtain ⟨rfl, rfl⟩ := some2 e
    exact s_if_ne_T 5 21 rfl (by decide) (b2i_T g_3) <| s_aload_n 10 rfl rfl <| s_iload_n 11 rfl rfl <| s_callV (b := 0) (ci := 8) 12 [.int x1] [] rfl ml_X8_202 yw_X8_gatherScores sh_0 rfl rfl (okX8_gatherScores d _ _ _ e_5) rfl rfl (Nat.le_of_ble_eq_true rfl) <| s_aload_n 13 rfl rfl <| s_iload_n 14 rfl rfl <| s_callV (b := 0) (ci := 8) 15 [.int x2] [] rfl ml_X8_206 yw_X8_foundSet sh_0 rfl rfl (okX8_foundSet (d + 51) _ _ _ e_7) rfl rfl (Nat.le_of_ble_eq_true rfl) <| s_aload_n 16 rfl rfl <| s_getr 17 rfl fl_X8_12 sh_0 rfl <| s_getr 18 rfl fl_X8_74 sh_1 rfl <| s_geti 19 rfl fl_X8_92 sh_2 rfl <| s_iconst (-1) 20 rfl (by decide) <| s_ixor 21 rfl <| s_iand 22 rfl <| s_istore_n [some (.ref 0), some (.int x1), some (.int x2), some (.int (q_6 &&& ((q_4 2 1) ^^^ (-1))))] 23 rfl (by decide) rfl <| s_aload_n 24 rfl rfl <| s_getr 25 rfl fl_X8_12 sh_0 rfl <| s_getr 26 rfl fl_X8_74 sh_1 rfl <| s_dup 27 rfl rfl <| s_geti 28 rfl fl_X8_92 sh_2 rfl <| s_iload_n 29 rfl rfl <| s_ior 30 rfl <| s_puti 31 rfl fl_X8_92 sh_2 rfl <| s_nmH (Option.some.inj eh_8) <| s_iload_n 32 rfl rfl <| s_callS 33 [.int (q_6 &&& ((q_4 2 1) ^^^ (-1)))] [] rfl ml_X8_117 yw_J6_bitCount_0f7a4 (okJ6_bitCount_0f7a4 (d + 51) _ _ _ e_10) rfl rfl (Nat.le_of_ble_eq_true rfl) <| s_iret 34 rfl
  · obtain ⟨q_11, e_12, e⟩ := bndS e
    obtain ⟨rfl, rfl⟩ := some2 e
    exact s_if_ne_F 5 21 rfl (by decide) (b2i_F g_3) <| s_aload_n 6 rfl rfl <| s_ldc 7 rfl wc_X8_69 <| s_callV (b := 0) (ci := 8) 8 [.int (-1000001)] [] rfl ml_X8_70 yw_X8_tellFinding sh_0 rfl rfl (okX8_tellFinding (d + 50) _ _ q_11.1 q_11.2 e_12) rfl rfl (Nat.le_of_ble_eq_true rfl) <| s_iret 9 rfl
def fX9_shutAll_b32 (x3 : Int32) (c4 : Int32) (c5 : Int32) (h : Sto) : Option ((Int32 × Int32 × Sto) ⊕ (Int32 × Sto)) :=
  if (h 84 0) ≤ c5 then (some (.inr (c4, h))) else ((fX9_has x3 c5 h).bind fun q_9 => if q_9 = true then ((fX9_becomes ((6 + (8 * c5)) + 6) 1 h).bind fun q_12 => some (.inl ((c4 + (1 - q_12.1)), (c5 + 1), q_12.2))) else (some (.inl ((c4 + 0), (c5 + 1), h))))
def fX9_shutAll (x1 : Int32) (x2 : Int32) (h : Sto) : Option (Int32 × Sto) :=
  (fX9_isText x1 h).bind fun q_1 => if q_1 = true then ((fX9_findScores x1 h).bind fun q_4 => (fX9_foundBy x2 q_4).bind fun q_6 => (lp (fun s => fX9_shutAll_b32 q_6 s.1 s.2.1 s.2.2) FUEL (0, 0, q_4)).bind fun v_22 => some (v_22.1, v_22.2)) else ((fX9_finds (-1000001) h).bind fun q_30 => some (q_30.1, q_30.2))
set_option maxRecDepth 100000 in
set_option maxHeartbeats 4000000 in
theorem okX9_shutAll (d : Nat) (x1 : Int32) (x2 : Int32) (h : Sto) (qv : Int32) (qh : Sto) (e : fX9_shutAll x1 x2 h = some (qv, qh)) : Ok yX9_shutAll cX9_shutAll 6 (some .int) (d + 6) [.ref 83, .int x1, .int x2] h (some (.int qv)) qh := by
  refine Ok_of (lst := kX9_shutAll) (own := RX9) ⟨by decide, rfl⟩ ckX9_shutAll trivial (Nat.le_of_ble_eq_true rfl) ?_
  unfold fX9_shutAll at e
  change Ev kX9_shutAll RX9 6 (d + 6) nox 0 [some (.ref 83), some (.int x1), some (.int x2), none, none, none] [] h (some (.int qv)) qh
  obtain ⟨q_1, e_2, e⟩ := bndS e
  refine s_aload_n 0 rfl rfl <| s_iload_n 1 rfl rfl <| s_callV (b := 83) (ci := 9) 2 [.int x1] [] rfl ml_X9_223 yw_X9_isText sh_83 rfl rfl (okX9_isText (d + 4) _ _ _ e_2) rfl rfl (Nat.le_of_ble_eq_true rfl) <| ?_
  rcases iteS e with ⟨g_3, e⟩ | ⟨g_3, e⟩
  · obtain ⟨q_4, e_5, e⟩ := bndS e
    obtain ⟨q_6, e_7, e⟩ := bndS e
    obtain ⟨y_14, e_15, e⟩ := bndS e
    have kx_18 : ∀ v_22 : (Int32 × Sto), v_22 = y_14 → Ev kX9_shutAll RX9 6 (d + 6) nox 85 [none, none, none, none, some (.int v_22.1), none] [] v_22.2 (some (.int qv)) qh := by
      intro v_22 hy
      subst hy
      obtain ⟨rfl, rfl⟩ := some2 e
      exact s_iload 48 rfl rfl <| s_iret 49 rfl
    refine s_if_ne_T 3 15 rfl (by decide) (b2i_T g_3) <| s_aload_n 8 rfl rfl <| s_iload_n 9 rfl rfl <| s_callV (b := 83) (ci := 9) 10 [.int x1] [] rfl ml_X9_231 yw_X9_findScores sh_83 rfl rfl (okX9_findScores d _ _ _ e_5) rfl rfl (Nat.le_of_ble_eq_true rfl) <| s_aload_n 11 rfl rfl <| s_iload_n 12 rfl rfl <| s_callV (b := 83) (ci := 9) 13 [.int x2] [] rfl ml_X9_234 yw_X9_foundBy sh_83 rfl rfl (okX9_foundBy (d + 5) _ _ _ e_7) rfl rfl (Nat.le_of_ble_eq_true rfl) <| s_istore_n [some (.ref 83), some (.int x1), some (.int x2), some (.int q_6), none, none] 14 rfl (by decide) rfl <| s_iconst 0 15 rfl (by decide) <| s_istore [some (.ref 83), some (.int x1), some (.int x2), some (.int q_6), some (.int 0), none] 16 rfl (by decide) rfl <| s_iconst 0 17 rfl (by decide) <| s_istore [some (.ref 83), some (.int x1), some (.int x2), some (.int q_6), some (.int 0), some (.int 0)] 18 rfl (by decide) rfl <| s_fgt [false, true, true] rfl <| lpS (P := fun (s_21 : (Int32 × Int32 × Sto)) => Ev kX9_shutAll RX9 6 (d + 6) nox 32 [some (.ref 83), none, none, some (.int q_6), some (.int s_21.1), some (.int s_21.2.1)] [] s_21.2.2 (some (.int qv)) qh) ?_ FUEL _ e_15
    intro s_21 o_20 e hk_16 hx_17
    unfold fX9_shutAll_b32 at e
    refine s_iload 19 rfl rfl <| s_aload_n 20 rfl rfl <| s_getr 21 rfl fl_X9_9 sh_83 rfl <| s_iconst 0 22 rfl (by decide) <| s_iald 0 23 rfl sh_84 (by decide) (by decide) <| ?_
    rcases iteS e with ⟨g_24, e⟩ | ⟨g_24, e⟩
    · cases e
      exact s_icmp_ge_T 24 85 rfl (by decide) g_24 <| s_fgt [true, false, false, true, false, true] rfl <| (kx_18 (s_21.1, s_21.2.2) (hx_17 _ rfl))
    · obtain ⟨q_25, e_26, e⟩ := bndS e
      refine s_icmp_ge_F 24 85 rfl (by decide) g_24 <| s_iload 25 rfl rfl <| s_iload_n 26 rfl rfl <| s_iload 27 rfl rfl <| s_callS 28 [.int q_6, .int s_21.2.1] [.int s_21.1] rfl ml_X9_97 yw_X9_has (okX9_has (d + 5) _ _ _ _ e_26) rfl rfl (Nat.le_of_ble_eq_true rfl) <| ?_
      rcases iteS e with ⟨g_27, e⟩ | ⟨g_27, e⟩
      · obtain ⟨q_28, e_29, e⟩ := bndS e
        cases e
        exact s_if_eq_F 29 75 rfl (by decide) (b2i_T g_27) <| s_iconst 1 30 rfl (by decide) <| s_aload_n 31 rfl rfl <| s_bipush 6 32 rfl (by decide) <| s_bipush 8 33 rfl (by decide) <| s_iload 34 rfl rfl <| s_imul 35 rfl <| s_iadd 36 rfl <| s_bipush 6 37 rfl (by decide) <| s_iadd 38 rfl <| s_iconst 1 39 rfl (by decide) <| s_callV (b := 83) (ci := 9) 40 [.int ((6 + (8 * s_21.2.1)) + 6), .int 1] [.int 1, .int s_21.1] rfl ml_X9_91 yw_X9_becomes sh_83 rfl rfl (okX9_becomes (d + 5) _ _ _ q_28.1 q_28.2 e_29) rfl rfl (Nat.le_of_ble_eq_true rfl) <| s_isub 41 rfl <| s_goto 42 76 rfl (by decide) <| s_iadd 44 rfl <| s_istore [some (.ref 83), none, none, some (.int q_6), some (.int (s_21.1 + (1 - q_28.1))), some (.int s_21.2.1)] 45 rfl (by decide) rfl <| s_iinc 1 [some (.ref 83), none, none, some (.int q_6), some (.int (s_21.1 + (1 - q_28.1))), some (.int (s_21.2.1 + 1))] 46 rfl (by decide) rfl (by decide) rfl <| s_goto 47 32 rfl (by decide) <| (hk_16 ((s_21.1 + (1 - q_28.1)), (s_21.2.1 + 1), q_28.2) rfl)
      · cases e
        exact s_if_eq_T 29 75 rfl (by decide) (b2i_F g_27) <| s_iconst 0 43 rfl (by decide) <| s_iadd 44 rfl <| s_istore [some (.ref 83), none, none, some (.int q_6), some (.int (s_21.1 + 0)), some (.int s_21.2.1)] 45 rfl (by decide) rfl <| s_iinc 1 [some (.ref 83), none, none, some (.int q_6), some (.int (s_21.1 + 0)), some (.int (s_21.2.1 + 1))] 46 rfl (by decide) rfl (by decide) rfl <| s_goto 47 32 rfl (by decide) <| (hk_16 ((s_21.1 + 0), (s_21.2.1 + 1), s_21.2.2) rfl)
  · obtain ⟨q_30, e_31, e⟩ := bndS e
    obtain ⟨rfl, rfl⟩ := some2 e
    exact s_if_ne_F 3 15 rfl (by decide) (b2i_F g_3) <| s_aload_n 4 rfl rfl <| s_ldc 5 rfl wc_X9_47 <| s_callV (b := 83) (ci := 9) 6 [.int (-1000001)] [] rfl ml_X9_64 yw_X9_finds sh_83 rfl rfl (okX9_finds (d + 5) _ _ q_30.1 q_30.2 e_31) rfl rfl (Nat.le_of_ble_eq_true rfl) <| s_iret 7 rfl
def fX8_ask_b42 (x1 : Int32) (x2 : Int32) (c3 : Int32) (c4 : Int64) (c6 : Int32) (h : Sto) : Option ((Int32 × Int64 × Int32 × Sto) ⊕ (Int32 × Sto)) :=
  if (h 2 0) ≤ c6 then (some (.inr (c3, h))) else ((fX8_hasBit (h 2 2) c6 h).bind fun q_8 => if q_8 = true then (some (.inl (c3, c4, (c6 + 1), h))) else ((fX8_scoreOf x1 c6 h).bind fun q_11 => if c3 < 0 then (some (.inl (c6, jabs (q_11.1.toInt64 - x2.toInt64), (c6 + 1), q_11.2))) else (if 0 ≤ (lg_cmp (jabs (q_11.1.toInt64 - x2.toInt64)) c4) then (some (.inl (c3, c4, (c6 + 1), q_11.2))) else (some (.inl (c6, jabs (q_11.1.toInt64 - x2.toInt64), (c6 + 1), q_11.2))))))
def fX8_ask (x1 : Int32) (x2 : Int32) (h : Sto) : Option (Int32 × Sto) :=
  (fX6_has x1 h).bind fun q_1 => if q_1 = true then ((fX8_isWithin x2 (-9999) 9999 h).bind fun q_4 => if q_4 = true then ((lp (fun s => fX8_ask_b42 x1 x2 s.1 s.2.1 s.2.2.1 s.2.2.2) FUEL ((-1), 0, 0, h)).bind fun v_23 => if 0 ≤ v_23.1 then (some (v_23.1, v_23.2)) else ((fX8_tellFinding (-1000004) v_23.2).bind fun q_26 => some (q_26.1, q_26.2))) else ((fX8_tellFinding (-1000001) h).bind fun q_36 => some (q_36.1, q_36.2))) else ((fX8_tellFinding (-1000001) h).bind fun q_38 => some (q_38.1, q_38.2))
set_option maxRecDepth 100000 in
set_option maxHeartbeats 4000000 in
theorem okX8_ask (d : Nat) (x1 : Int32) (x2 : Int32) (h : Sto) (qv : Int32) (qh : Sto) (e : fX8_ask x1 x2 h = some (qv, qh)) : Ok yX8_ask cX8_ask 9 (some .int) (d + 51) [.ref 0, .int x1, .int x2] h (some (.int qv)) qh := by
  refine Ok_of (lst := kX8_ask) (own := RX8) ⟨by decide, rfl⟩ ckX8_ask trivial (Nat.le_of_ble_eq_true rfl) ?_
  unfold fX8_ask at e
  change Ev kX8_ask RX8 9 (d + 51) nox 0 [some (.ref 0), some (.int x1), some (.int x2), none, none, none, none, none, none] [] h (some (.int qv)) qh
  obtain ⟨q_1, e_2, e⟩ := bndS e
  refine s_aload_n 0 rfl rfl <| s_getr 1 rfl fl_X8_12 sh_0 rfl <| s_getr 2 rfl fl_X8_181 sh_1 rfl <| s_iload_n 3 rfl rfl <| s_callV (b := 16) (ci := 6) 4 [.int x1] [] rfl ml_X8_198 yw_X6_has sh_16 rfl rfl (okX6_has (d + 49) _ _ _ e_2) rfl rfl (Nat.le_of_ble_eq_true rfl) <| ?_
  rcases iteS e with ⟨g_3, e⟩ | ⟨g_3, e⟩
  · obtain ⟨q_4, e_5, e⟩ := bndS e
    refine s_if_eq_F 5 27 rfl (by decide) (b2i_T g_3) <| s_iload_n 6 rfl rfl <| s_sipush (-9999) 7 rfl (by decide) <| s_sipush 9999 8 rfl (by decide) <| s_callS 9 [.int x2, .int (-9999), .int 9999] [] rfl ml_X8_65 yw_X8_isWithin (okX8_isWithin (d + 50) _ _ _ _ _ e_5) rfl rfl (Nat.le_of_ble_eq_true rfl) <| ?_
    rcases iteS e with ⟨g_6, e⟩ | ⟨g_6, e⟩
    · obtain ⟨y_15, e_16, e⟩ := bndS e
      have kx_19 : ∀ v_23 : (Int32 × Sto), v_23 = y_15 → Ev kX8_ask RX8 9 (d + 51) nox 119 [some (.ref 0), none, none, some (.int v_23.1), none, none, none, none, none] [] v_23.2 (some (.int qv)) qh := by
        intro v_23 hy
        subst hy
        refine s_iload_n 57 rfl rfl <| ?_
        rcases iteS e with ⟨g_25, e⟩ | ⟨g_25, e⟩
        · obtain ⟨rfl, rfl⟩ := some2 e
          exact s_if_ge_T 58 132 rfl (by decide) g_25 <| s_iload_n 63 rfl rfl <| s_iret 64 rfl
        · obtain ⟨q_26, e_27, e⟩ := bndS e
          obtain ⟨rfl, rfl⟩ := some2 e
          exact s_if_ge_F 58 132 rfl (by decide) g_25 <| s_aload_n 59 rfl rfl <| s_ldc 60 rfl wc_X8_133 <| s_callV (b := 0) (ci := 8) 61 [.int (-1000004)] [] rfl ml_X8_70 yw_X8_tellFinding sh_0 rfl rfl (okX8_tellFinding (d + 49) _ _ q_26.1 q_26.2 e_27) rfl rfl (Nat.le_of_ble_eq_true rfl) <| s_goto 62 133 rfl (by decide) <| s_iret 64 rfl
      refine s_if_ne_T 10 34 rfl (by decide) (b2i_T g_6) <| s_iconst (-1) 15 rfl (by decide) <| s_istore_n [some (.ref 0), some (.int x1), some (.int x2), some (.int (-1)), none, none, none, none, none] 16 rfl (by decide) rfl <| s_lconst 0 17 rfl (by decide) <| s_lstore [some (.ref 0), some (.int x1), some (.int x2), some (.int (-1)), some (.long 0), none, none, none, none] 18 rfl (by decide) rfl <| s_iconst 0 19 rfl (by decide) <| s_istore [some (.ref 0), some (.int x1), some (.int x2), some (.int (-1)), some (.long 0), none, some (.int 0), none, none] 20 rfl (by decide) rfl <| lpS (P := fun (s_22 : (Int32 × Int64 × Int32 × Sto)) => Ev kX8_ask RX8 9 (d + 51) nox 42 [some (.ref 0), some (.int x1), some (.int x2), some (.int s_22.1), some (.long s_22.2.1), none, some (.int s_22.2.2.1), none, none] [] s_22.2.2.2 (some (.int qv)) qh) ?_ FUEL _ e_16
      intro s_22 o_21 e hk_17 hx_18
      unfold fX8_ask_b42 at e
      refine s_iload 21 rfl rfl <| s_aload_n 22 rfl rfl <| s_getr 23 rfl fl_X8_12 sh_0 rfl <| s_getr 24 rfl fl_X8_74 sh_1 rfl <| s_geti 25 rfl fl_X8_78 sh_2 rfl <| ?_
      rcases iteS e with ⟨g_28, e⟩ | ⟨g_28, e⟩
      · cases e
        exact s_icmp_ge_T 26 119 rfl (by decide) g_28 <| s_fgt [false, true, true, false, true, false, true] rfl <| (kx_19 (s_22.1, s_22.2.2.2) (hx_18 _ rfl))
      · obtain ⟨q_29, e_30, e⟩ := bndS e
        refine s_icmp_ge_F 26 119 rfl (by decide) g_28 <| s_aload_n 27 rfl rfl <| s_getr 28 rfl fl_X8_12 sh_0 rfl <| s_getr 29 rfl fl_X8_74 sh_1 rfl <| s_geti 30 rfl fl_X8_219 sh_2 rfl <| s_iload 31 rfl rfl <| s_callS 32 [.int (s_22.2.2.2 2 2), .int s_22.2.2.1] [] rfl ml_X8_95 yw_X8_hasBit (okX8_hasBit (d + 50) _ _ _ _ e_30) rfl rfl (Nat.le_of_ble_eq_true rfl) <| ?_
        rcases iteS e with ⟨g_31, e⟩ | ⟨g_31, e⟩
        · cases e
          exact s_if_eq_F 33 78 rfl (by decide) (b2i_T g_31) <| s_goto 34 113 rfl (by decide) <| s_iinc 1 [some (.ref 0), some (.int x1), some (.int x2), some (.int s_22.1), some (.long s_22.2.1), none, some (.int (s_22.2.2.1 + 1)), none, none] 55 rfl (by decide) rfl (by decide) rfl <| s_goto 56 42 rfl (by decide) <| (hk_17 (s_22.1, s_22.2.1, (s_22.2.2.1 + 1), s_22.2.2.2) rfl)
        · obtain ⟨q_32, e_33, e⟩ := bndS e
          refine s_if_eq_T 33 78 rfl (by decide) (b2i_F g_31) <| s_aload_n 35 rfl rfl <| s_iload_n 36 rfl rfl <| s_iload 37 rfl rfl <| s_callV (b := 0) (ci := 8) 38 [.int x1, .int s_22.2.2.1] [] rfl ml_X8_199 yw_X8_scoreOf sh_0 rfl rfl (okX8_scoreOf d _ _ _ q_32.1 q_32.2 e_33) rfl rfl (Nat.le_of_ble_eq_true rfl) <| s_i2l 39 rfl <| s_iload_n 40 rfl rfl <| s_i2l 41 rfl <| s_lsub 42 rfl <| s_abs 43 rfl ml_X8_222 wAbs (Nat.le_of_ble_eq_true rfl) <| s_lstore [some (.ref 0), some (.int x1), some (.int x2), some (.int s_22.1), some (.long s_22.2.1), none, some (.int s_22.2.2.1), some (.long (jabs (q_32.1.toInt64 - x2.toInt64))), none] 44 rfl (by decide) rfl <| s_iload_n 45 rfl rfl <| ?_
          rcases iteS e with ⟨g_34, e⟩ | ⟨g_34, e⟩
          · cases e
            exact s_if_lt_T 46 106 rfl (by decide) g_34 <| s_iload 51 rfl rfl <| s_istore_n [some (.ref 0), some (.int x1), some (.int x2), some (.int s_22.2.2.1), some (.long s_22.2.1), none, some (.int s_22.2.2.1), some (.long (jabs (q_32.1.toInt64 - x2.toInt64))), none] 52 rfl (by decide) rfl <| s_lload 53 rfl rfl <| s_lstore [some (.ref 0), some (.int x1), some (.int x2), some (.int s_22.2.2.1), some (.long (jabs (q_32.1.toInt64 - x2.toInt64))), none, some (.int s_22.2.2.1), some (.long (jabs (q_32.1.toInt64 - x2.toInt64))), none] 54 rfl (by decide) rfl <| s_iinc 1 [some (.ref 0), some (.int x1), some (.int x2), some (.int s_22.2.2.1), some (.long (jabs (q_32.1.toInt64 - x2.toInt64))), none, some (.int (s_22.2.2.1 + 1)), some (.long (jabs (q_32.1.toInt64 - x2.toInt64))), none] 55 rfl (by decide) rfl (by decide) rfl <| s_goto 56 42 rfl (by decide) <| s_fgt [false, false, false, false, false, false, false, true] rfl <| (hk_17 (s_22.2.2.1, jabs (q_32.1.toInt64 - x2.toInt64), (s_22.2.2.1 + 1), q_32.2) rfl)
          · refine s_if_lt_F 46 106 rfl (by decide) g_34 <| s_lload 47 rfl rfl <| s_lload 48 rfl rfl <| s_lcmp 49 rfl <| ?_
            rcases iteS e with ⟨g_35, e⟩ | ⟨g_35, e⟩
            · cases e
              exact s_if_ge_T 50 113 rfl (by decide) g_35 <| s_iinc 1 [some (.ref 0), some (.int x1), some (.int x2), some (.int s_22.1), some (.long s_22.2.1), none, some (.int (s_22.2.2.1 + 1)), some (.long (jabs (q_32.1.toInt64 - x2.toInt64))), none] 55 rfl (by decide) rfl (by decide) rfl <| s_goto 56 42 rfl (by decide) <| s_fgt [false, false, false, false, false, false, false, true] rfl <| (hk_17 (s_22.1, s_22.2.1, (s_22.2.2.1 + 1), q_32.2) rfl)
            · cases e
              exact s_if_ge_F 50 113 rfl (by decide) g_35 <| s_iload 51 rfl rfl <| s_istore_n [some (.ref 0), some (.int x1), some (.int x2), some (.int s_22.2.2.1), some (.long s_22.2.1), none, some (.int s_22.2.2.1), some (.long (jabs (q_32.1.toInt64 - x2.toInt64))), none] 52 rfl (by decide) rfl <| s_lload 53 rfl rfl <| s_lstore [some (.ref 0), some (.int x1), some (.int x2), some (.int s_22.2.2.1), some (.long (jabs (q_32.1.toInt64 - x2.toInt64))), none, some (.int s_22.2.2.1), some (.long (jabs (q_32.1.toInt64 - x2.toInt64))), none] 54 rfl (by decide) rfl <| s_iinc 1 [some (.ref 0), some (.int x1), some (.int x2), some (.int s_22.2.2.1), some (.long (jabs (q_32.1.toInt64 - x2.toInt64))), none, some (.int (s_22.2.2.1 + 1)), some (.long (jabs (q_32.1.toInt64 - x2.toInt64))), none] 55 rfl (by decide) rfl (by decide) rfl <| s_goto 56 42 rfl (by decide) <| s_fgt [false, false, false, false, false, false, false, true] rfl <| (hk_17 (s_22.2.2.1, jabs (q_32.1.toInt64 - x2.toInt64), (s_22.2.2.1 + 1), q_32.2) rfl)
    · obtain ⟨q_36, e_37, e⟩ := bndS e
      obtain ⟨rfl, rfl⟩ := some2 e
      exact s_if_ne_F 10 34 rfl (by decide) (b2i_F g_6) <| s_aload_n 11 rfl rfl <| s_ldc 12 rfl wc_X8_69 <| s_callV (b := 0) (ci := 8) 13 [.int (-1000001)] [] rfl ml_X8_70 yw_X8_tellFinding sh_0 rfl rfl (okX8_tellFinding (d + 49) _ _ q_36.1 q_36.2 e_37) rfl rfl (Nat.le_of_ble_eq_true rfl) <| s_iret 14 rfl
  · obtain ⟨q_38, e_39, e⟩ := bndS e
    obtain ⟨rfl, rfl⟩ := some2 e
    exact s_if_eq_T 5 27 rfl (by decide) (b2i_F g_3) <| s_aload_n 11 rfl rfl <| s_ldc 12 rfl wc_X8_69 <| s_callV (b := 0) (ci := 8) 13 [.int (-1000001)] [] rfl ml_X8_70 yw_X8_tellFinding sh_0 rfl rfl (okX8_tellFinding (d + 49) _ _ q_38.1 q_38.2 e_39) rfl rfl (Nat.le_of_ble_eq_true rfl) <| s_iret 14 rfl
def fX9_ask_b37 (x1 : Int32) (x2 : Int32) (c3 : Int32) (c4 : Int64) (c6 : Int32) (h : Sto) : Option ((Int32 × Int64 × Int32 × Sto) ⊕ (Int32 × Sto)) :=
  if (h 84 0) ≤ c6 then (some (.inr (c3, h))) else ((fX9_of c6 7 h).bind fun q_8 => if ¬ q_8 = 1 then ((fX9_scoreOf x1 c6 h).bind fun q_11 => (if 0 ≤ (lg_cmp (q_11.1.toInt64 - x2.toInt64) 0) then (some (q_11.1.toInt64 - x2.toInt64)) else (some (-(q_11.1.toInt64 - x2.toInt64)))).bind fun q_13 => if c3 < 0 then (some (.inl (c6, q_13, (c6 + 1), q_11.2))) else (if (lg_cmp q_13 c4) < 0 then (some (.inl (c6, q_13, (c6 + 1), q_11.2))) else (some (.inl (c3, c4, (c6 + 1), q_11.2))))) else (some (.inl (c3, c4, (c6 + 1), h))))
def fX9_ask (x1 : Int32) (x2 : Int32) (h : Sto) : Option (Int32 × Sto) :=
  (fX9_isText x1 h).bind fun q_1 => if q_1 = true then ((fX9_in x2.toInt64 (-9999) 9999 h).bind fun q_4 => if q_4 = true then ((lp (fun s => fX9_ask_b37 x1 x2 s.1 s.2.1 s.2.2.1 s.2.2.2) FUEL ((-1), 0, 0, h)).bind fun v_26 => if 0 ≤ v_26.1 then (some (v_26.1, v_26.2)) else ((fX9_finds (-1000004) v_26.2).bind fun q_29 => some (q_29.1, q_29.2))) else ((fX9_finds (-1000001) h).bind fun q_42 => some (q_42.1, q_42.2))) else ((fX9_finds (-1000001) h).bind fun q_44 => some (q_44.1, q_44.2))
set_option maxRecDepth 100000 in
set_option maxHeartbeats 4000000 in
theorem okX9_ask (d : Nat) (x1 : Int32) (x2 : Int32) (h : Sto) (qv : Int32) (qh : Sto) (e : fX9_ask x1 x2 h = some (qv, qh)) : Ok yX9_ask cX9_ask 9 (some .int) (d + 5) [.ref 83, .int x1, .int x2] h (some (.int qv)) qh := by
  refine Ok_of (lst := kX9_ask) (own := RX9) ⟨by decide, rfl⟩ ckX9_ask trivial (Nat.le_of_ble_eq_true rfl) ?_
  unfold fX9_ask at e
  change Ev kX9_ask RX9 9 (d + 5) nox 0 [some (.ref 83), some (.int x1), some (.int x2), none, none, none, none, none, none] [] h (some (.int qv)) qh
  obtain ⟨q_1, e_2, e⟩ := bndS e
  refine s_aload_n 0 rfl rfl <| s_iload_n 1 rfl rfl <| s_callV (b := 83) (ci := 9) 2 [.int x1] [] rfl ml_X9_223 yw_X9_isText sh_83 rfl rfl (okX9_isText (d + 3) _ _ _ e_2) rfl rfl (Nat.le_of_ble_eq_true rfl) <| ?_
  rcases iteS e with ⟨g_3, e⟩ | ⟨g_3, e⟩
  · obtain ⟨q_4, e_5, e⟩ := bndS e
    refine s_if_eq_F 3 22 rfl (by decide) (b2i_T g_3) <| s_iload_n 4 rfl rfl <| s_i2l 5 rfl <| s_ldc2_w 6 rfl wc_X9_240 <| s_ldc2_w 7 rfl wc_X9_242 <| s_callS 8 [.long x2.toInt64, .long (-9999), .long 9999] [] rfl ml_X9_48 yw_X9_in (okX9_in (d + 4) _ _ _ _ _ e_5) rfl rfl (Nat.le_of_ble_eq_true rfl) <| ?_
    rcases iteS e with ⟨g_6, e⟩ | ⟨g_6, e⟩
    · obtain ⟨y_18, e_19, e⟩ := bndS e
      have kx_22 : ∀ v_26 : (Int32 × Sto), v_26 = y_18 → Ev kX9_ask RX9 9 (d + 5) nox 121 [some (.ref 83), none, none, some (.int v_26.1), none, none, none, none, none] [] v_26.2 (some (.int qv)) qh := by
        intro v_26 hy
        subst hy
        refine s_iload_n 64 rfl rfl <| ?_
        rcases iteS e with ⟨g_28, e⟩ | ⟨g_28, e⟩
        · obtain ⟨rfl, rfl⟩ := some2 e
          exact s_if_ge_T 65 134 rfl (by decide) g_28 <| s_iload_n 70 rfl rfl <| s_iret 71 rfl
        · obtain ⟨q_29, e_30, e⟩ := bndS e
          obtain ⟨rfl, rfl⟩ := some2 e
          exact s_if_ge_F 65 134 rfl (by decide) g_28 <| s_aload_n 66 rfl rfl <| s_ldc 67 rfl wc_X9_122 <| s_callV (b := 83) (ci := 9) 68 [.int (-1000004)] [] rfl ml_X9_64 yw_X9_finds sh_83 rfl rfl (okX9_finds (d + 4) _ _ q_29.1 q_29.2 e_30) rfl rfl (Nat.le_of_ble_eq_true rfl) <| s_goto 69 135 rfl (by decide) <| s_iret 71 rfl
      refine s_if_ne_T 9 29 rfl (by decide) (b2i_T g_6) <| s_iconst (-1) 14 rfl (by decide) <| s_istore_n [some (.ref 83), some (.int x1), some (.int x2), some (.int (-1)), none, none, none, none, none] 15 rfl (by decide) rfl <| s_lconst 0 16 rfl (by decide) <| s_lstore [some (.ref 83), some (.int x1), some (.int x2), some (.int (-1)), some (.long 0), none, none, none, none] 17 rfl (by decide) rfl <| s_iconst 0 18 rfl (by decide) <| s_istore [some (.ref 83), some (.int x1), some (.int x2), some (.int (-1)), some (.long 0), none, some (.int 0), none, none] 19 rfl (by decide) rfl <| lpS (P := fun (s_25 : (Int32 × Int64 × Int32 × Sto)) => Ev kX9_ask RX9 9 (d + 5) nox 37 [some (.ref 83), some (.int x1), some (.int x2), some (.int s_25.1), some (.long s_25.2.1), none, some (.int s_25.2.2.1), none, none] [] s_25.2.2.2 (some (.int qv)) qh) ?_ FUEL _ e_19
      intro s_25 o_24 e hk_20 hx_21
      unfold fX9_ask_b37 at e
      refine s_iload 20 rfl rfl <| s_aload_n 21 rfl rfl <| s_getr 22 rfl fl_X9_9 sh_83 rfl <| s_iconst 0 23 rfl (by decide) <| s_iald 0 24 rfl sh_84 (by decide) (by decide) <| ?_
      rcases iteS e with ⟨g_31, e⟩ | ⟨g_31, e⟩
      · cases e
        exact s_icmp_ge_T 25 121 rfl (by decide) g_31 <| s_fgt [false, true, true, false, true, false, true] rfl <| (kx_22 (s_25.1, s_25.2.2.2) (hx_21 _ rfl))
      · obtain ⟨q_32, e_33, e⟩ := bndS e
        refine s_icmp_ge_F 25 121 rfl (by decide) g_31 <| s_aload_n 26 rfl rfl <| s_iload 27 rfl rfl <| s_bipush 7 28 rfl (by decide) <| s_callV (b := 83) (ci := 9) 29 [.int s_25.2.2.1, .int 7] [] rfl ml_X9_69 yw_X9_of sh_83 rfl rfl (okX9_of (d + 4) _ _ _ _ e_33) rfl rfl (Nat.le_of_ble_eq_true rfl) <| s_iconst 1 30 rfl (by decide) <| ?_
        rcases iteS e with ⟨g_34, e⟩ | ⟨g_34, e⟩
        · obtain ⟨q_35, e_36, e⟩ := bndS e
          obtain ⟨q_37, e1, e⟩ := bndS e
          have k_38 : Ev kX9_ask RX9 9 (d + 5) nox 91 [some (.ref 83), some (.int x1), some (.int x2), some (.int s_25.1), some (.long s_25.2.1), none, some (.int s_25.2.2.1), none, none] [.long q_37] q_35.2 (some (.int qv)) qh := by
            refine s_lstore [some (.ref 83), some (.int x1), some (.int x2), some (.int s_25.1), some (.long s_25.2.1), none, some (.int s_25.2.2.1), some (.long q_37), none] 50 rfl (by decide) rfl <| s_iload_n 51 rfl rfl <| ?_
            rcases iteS e with ⟨g_40, e⟩ | ⟨g_40, e⟩
            · cases e
              exact s_if_lt_T 52 108 rfl (by decide) g_40 <| s_iload 58 rfl rfl <| s_istore_n [some (.ref 83), some (.int x1), some (.int x2), some (.int s_25.2.2.1), some (.long s_25.2.1), none, some (.int s_25.2.2.1), some (.long q_37), none] 59 rfl (by decide) rfl <| s_lload 60 rfl rfl <| s_lstore [some (.ref 83), some (.int x1), some (.int x2), some (.int s_25.2.2.1), some (.long q_37), none, some (.int s_25.2.2.1), some (.long q_37), none] 61 rfl (by decide) rfl <| s_iinc 1 [some (.ref 83), some (.int x1), some (.int x2), some (.int s_25.2.2.1), some (.long q_37), none, some (.int (s_25.2.2.1 + 1)), some (.long q_37), none] 62 rfl (by decide) rfl (by decide) rfl <| s_goto 63 37 rfl (by decide) <| s_fgt [false, false, false, false, false, false, false, true] rfl <| (hk_20 (s_25.2.2.1, q_37, (s_25.2.2.1 + 1), q_35.2) rfl)
            · refine s_if_lt_F 52 108 rfl (by decide) g_40 <| s_lload 53 rfl rfl <| s_lload 54 rfl rfl <| s_lcmp 55 rfl <| ?_
              rcases iteS e with ⟨g_41, e⟩ | ⟨g_41, e⟩
              · cases e
                exact s_if_lt_T 56 108 rfl (by decide) g_41 <| s_iload 58 rfl rfl <| s_istore_n [some (.ref 83), some (.int x1), some (.int x2), some (.int s_25.2.2.1), some (.long s_25.2.1), none, some (.int s_25.2.2.1), some (.long q_37), none] 59 rfl (by decide) rfl <| s_lload 60 rfl rfl <| s_lstore [some (.ref 83), some (.int x1), some (.int x2), some (.int s_25.2.2.1), some (.long q_37), none, some (.int s_25.2.2.1), some (.long q_37), none] 61 rfl (by decide) rfl <| s_iinc 1 [some (.ref 83), some (.int x1), some (.int x2), some (.int s_25.2.2.1), some (.long q_37), none, some (.int (s_25.2.2.1 + 1)), some (.long q_37), none] 62 rfl (by decide) rfl (by decide) rfl <| s_goto 63 37 rfl (by decide) <| s_fgt [false, false, false, false, false, false, false, true] rfl <| (hk_20 (s_25.2.2.1, q_37, (s_25.2.2.1 + 1), q_35.2) rfl)
              · cases e
                exact s_if_lt_F 56 108 rfl (by decide) g_41 <| s_goto 57 115 rfl (by decide) <| s_iinc 1 [some (.ref 83), some (.int x1), some (.int x2), some (.int s_25.1), some (.long s_25.2.1), none, some (.int (s_25.2.2.1 + 1)), some (.long q_37), none] 62 rfl (by decide) rfl (by decide) rfl <| s_goto 63 37 rfl (by decide) <| s_fgt [false, false, false, false, false, false, false, true] rfl <| (hk_20 (s_25.1, s_25.2.1, (s_25.2.2.1 + 1), q_35.2) rfl)
          clear e
          have e := e1
          clear e1
          refine s_icmp_ne_T 31 63 rfl (by decide) g_34 <| s_aload_n 33 rfl rfl <| s_iload_n 34 rfl rfl <| s_iload 35 rfl rfl <| s_callV (b := 83) (ci := 9) 36 [.int x1, .int s_25.2.2.1] [] rfl ml_X9_226 yw_X9_scoreOf sh_83 rfl rfl (okX9_scoreOf d _ _ _ q_35.1 q_35.2 e_36) rfl rfl (Nat.le_of_ble_eq_true rfl) <| s_i2l 37 rfl <| s_iload_n 38 rfl rfl <| s_i2l 39 rfl <| s_lsub 40 rfl <| s_lstore [some (.ref 83), some (.int x1), some (.int x2), some (.int s_25.1), some (.long s_25.2.1), none, some (.int s_25.2.2.1), some (.long (q_35.1.toInt64 - x2.toInt64)), none] 41 rfl (by decide) rfl <| s_lload 42 rfl rfl <| s_lconst 0 43 rfl (by decide) <| s_lcmp 44 rfl <| ?_
          rcases iteS e with ⟨g_39, e⟩ | ⟨g_39, e⟩
          · cases e
            exact s_if_ge_T 45 89 rfl (by decide) g_39 <| s_lload 49 rfl rfl <| s_fgt [false, false, false, false, false, false, false, true] rfl <| k_38
          · cases e
            exact s_if_ge_F 45 89 rfl (by decide) g_39 <| s_lload 46 rfl rfl <| s_lneg 47 rfl <| s_goto 48 91 rfl (by decide) <| s_fgt [false, false, false, false, false, false, false, true] rfl <| k_38
        · cases e
          exact s_icmp_ne_F 31 63 rfl (by decide) (Decidable.not_not.mp g_34) <| s_goto 32 115 rfl (by decide) <| s_iinc 1 [some (.ref 83), some (.int x1), some (.int x2), some (.int s_25.1), some (.long s_25.2.1), none, some (.int (s_25.2.2.1 + 1)), none, none] 62 rfl (by decide) rfl (by decide) rfl <| s_goto 63 37 rfl (by decide) <| (hk_20 (s_25.1, s_25.2.1, (s_25.2.2.1 + 1), s_25.2.2.2) rfl)
    · obtain ⟨q_42, e_43, e⟩ := bndS e
      obtain ⟨rfl, rfl⟩ := some2 e
      exact s_if_ne_F 9 29 rfl (by decide) (b2i_F g_6) <| s_aload_n 10 rfl rfl <| s_ldc 11 rfl wc_X9_47 <| s_callV (b := 83) (ci := 9) 12 [.int (-1000001)] [] rfl ml_X9_64 yw_X9_finds sh_83 rfl rfl (okX9_finds (d + 4) _ _ q_42.1 q_42.2 e_43) rfl rfl (Nat.le_of_ble_eq_true rfl) <| s_iret 13 rfl
  · obtain ⟨q_44, e_45, e⟩ := bndS e
    obtain ⟨rfl, rfl⟩ := some2 e
    exact s_if_eq_T 3 22 rfl (by decide) (b2i_F g_3) <| s_aload_n 10 rfl rfl <| s_ldc 11 rfl wc_X9_47 <| s_callV (b := 83) (ci := 9) 12 [.int (-1000001)] [] rfl ml_X9_64 yw_X9_finds sh_83 rfl rfl (okX9_finds (d + 4) _ _ q_44.1 q_44.2 e_45) rfl rfl (Nat.le_of_ble_eq_true rfl) <| s_iret 13 rfl
def fX8_asked (x1 : Int32) (h : Sto) : Option (Int32 × Sto) :=
  (fX1_has x1 h).bind fun q_1 => if q_1 = true then ((fX8_hasBit (h 2 2) x1 h).bind fun q_4 => if q_4 = true then ((fX8_tellFinding (-1000005) h).bind fun q_7 => some (q_7.1, q_7.2)) else ((some (su h 2 2 ((h 2 2) ||| (jshl 1 x1)))).bind fun h_9 => (fJ6_bitCount_0f7a4 (h_9 2 2) h_9).bind fun q_10 => some (q_10, h_9))) else ((fX8_tellFinding (-1000001) h).bind fun q_12 => some (q_12.1, q_12.2))
set_option maxRecDepth 100000 in
set_option maxHeartbeats 4000000 in
theorem okX8_asked (d : Nat) (x1 : Int32) (h : Sto) (qv : Int32) (qh : Sto) (e : fX8_asked x1 h = some (qv, qh)) : Ok yX8_asked cX8_asked 3 (some .int) (d + 2) [.ref 0, .int x1] h (some (.int qv)) qh := by
  refine Ok_of (lst := kX8_asked) (own := RX8) ⟨by decide, rfl⟩ ckX8_asked trivial (Nat.le_of_ble_eq_true rfl) ?_
  unfold fX8_asked at e
  change Ev kX8_asked RX8 3 (d + 2) nox 0 [some (.ref 0), some (.int x1), none] [] h (some (.int qv)) qh
  obtain ⟨q_1, e_2, e⟩ := bndS e
  refine s_aload_n 0 rfl rfl <| s_getr 1 rfl fl_X8_12 sh_0 rfl <| s_getr 2 rfl fl_X8_74 sh_1 rfl <| s_astore_n [some (.ref 0), some (.int x1), some (.ref 2)] 3 rfl (by decide) rfl <| s_aload_n 4 rfl rfl <| s_iload_n 5 rfl rfl <| s_callV (b := 2) (ci := 1) 6 [.int x1] [] rfl ml_X8_88 yw_X1_has sh_2 rfl rfl (okX1_has d _ _ _ e_2) rfl rfl (Nat.le_of_ble_eq_true rfl) <| ?_
  rcases iteS e with ⟨g_3, e⟩ | ⟨g_3, e⟩
  · obtain ⟨q_4, e_5, e⟩ := bndS e
    refine s_if_ne_T 7 23 rfl (by decide) (b2i_T g_3) <| s_aload_n 12 rfl rfl <| s_geti 13 rfl fl_X8_219 sh_2 rfl <| s_iload_n 14 rfl rfl <| s_callS 15 [.int (h 2 2), .int x1] [] rfl ml_X8_95 yw_X8_hasBit (okX8_hasBit (d + 1) _ _ _ _ e_5) rfl rfl (Nat.le_of_ble_eq_true rfl) <| ?_
    rcases iteS e with ⟨g_6, e⟩ | ⟨g_6, e⟩
    · obtain ⟨q_7, e_8, e⟩ := bndS e
      obtain ⟨rfl, rfl⟩ := some2 e
      exact s_if_eq_F 16 41 rfl (by decide) (b2i_T g_6) <| s_aload_n 17 rfl rfl <| s_ldc 18 rfl wc_X8_143 <| s_callV (b := 0) (ci := 8) 19 [.int (-1000005)] [] rfl ml_X8_70 yw_X8_tellFinding sh_0 rfl rfl (okX8_tellFinding d _ _ q_7.1 q_7.2 e_8) rfl rfl (Nat.le_of_ble_eq_true rfl) <| s_iret 20 rfl
    · obtain ⟨h_9, eh_9, e⟩ := bndS e
      obtain ⟨q_10, e_11, e⟩ := bndS e
      obtain ⟨rfl, rfl⟩ := some2 e
      exact s_if_eq_T 16 41 rfl (by decide) (b2i_F g_6) <| s_aload_n 21 rfl rfl <| s_dup 22 rfl rfl <| s_geti 23 rfl fl_X8_219 sh_2 rfl <| s_iconst 1 24 rfl (by decide) <| s_iload_n 25 rfl rfl <| s_ishl 26 rfl <| s_ior 27 rfl <| s_puti 28 rfl fl_X8_219 sh_2 rfl <| s_nmH (Option.some.inj eh_9) <| s_aload_n 29 rfl rfl <| s_geti 30 rfl fl_X8_219 sh_2 rfl <| s_callS 31 [.int (h_9 2 2)] [] rfl ml_X8_117 yw_J6_bitCount_0f7a4 (okJ6_bitCount_0f7a4 (d + 1) _ _ _ e_11) rfl rfl (Nat.le_of_ble_eq_true rfl) <| s_iret 32 rfl
  · obtain ⟨q_12, e_13, e⟩ := bndS e
    obtain ⟨rfl, rfl⟩ := some2 e
    exact s_if_ne_F 7 23 rfl (by decide) (b2i_F g_3) <| s_aload_n 8 rfl rfl <| s_ldc 9 rfl wc_X8_69 <| s_callV (b := 0) (ci := 8) 10 [.int (-1000001)] [] rfl ml_X8_70 yw_X8_tellFinding sh_0 rfl rfl (okX8_tellFinding d _ _ q_12.1 q_12.2 e_13) rfl rfl (Nat.le_of_ble_eq_true rfl) <| s_iret 11 rfl
def fX9_howMany_b4 (x1 : Int32) (h : Sto) (c2 : Int32) (c3 : Int32) : Option ((Int32 × Int32) ⊕ Int32) :=
  if (h 84 0) ≤ c3 then (some (.inr c2)) else ((fX9_of c3 x1 h).bind fun q_2 => some (.inl ((c2 + q_2), (c3 + 1))))
def fX9_howMany (x1 : Int32) (h : Sto) : Option Int32 :=
  (lp (fun s => fX9_howMany_b4 x1 h s.1 s.2) FUEL (0, 0)).bind fun v_12 => some v_12
set_option maxRecDepth 100000 in
set_option maxHeartbeats 4000000 in
theorem okX9_howMany (d : Nat) (x1 : Int32) (h : Sto) (q : Int32) (e : fX9_howMany x1 h = some q) : Ok yX9_howMany cX9_howMany 4 (some .int) (d + 1) [.ref 83, .int x1] h (some (.int q)) h := by
  refine Ok_of (lst := kX9_howMany) (own := RX9) ⟨by decide, rfl⟩ ckX9_howMany trivial (Nat.le_of_ble_eq_true rfl) ?_
  unfold fX9_howMany at e
  change Ev kX9_howMany RX9 4 (d + 1) nox 0 [some (.ref 83), some (.int x1), none, none] [] h (some (.int q)) h
  obtain ⟨y_4, e_5, e⟩ := bndS e
  have kx_8 : ∀ v_12 : Int32, v_12 = y_4 → Ev kX9_howMany RX9 4 (d + 1) nox 29 [none, none, some (.int v_12), none] [] h (some (.int q)) h := by
    intro v_12 hy
    subst hy
    obtain rfl := Option.some.inj e
    exact s_iload_n 19 rfl rfl <| s_iret 20 rfl
  refine s_iconst 0 0 rfl (by decide) <| s_istore_n [some (.ref 83), some (.int x1), some (.int 0), none] 1 rfl (by decide) rfl <| s_iconst 0 2 rfl (by decide) <| s_istore_n [some (.ref 83), some (.int x1), some (.int 0), some (.int 0)] 3 rfl (by decide) rfl <| lpS (P := fun (s_11 : (Int32 × Int32)) => Ev kX9_howMany RX9 4 (d + 1) nox 4 [some (.ref 83), some (.int x1), some (.int s_11.1), some (.int s_11.2)] [] h (some (.int q)) h) ?_ FUEL _ e_5
  intro s_11 o_10 e hk_6 hx_7
  unfold fX9_howMany_b4 at e
  refine s_iload_n 4 rfl rfl <| s_aload_n 5 rfl rfl <| s_getr 6 rfl fl_X9_9 sh_83 rfl <| s_iconst 0 7 rfl (by decide) <| s_iald 0 8 rfl sh_84 (by decide) (by decide) <| ?_
  rcases iteS e with ⟨g_14, e⟩ | ⟨g_14, e⟩
  · cases e
    exact s_icmp_ge_T 9 29 rfl (by decide) g_14 <| s_fgt [true, true, false, true] rfl <| (kx_8 s_11.1 (hx_7 _ rfl))
  · obtain ⟨q_15, e_16, e⟩ := bndS e
    cases e
    exact s_icmp_ge_F 9 29 rfl (by decide) g_14 <| s_iload_n 10 rfl rfl <| s_aload_n 11 rfl rfl <| s_iload_n 12 rfl rfl <| s_iload_n 13 rfl rfl <| s_callV (b := 83) (ci := 9) 14 [.int s_11.2, .int x1] [.int s_11.1] rfl ml_X9_69 yw_X9_of sh_83 rfl rfl (okX9_of d _ _ _ _ e_16) rfl rfl (Nat.le_of_ble_eq_true rfl) <| s_iadd 15 rfl <| s_istore_n [some (.ref 83), some (.int x1), some (.int (s_11.1 + q_15)), some (.int s_11.2)] 16 rfl (by decide) rfl <| s_iinc 1 [some (.ref 83), some (.int x1), some (.int (s_11.1 + q_15)), some (.int (s_11.2 + 1))] 17 rfl (by decide) rfl (by decide) rfl <| s_goto 18 4 rfl (by decide) <| (hk_6 ((s_11.1 + q_15), (s_11.2 + 1)) rfl)
def fX9_asked (x1 : Int32) (h : Sto) : Option (Int32 × Sto) :=
  (fX9_isName x1 h).bind fun q_1 => if q_1 = true then ((fX9_becomes ((6 + (8 * x1)) + 7) 1 h).bind fun q_4 => if ¬ q_4.1 = 1 then ((fX9_howMany 7 q_4.2).bind fun q_7 => some (q_7, q_4.2)) else ((fX9_finds (-1000005) q_4.2).bind fun q_9 => some (q_9.1, q_9.2))) else ((fX9_finds (-1000001) h).bind fun q_11 => some (q_11.1, q_11.2))
set_option maxRecDepth 100000 in
set_option maxHeartbeats 4000000 in
theorem okX9_asked (d : Nat) (x1 : Int32) (h : Sto) (qv : Int32) (qh : Sto) (e : fX9_asked x1 h = some (qv, qh)) : Ok yX9_asked cX9_asked 2 (some .int) (d + 2) [.ref 83, .int x1] h (some (.int qv)) qh := by
  refine Ok_of (lst := kX9_asked) (own := RX9) ⟨by decide, rfl⟩ ckX9_asked trivial (Nat.le_of_ble_eq_true rfl) ?_
  unfold fX9_asked at e
  change Ev kX9_asked RX9 2 (d + 2) nox 0 [some (.ref 83), some (.int x1)] [] h (some (.int qv)) qh
  obtain ⟨q_1, e_2, e⟩ := bndS e
  refine s_aload_n 0 rfl rfl <| s_iload_n 1 rfl rfl <| s_callV (b := 83) (ci := 9) 2 [.int x1] [] rfl ml_X9_73 yw_X9_isName sh_83 rfl rfl (okX9_isName d _ _ _ e_2) rfl rfl (Nat.le_of_ble_eq_true rfl) <| ?_
  rcases iteS e with ⟨g_3, e⟩ | ⟨g_3, e⟩
  · obtain ⟨q_4, e_5, e⟩ := bndS e
    refine s_if_ne_T 3 15 rfl (by decide) (b2i_T g_3) <| s_aload_n 8 rfl rfl <| s_bipush 6 9 rfl (by decide) <| s_bipush 8 10 rfl (by decide) <| s_iload_n 11 rfl rfl <| s_imul 12 rfl <| s_iadd 13 rfl <| s_bipush 7 14 rfl (by decide) <| s_iadd 15 rfl <| s_iconst 1 16 rfl (by decide) <| s_callV (b := 83) (ci := 9) 17 [.int ((6 + (8 * x1)) + 7), .int 1] [] rfl ml_X9_91 yw_X9_becomes sh_83 rfl rfl (okX9_becomes (d + 1) _ _ _ q_4.1 q_4.2 e_5) rfl rfl (Nat.le_of_ble_eq_true rfl) <| s_iconst 1 18 rfl (by decide) <| ?_
    rcases iteS e with ⟨g_6, e⟩ | ⟨g_6, e⟩
    · obtain ⟨q_7, e_8, e⟩ := bndS e
      obtain ⟨rfl, rfl⟩ := some2 e
      exact s_icmp_ne_T 19 41 rfl (by decide) g_6 <| s_aload_n 24 rfl rfl <| s_bipush 7 25 rfl (by decide) <| s_callV (b := 83) (ci := 9) 26 [.int 7] [] rfl ml_X9_244 yw_X9_howMany sh_83 rfl rfl (okX9_howMany d _ _ _ e_8) rfl rfl (Nat.le_of_ble_eq_true rfl) <| s_iret 27 rfl
    · obtain ⟨q_9, e_10, e⟩ := bndS e
      obtain ⟨rfl, rfl⟩ := some2 e
      exact s_icmp_ne_F 19 41 rfl (by decide) (Decidable.not_not.mp g_6) <| s_aload_n 20 rfl rfl <| s_ldc 21 rfl wc_X9_126 <| s_callV (b := 83) (ci := 9) 22 [.int (-1000005)] [] rfl ml_X9_64 yw_X9_finds sh_83 rfl rfl (okX9_finds (d + 1) _ _ q_9.1 q_9.2 e_10) rfl rfl (Nat.le_of_ble_eq_true rfl) <| s_iret 23 rfl
  · obtain ⟨q_11, e_12, e⟩ := bndS e
    obtain ⟨rfl, rfl⟩ := some2 e
    exact s_if_ne_F 3 15 rfl (by decide) (b2i_F g_3) <| s_aload_n 4 rfl rfl <| s_ldc 5 rfl wc_X9_47 <| s_callV (b := 83) (ci := 9) 6 [.int (-1000001)] [] rfl ml_X9_64 yw_X9_finds sh_83 rfl rfl (okX9_finds (d + 1) _ _ q_11.1 q_11.2 e_12) rfl rfl (Nat.le_of_ble_eq_true rfl) <| s_iret 7 rfl
def fX8_areTwoNames (x1 : Int32) (x2 : Int32) (h : Sto) : Option Bool :=
  (fX1_has x1 h).bind fun q_1 => if q_1 = true then ((fX1_has x2 h).bind fun q_4 => if q_4 = true then (if x1 = x2 then (some false) else (some true)) else (some false)) else (some false)
set_option maxRecDepth 100000 in
set_option maxHeartbeats 4000000 in
theorem okX8_areTwoNames (d : Nat) (x1 : Int32) (x2 : Int32) (h : Sto) (q : Bool) (e : fX8_areTwoNames x1 x2 h = some q) : Ok yX8_areTwoNames cX8_areTwoNames 3 (some .boolean) (d + 2) [.ref 0, .int x1, .int x2] h (some (.int (b2i q))) h := by
  refine Ok_of (lst := kX8_areTwoNames) (own := RX8) ⟨by decide, rfl⟩ ckX8_areTwoNames (b2i_01 _) (Nat.le_of_ble_eq_true rfl) ?_
  unfold fX8_areTwoNames at e
  change Ev kX8_areTwoNames RX8 3 (d + 2) nox 0 [some (.ref 0), some (.int x1), some (.int x2)] [] h (some (.int (b2i q))) h
  obtain ⟨q_1, e_2, e⟩ := bndS e
  refine s_aload_n 0 rfl rfl <| s_getr 1 rfl fl_X8_12 sh_0 rfl <| s_getr 2 rfl fl_X8_74 sh_1 rfl <| s_iload_n 3 rfl rfl <| s_callV (b := 2) (ci := 1) 4 [.int x1] [] rfl ml_X8_88 yw_X1_has sh_2 rfl rfl (okX1_has d _ _ _ e_2) rfl rfl (Nat.le_of_ble_eq_true rfl) <| ?_
  rcases iteS e with ⟨g_3, e⟩ | ⟨g_3, e⟩
  · obtain ⟨q_4, e_5, e⟩ := bndS e
    refine s_if_eq_F 5 37 rfl (by decide) (b2i_T g_3) <| s_aload_n 6 rfl rfl <| s_getr 7 rfl fl_X8_12 sh_0 rfl <| s_getr 8 rfl fl_X8_74 sh_1 rfl <| s_iload_n 9 rfl rfl <| s_callV (b := 2) (ci := 1) 10 [.int x2] [] rfl ml_X8_88 yw_X1_has sh_2 rfl rfl (okX1_has d _ _ _ e_5) rfl rfl (Nat.le_of_ble_eq_true rfl) <| ?_
    rcases iteS e with ⟨g_6, e⟩ | ⟨g_6, e⟩
    · refine s_if_eq_F 11 37 rfl (by decide) (b2i_T g_6) <| s_iload_n 12 rfl rfl <| s_iload_n 13 rfl rfl <| ?_
      rcases iteS e with ⟨g_7, e⟩ | ⟨g_7, e⟩
      · obtain rfl := Option.some.inj e
        exact s_icmp_eq_T 14 37 rfl (by decide) g_7 <| s_iconst 0 17 rfl (by decide) <| s_iret 18 rfl
      · obtain rfl := Option.some.inj e
        exact s_icmp_eq_F 14 37 rfl (by decide) g_7 <| s_iconst 1 15 rfl (by decide) <| s_goto 16 38 rfl (by decide) <| s_iret 18 rfl
    · obtain rfl := Option.some.inj e
      exact s_if_eq_T 11 37 rfl (by decide) (b2i_F g_6) <| s_iconst 0 17 rfl (by decide) <| s_iret 18 rfl
  · obtain rfl := Option.some.inj e
    exact s_if_eq_T 5 37 rfl (by decide) (b2i_F g_3) <| s_iconst 0 17 rfl (by decide) <| s_iret 18 rfl
def fX8_isSpan (x0 : Int32) (h : Sto) : Option Bool :=
  (fX8_isWithin x0 0 99 h).bind fun q_1 => some q_1
set_option maxRecDepth 100000 in
set_option maxHeartbeats 4000000 in
theorem okX8_isSpan (d : Nat) (x0 : Int32) (h : Sto) (q : Bool) (e : fX8_isSpan x0 h = some q) : Ok yX8_isSpan cX8_isSpan 1 (some .boolean) (d + 1) [.int x0] h (some (.int (b2i q))) h := by
  refine Ok_of (lst := kX8_isSpan) (own := RX8) ⟨by decide, rfl⟩ ckX8_isSpan (b2i_01 _) (Nat.le_of_ble_eq_true rfl) ?_
  unfold fX8_isSpan at e
  change Ev kX8_isSpan RX8 1 (d + 1) nox 0 [some (.int x0)] [] h (some (.int (b2i q))) h
  obtain ⟨q_1, e_2, e⟩ := bndS e
  obtain rfl := Option.some.inj e
  exact s_iload_n 0 rfl rfl <| s_iconst 0 1 rfl (by decide) <| s_bipush 99 2 rfl (by decide) <| s_callS 3 [.int x0, .int 0, .int 99] [] rfl ml_X8_65 yw_X8_isWithin (okX8_isWithin d _ _ _ _ _ e_2) rfl rfl (Nat.le_of_ble_eq_true rfl) <| s_iret 4 rfl
def fX0_speakersNear (x1 : Int32) (x2 : Int32) (h : Sto) : Option Int32 :=
  grd (inb x1 200) <| grd (inb x1 200) <| (fX0_speakersBetween ((h 11 (Int32.toNatClampNeg x1)) - x2) ((h 11 (Int32.toNatClampNeg x1)) + x2) h).bind fun q_3 => some q_3
set_option maxRecDepth 100000 in
set_option maxHeartbeats 4000000 in
theorem okX0_speakersNear (d : Nat) (x1 : Int32) (x2 : Int32) (h : Sto) (q : Int32) (e : fX0_speakersNear x1 x2 h = some q) : Ok yX0_speakersNear cX0_speakersNear 3 (some .int) (d + 2) [.ref 10, .int x1, .int x2] h (some (.int q)) h := by
  refine Ok_of (lst := kX0_speakersNear) (own := RX0) ⟨by decide, rfl⟩ ckX0_speakersNear trivial (Nat.le_of_ble_eq_true rfl) ?_
  unfold fX0_speakersNear at e
  change Ev kX0_speakersNear RX0 3 (d + 2) nox 0 [some (.ref 10), some (.int x1), some (.int x2)] [] h (some (.int q)) h
  obtain ⟨g_1, e⟩ := grdS e
  obtain ⟨g_2, e⟩ := grdS e
  obtain ⟨q_3, e_4, e⟩ := bndS e
  obtain rfl := Option.some.inj e
  exact s_aload_n 0 rfl rfl <| s_aload_n 1 rfl rfl <| s_getr 2 rfl fl_X0_9 sh_10 rfl <| s_iload_n 3 rfl rfl <| s_iald (Int32.toNatClampNeg x1) 4 rfl sh_11 g_1 rfl <| s_iload_n 5 rfl rfl <| s_isub 6 rfl <| s_aload_n 7 rfl rfl <| s_getr 8 rfl fl_X0_9 sh_10 rfl <| s_iload_n 9 rfl rfl <| s_iald (Int32.toNatClampNeg x1) 10 rfl sh_11 g_2 rfl <| s_iload_n 11 rfl rfl <| s_iadd 12 rfl <| s_callV (b := 10) (ci := 0) 13 [.int ((h 11 (Int32.toNatClampNeg x1)) - x2), .int ((h 11 (Int32.toNatClampNeg x1)) + x2)] [] rfl ml_X0_57 yw_X0_speakersBetween sh_10 rfl rfl (okX0_speakersBetween d _ _ _ _ e_4) rfl rfl (Nat.le_of_ble_eq_true rfl) <| s_iret 14 rfl
def fX0_countTogether_b6 (x1 : Int32) (x2 : Int32) (x3 : Int32) (h : Sto) (c4 : Int32) (c5 : Int32) : Option ((Int32 × Int32) ⊕ Int32) :=
  if (h 10 1) ≤ c5 then (some (.inr c4)) else (grd (inb c5 200) <| (if ¬ (h 12 (Int32.toNatClampNeg c5)) = x1 then (some false) else ((fX0_speakersNear c5 x3 h).bind fun q_6 => (fX8_hasBit q_6 x2 h).bind fun q_8 => if q_8 = true then (some true) else (some false))).bind fun q_3 => (fX8_asInt (b2i q_3) h).bind fun q_11 => some (.inl ((c4 + q_11), (c5 + 1))))
def fX0_countTogether (x1 : Int32) (x2 : Int32) (x3 : Int32) (h : Sto) : Option Int32 :=
  (lp (fun s => fX0_countTogether_b6 x1 x2 x3 h s.1 s.2) FUEL (0, 0)).bind fun v_21 => some v_21
set_option maxRecDepth 100000 in
set_option maxHeartbeats 4000000 in
theorem okX0_countTogether (d : Nat) (x1 : Int32) (x2 : Int32) (x3 : Int32) (h : Sto) (q : Int32) (e : fX0_countTogether x1 x2 x3 h = some q) : Ok yX0_countTogether cX0_countTogether 6 (some .int) (d + 3) [.ref 10, .int x1, .int x2, .int x3] h (some (.int q)) h := by
  refine Ok_of (lst := kX0_countTogether) (own := RX0) ⟨by decide, rfl⟩ ckX0_countTogether trivial (Nat.le_of_ble_eq_true rfl) ?_
  unfold fX0_countTogether at e
  change Ev kX0_countTogether RX0 6 (d + 3) nox 0 [some (.ref 10), some (.int x1), some (.int x2), some (.int x3), none, none] [] h (some (.int q)) h
  obtain ⟨y_13, e_14, e⟩ := bndS e
  have kx_17 : ∀ v_21 : Int32, v_21 = y_13 → Ev kX0_countTogether RX0 6 (d + 3) nox 59 [none, none, none, none, some (.int v_21), none] [] h (some (.int q)) h := by
    intro v_21 hy
    subst hy
    obtain rfl := Option.some.inj e
    exact s_iload 30 rfl rfl <| s_iret 31 rfl
  refine s_iconst 0 0 rfl (by decide) <| s_istore [some (.ref 10), some (.int x1), some (.int x2), some (.int x3), some (.int 0), none] 1 rfl (by decide) rfl <| s_iconst 0 2 rfl (by decide) <| s_istore [some (.ref 10), some (.int x1), some (.int x2), some (.int x3), some (.int 0), some (.int 0)] 3 rfl (by decide) rfl <| lpS (P := fun (s_20 : (Int32 × Int32)) => Ev kX0_countTogether RX0 6 (d + 3) nox 6 [some (.ref 10), some (.int x1), some (.int x2), some (.int x3), some (.int s_20.1), some (.int s_20.2)] [] h (some (.int q)) h) ?_ FUEL _ e_14
  intro s_20 o_19 e hk_15 hx_16
  unfold fX0_countTogether_b6 at e
  refine s_iload 4 rfl rfl <| s_aload_n 5 rfl rfl <| s_geti 6 rfl fl_X0_28 sh_10 rfl <| ?_
  rcases iteS e with ⟨g_23, e⟩ | ⟨g_23, e⟩
  · cases e
    exact s_icmp_ge_T 7 59 rfl (by decide) g_23 <| s_fgt [true, true, true, true, false, true] rfl <| (kx_17 s_20.1 (hx_16 _ rfl))
  · obtain ⟨g_24, e⟩ := grdS e
    obtain ⟨q_25, e1, e⟩ := bndS e
    have k_26 : Ev kX0_countTogether RX0 6 (d + 3) nox 47 [some (.ref 10), some (.int x1), some (.int x2), some (.int x3), none, some (.int s_20.2)] [.int (b2i q_25), .int s_20.1] h (some (.int q)) h := by
      obtain ⟨q_33, e_34, e⟩ := bndS e
      cases e
      exact s_callSN 25 [.int (b2i q_25)] [.int s_20.1] rfl ml_X0_43 yw_X8_asInt (okX8_asInt (d + 2) _ _ _ e_34) rfl rfl (Nat.le_of_ble_eq_true rfl) <| s_iadd 26 rfl <| s_istore [some (.ref 10), some (.int x1), some (.int x2), some (.int x3), some (.int (s_20.1 + q_33)), some (.int s_20.2)] 27 rfl (by decide) rfl <| s_iinc 1 [some (.ref 10), some (.int x1), some (.int x2), some (.int x3), some (.int (s_20.1 + q_33)), some (.int (s_20.2 + 1))] 28 rfl (by decide) rfl (by decide) rfl <| s_goto 29 6 rfl (by decide) <| (hk_15 ((s_20.1 + q_33), (s_20.2 + 1)) rfl)
    clear e
    have e := e1
    clear e1
    refine s_icmp_ge_F 7 59 rfl (by decide) g_23 <| s_iload 8 rfl rfl <| s_aload_n 9 rfl rfl <| s_getr 10 rfl fl_X0_15 sh_10 rfl <| s_iload 11 rfl rfl <| s_iald (Int32.toNatClampNeg s_20.2) 12 rfl sh_12 g_24 rfl <| s_iload_n 13 rfl rfl <| ?_
    rcases iteS e with ⟨g_27, e⟩ | ⟨g_27, e⟩
    · cases e
      exact s_icmp_ne_T 14 46 rfl (by decide) g_27 <| s_iconst 0 24 rfl (by decide) <| s_fgt [false, false, false, false, true] rfl <| k_26
    · obtain ⟨q_28, e_29, e⟩ := bndS e
      obtain ⟨q_30, e_31, e⟩ := bndS e
      refine s_icmp_ne_F 14 46 rfl (by decide) (Decidable.not_not.mp g_27) <| s_aload_n 15 rfl rfl <| s_iload 16 rfl rfl <| s_iload_n 17 rfl rfl <| s_callV (b := 10) (ci := 0) 18 [.int s_20.2, .int x3] [.int s_20.1] rfl ml_X0_61 yw_X0_speakersNear sh_10 rfl rfl (okX0_speakersNear d _ _ _ _ e_29) rfl rfl (Nat.le_of_ble_eq_true rfl) <| s_iload_n 19 rfl rfl <| s_callSN 20 [.int q_28, .int x2] [.int s_20.1] rfl ml_X0_50 yw_X8_hasBit (okX8_hasBit (d + 2) _ _ _ _ e_31) rfl rfl (Nat.le_of_ble_eq_true rfl) <| ?_
      rcases iteS e with ⟨g_32, e⟩ | ⟨g_32, e⟩
      · cases e
        exact s_if_eq_F 21 46 rfl (by decide) (b2i_T g_32) <| s_iconst 1 22 rfl (by decide) <| s_goto 23 47 rfl (by decide) <| s_fgt [false, false, false, false, true] rfl <| k_26
      · cases e
        exact s_if_eq_T 21 46 rfl (by decide) (b2i_F g_32) <| s_iconst 0 24 rfl (by decide) <| s_fgt [false, false, false, false, true] rfl <| k_26
def fX8_together (x1 : Int32) (x2 : Int32) (x3 : Int32) (h : Sto) : Option (Int32 × Sto) :=
  (fX8_areTwoNames x1 x2 h).bind fun q_1 => if q_1 = true then ((fX8_isSpan x3 h).bind fun q_4 => if q_4 = true then ((fX0_countTogether x1 x2 x3 h).bind fun q_7 => some (q_7, h)) else ((fX8_tellFinding (-1000001) h).bind fun q_9 => some (q_9.1, q_9.2))) else ((fX8_tellFinding (-1000001) h).bind fun q_11 => some (q_11.1, q_11.2))
set_option maxRecDepth 100000 in
set_option maxHeartbeats 4000000 in
theorem okX8_together (d : Nat) (x1 : Int32) (x2 : Int32) (x3 : Int32) (h : Sto) (qv : Int32) (qh : Sto) (e : fX8_together x1 x2 x3 h = some (qv, qh)) : Ok yX8_together cX8_together 4 (some .int) (d + 4) [.ref 0, .int x1, .int x2, .int x3] h (some (.int qv)) qh := by
  refine Ok_of (lst := kX8_together) (own := RX8) ⟨by decide, rfl⟩ ckX8_together trivial (Nat.le_of_ble_eq_true rfl) ?_
  unfold fX8_together at e
  change Ev kX8_together RX8 4 (d + 4) nox 0 [some (.ref 0), some (.int x1), some (.int x2), some (.int x3)] [] h (some (.int qv)) qh
  obtain ⟨q_1, e_2, e⟩ := bndS e
  refine s_aload_n 0 rfl rfl <| s_iload_n 1 rfl rfl <| s_iload_n 2 rfl rfl <| s_callV (b := 0) (ci := 8) 3 [.int x1, .int x2] [] rfl ml_X8_226 yw_X8_areTwoNames sh_0 rfl rfl (okX8_areTwoNames (d + 1) _ _ _ _ e_2) rfl rfl (Nat.le_of_ble_eq_true rfl) <| ?_
  rcases iteS e with ⟨g_3, e⟩ | ⟨g_3, e⟩
  · obtain ⟨q_4, e_5, e⟩ := bndS e
    refine s_if_eq_F 4 16 rfl (by decide) (b2i_T g_3) <| s_iload_n 5 rfl rfl <| s_callS 6 [.int x3] [] rfl ml_X8_229 yw_X8_isSpan (okX8_isSpan (d + 2) _ _ _ e_5) rfl rfl (Nat.le_of_ble_eq_true rfl) <| ?_
    rcases iteS e with ⟨g_6, e⟩ | ⟨g_6, e⟩
    · obtain ⟨q_7, e_8, e⟩ := bndS e
      obtain ⟨rfl, rfl⟩ := some2 e
      exact s_if_ne_T 7 23 rfl (by decide) (b2i_T g_6) <| s_aload_n 12 rfl rfl <| s_getr 13 rfl fl_X8_12 sh_0 rfl <| s_getr 14 rfl fl_X8_134 sh_1 rfl <| s_iload_n 15 rfl rfl <| s_iload_n 16 rfl rfl <| s_iload_n 17 rfl rfl <| s_callV (b := 10) (ci := 0) 18 [.int x1, .int x2, .int x3] [] rfl ml_X8_232 yw_X0_countTogether sh_10 rfl rfl (okX0_countTogether d _ _ _ _ _ e_8) rfl rfl (Nat.le_of_ble_eq_true rfl) <| s_iret 19 rfl
    · obtain ⟨q_9, e_10, e⟩ := bndS e
      obtain ⟨rfl, rfl⟩ := some2 e
      exact s_if_ne_F 7 23 rfl (by decide) (b2i_F g_6) <| s_aload_n 8 rfl rfl <| s_ldc 9 rfl wc_X8_69 <| s_callV (b := 0) (ci := 8) 10 [.int (-1000001)] [] rfl ml_X8_70 yw_X8_tellFinding sh_0 rfl rfl (okX8_tellFinding (d + 2) _ _ q_9.1 q_9.2 e_10) rfl rfl (Nat.le_of_ble_eq_true rfl) <| s_iret 11 rfl
  · obtain ⟨q_11, e_12, e⟩ := bndS e
    obtain ⟨rfl, rfl⟩ := some2 e
    exact s_if_eq_T 4 16 rfl (by decide) (b2i_F g_3) <| s_aload_n 8 rfl rfl <| s_ldc 9 rfl wc_X8_69 <| s_callV (b := 0) (ci := 8) 10 [.int (-1000001)] [] rfl ml_X8_70 yw_X8_tellFinding sh_0 rfl rfl (okX8_tellFinding (d + 2) _ _ q_11.1 q_11.2 e_12) rfl rfl (Nat.le_of_ble_eq_true rfl) <| s_iret 11 rfl
def fX9_areTwo (x1 : Int32) (x2 : Int32) (h : Sto) : Option Bool :=
  (fX9_isName x1 h).bind fun q_1 => if q_1 = true then ((fX9_isName x2 h).bind fun q_4 => if q_4 = true then (if x1 = x2 then (some false) else (some true)) else (some false)) else (some false)
set_option maxRecDepth 100000 in
set_option maxHeartbeats 4000000 in
theorem okX9_areTwo (d : Nat) (x1 : Int32) (x2 : Int32) (h : Sto) (q : Bool) (e : fX9_areTwo x1 x2 h = some q) : Ok yX9_areTwo cX9_areTwo 3 (some .boolean) (d + 2) [.ref 83, .int x1, .int x2] h (some (.int (b2i q))) h := by
  refine Ok_of (lst := kX9_areTwo) (own := RX9) ⟨by decide, rfl⟩ ckX9_areTwo (b2i_01 _) (Nat.le_of_ble_eq_true rfl) ?_
  unfold fX9_areTwo at e
  change Ev kX9_areTwo RX9 3 (d + 2) nox 0 [some (.ref 83), some (.int x1), some (.int x2)] [] h (some (.int (b2i q))) h
  obtain ⟨q_1, e_2, e⟩ := bndS e
  refine s_aload_n 0 rfl rfl <| s_iload_n 1 rfl rfl <| s_callV (b := 83) (ci := 9) 2 [.int x1] [] rfl ml_X9_73 yw_X9_isName sh_83 rfl rfl (okX9_isName d _ _ _ e_2) rfl rfl (Nat.le_of_ble_eq_true rfl) <| ?_
  rcases iteS e with ⟨g_3, e⟩ | ⟨g_3, e⟩
  · obtain ⟨q_4, e_5, e⟩ := bndS e
    refine s_if_eq_F 3 25 rfl (by decide) (b2i_T g_3) <| s_aload_n 4 rfl rfl <| s_iload_n 5 rfl rfl <| s_callV (b := 83) (ci := 9) 6 [.int x2] [] rfl ml_X9_73 yw_X9_isName sh_83 rfl rfl (okX9_isName d _ _ _ e_5) rfl rfl (Nat.le_of_ble_eq_true rfl) <| ?_
    rcases iteS e with ⟨g_6, e⟩ | ⟨g_6, e⟩
    · refine s_if_eq_F 7 25 rfl (by decide) (b2i_T g_6) <| s_iload_n 8 rfl rfl <| s_iload_n 9 rfl rfl <| ?_
      rcases iteS e with ⟨g_7, e⟩ | ⟨g_7, e⟩
      · obtain rfl := Option.some.inj e
        exact s_icmp_eq_T 10 25 rfl (by decide) g_7 <| s_iconst 0 13 rfl (by decide) <| s_iret 14 rfl
      · obtain rfl := Option.some.inj e
        exact s_icmp_eq_F 10 25 rfl (by decide) g_7 <| s_iconst 1 11 rfl (by decide) <| s_goto 12 26 rfl (by decide) <| s_iret 14 rfl
    · obtain rfl := Option.some.inj e
      exact s_if_eq_T 7 25 rfl (by decide) (b2i_F g_6) <| s_iconst 0 13 rfl (by decide) <| s_iret 14 rfl
  · obtain rfl := Option.some.inj e
    exact s_if_eq_T 3 25 rfl (by decide) (b2i_F g_3) <| s_iconst 0 13 rfl (by decide) <| s_iret 14 rfl
def fX9_isNear_b3 (x1 : Int32) (x2 : Int32) (x3 : Int32) (h : Sto) (c4 : Int32) : Option (Int32 ⊕ (Unit ⊕ Bool)) :=
  if (h 84 2) ≤ c4 then (some (.inr (.inl ()))) else ((fX9_word c4 1 h).bind fun q_2 => if ¬ q_2 = x1 then (some (.inl (c4 + 1))) else ((fX9_word c4 0 h).bind fun q_5 => (fX9_in ((q_5 - x2).toInt64) ((-x3).toInt64) x3.toInt64 h).bind fun q_7 => if q_7 = true then (some (.inr (.inr true))) else (some (.inl (c4 + 1)))))
def fX9_isNear (x1 : Int32) (x2 : Int32) (x3 : Int32) (h : Sto) : Option Bool :=
  (lp (fun s => fX9_isNear_b3 x1 x2 x3 h s) FUEL 0).bind fun y_10 => Sum.elim (fun v_18 => some false) (fun z_19 => some z_19) y_10
set_option maxRecDepth 100000 in
set_option maxHeartbeats 4000000 in
theorem okX9_isNear (d : Nat) (x1 : Int32) (x2 : Int32) (x3 : Int32) (h : Sto) (q : Bool) (e : fX9_isNear x1 x2 x3 h = some q) : Ok yX9_isNear cX9_isNear 5 (some .boolean) (d + 1) [.ref 83, .int x1, .int x2, .int x3] h (some (.int (b2i q))) h := by
  refine Ok_of (lst := kX9_isNear) (own := RX9) ⟨by decide, rfl⟩ ckX9_isNear (b2i_01 _) (Nat.le_of_ble_eq_true rfl) ?_
  unfold fX9_isNear at e
  change Ev kX9_isNear RX9 5 (d + 1) nox 0 [some (.ref 83), some (.int x1), some (.int x2), some (.int x3), none] [] h (some (.int (b2i q))) h
  obtain ⟨y_10, e_11, e⟩ := bndS e
  have kx_14 : ∀ v_18 : Unit, .inl v_18 = y_10 → Ev kX9_isNear RX9 5 (d + 1) nox 54 [none, none, none, none, none] [] h (some (.int (b2i q))) h := by
    intro v_18 hy
    subst hy
    have e := elL e
    obtain rfl := Option.some.inj e
    exact s_iconst 0 32 rfl (by decide) <| s_iret 33 rfl
  have kz_15 : ∀ z_19 : Bool, .inr z_19 = y_10 → z_19 = q := by
    intro z_19 hy
    subst hy
    have e := elR e
    exact Option.some.inj e
  refine s_iconst 0 0 rfl (by decide) <| s_istore [some (.ref 83), some (.int x1), some (.int x2), some (.int x3), some (.int 0)] 1 rfl (by decide) rfl <| lpS (P := fun (s_17 : Int32) => Ev kX9_isNear RX9 5 (d + 1) nox 3 [some (.ref 83), some (.int x1), some (.int x2), some (.int x3), some (.int s_17)] [] h (some (.int (b2i q))) h) ?_ FUEL _ e_11
  intro s_17 o_16 e hk_12 hx_13
  unfold fX9_isNear_b3 at e
  refine s_iload 2 rfl rfl <| s_aload_n 3 rfl rfl <| s_getr 4 rfl fl_X9_9 sh_83 rfl <| s_iconst 2 5 rfl (by decide) <| s_iald 2 6 rfl sh_84 (by decide) (by decide) <| ?_
  rcases iteS e with ⟨g_20, e⟩ | ⟨g_20, e⟩
  · cases e
    exact s_icmp_ge_T 7 54 rfl (by decide) g_20 <| s_fgt [true, true, true, true, true] rfl <| (kx_14 () (hx_13 _ rfl))
  · obtain ⟨q_21, e_22, e⟩ := bndS e
    refine s_icmp_ge_F 7 54 rfl (by decide) g_20 <| s_aload_n 8 rfl rfl <| s_iload 9 rfl rfl <| s_iconst 1 10 rfl (by decide) <| s_callV (b := 83) (ci := 9) 11 [.int s_17, .int 1] [] rfl ml_X9_101 yw_X9_word sh_83 rfl rfl (okX9_word d _ _ _ _ e_22) rfl rfl (Nat.le_of_ble_eq_true rfl) <| s_iload_n 12 rfl rfl <| ?_
    rcases iteS e with ⟨g_23, e⟩ | ⟨g_23, e⟩
    · cases e
      exact s_icmp_ne_T 13 48 rfl (by decide) g_23 <| s_iinc 1 [some (.ref 83), some (.int x1), some (.int x2), some (.int x3), some (.int (s_17 + 1))] 30 rfl (by decide) rfl (by decide) rfl <| s_goto 31 3 rfl (by decide) <| (hk_12 (s_17 + 1) rfl)
    · obtain ⟨q_24, e_25, e⟩ := bndS e
      obtain ⟨q_26, e_27, e⟩ := bndS e
      refine s_icmp_ne_F 13 48 rfl (by decide) (Decidable.not_not.mp g_23) <| s_aload_n 14 rfl rfl <| s_iload 15 rfl rfl <| s_iconst 0 16 rfl (by decide) <| s_callV (b := 83) (ci := 9) 17 [.int s_17, .int 0] [] rfl ml_X9_101 yw_X9_word sh_83 rfl rfl (okX9_word d _ _ _ _ e_25) rfl rfl (Nat.le_of_ble_eq_true rfl) <| s_iload_n 18 rfl rfl <| s_isub 19 rfl <| s_i2l 20 rfl <| s_iload_n 21 rfl rfl <| s_ineg 22 rfl <| s_i2l 23 rfl <| s_iload_n 24 rfl rfl <| s_i2l 25 rfl <| s_callS 26 [.long ((q_24 - x2).toInt64), .long ((-x3).toInt64), .long x3.toInt64] [] rfl ml_X9_48 yw_X9_in (okX9_in d _ _ _ _ _ e_27) rfl rfl (Nat.le_of_ble_eq_true rfl) <| ?_
      rcases iteS e with ⟨g_28, e⟩ | ⟨g_28, e⟩
      · cases e
        have z0 := kz_15 _ (hx_13 _ rfl)
        subst z0
        exact s_if_eq_F 27 48 rfl (by decide) (b2i_T g_28) <| s_iconst 1 28 rfl (by decide) <| s_iret 29 rfl
      · cases e
        exact s_if_eq_T 27 48 rfl (by decide) (b2i_F g_28) <| s_iinc 1 [some (.ref 83), some (.int x1), some (.int x2), some (.int x3), some (.int (s_17 + 1))] 30 rfl (by decide) rfl (by decide) rfl <| s_goto 31 3 rfl (by decide) <| (hk_12 (s_17 + 1) rfl)
def fX9_togetherOf_b6 (x1 : Int32) (x2 : Int32) (x3 : Int32) (h : Sto) (c4 : Int32) (c5 : Int32) : Option ((Int32 × Int32) ⊕ Int32) :=
  if (h 84 2) ≤ c5 then (some (.inr c4)) else ((fX9_word c5 1 h).bind fun q_2 => if ¬ q_2 = x1 then (some (.inl ((c4 + 0), (c5 + 1)))) else ((fX9_word c5 0 h).bind fun q_5 => (fX9_isNear x2 q_5 x3 h).bind fun q_7 => if q_7 = true then (some (.inl ((c4 + 1), (c5 + 1)))) else (some (.inl ((c4 + 0), (c5 + 1))))))
def fX9_togetherOf (x1 : Int32) (x2 : Int32) (x3 : Int32) (h : Sto) : Option Int32 :=
  (lp (fun s => fX9_togetherOf_b6 x1 x2 x3 h s.1 s.2) FUEL (0, 0)).bind fun v_18 => some v_18
set_option maxRecDepth 100000 in
set_option maxHeartbeats 4000000 in
theorem okX9_togetherOf (d : Nat) (x1 : Int32) (x2 : Int32) (x3 : Int32) (h : Sto) (q : Int32) (e : fX9_togetherOf x1 x2 x3 h = some q) : Ok yX9_togetherOf cX9_togetherOf 6 (some .int) (d + 2) [.ref 83, .int x1, .int x2, .int x3] h (some (.int q)) h := by
  refine Ok_of (lst := kX9_togetherOf) (own := RX9) ⟨by decide, rfl⟩ ckX9_togetherOf trivial (Nat.le_of_ble_eq_true rfl) ?_
  unfold fX9_togetherOf at e
  change Ev kX9_togetherOf RX9 6 (d + 2) nox 0 [some (.ref 83), some (.int x1), some (.int x2), some (.int x3), none, none] [] h (some (.int q)) h
  obtain ⟨y_10, e_11, e⟩ := bndS e
  have kx_14 : ∀ v_18 : Int32, v_18 = y_10 → Ev kX9_togetherOf RX9 6 (d + 2) nox 60 [none, none, none, none, some (.int v_18), none] [] h (some (.int q)) h := by
    intro v_18 hy
    subst hy
    obtain rfl := Option.some.inj e
    exact s_iload 33 rfl rfl <| s_iret 34 rfl
  refine s_iconst 0 0 rfl (by decide) <| s_istore [some (.ref 83), some (.int x1), some (.int x2), some (.int x3), some (.int 0), none] 1 rfl (by decide) rfl <| s_iconst 0 2 rfl (by decide) <| s_istore [some (.ref 83), some (.int x1), some (.int x2), some (.int x3), some (.int 0), some (.int 0)] 3 rfl (by decide) rfl <| lpS (P := fun (s_17 : (Int32 × Int32)) => Ev kX9_togetherOf RX9 6 (d + 2) nox 6 [some (.ref 83), some (.int x1), some (.int x2), some (.int x3), some (.int s_17.1), some (.int s_17.2)] [] h (some (.int q)) h) ?_ FUEL _ e_11
  intro s_17 o_16 e hk_12 hx_13
  unfold fX9_togetherOf_b6 at e
  refine s_iload 4 rfl rfl <| s_aload_n 5 rfl rfl <| s_getr 6 rfl fl_X9_9 sh_83 rfl <| s_iconst 2 7 rfl (by decide) <| s_iald 2 8 rfl sh_84 (by decide) (by decide) <| ?_
  rcases iteS e with ⟨g_20, e⟩ | ⟨g_20, e⟩
  · cases e
    exact s_icmp_ge_T 9 60 rfl (by decide) g_20 <| s_fgt [true, true, true, true, false, true] rfl <| (kx_14 s_17.1 (hx_13 _ rfl))
  · obtain ⟨q_21, e_22, e⟩ := bndS e
    refine s_icmp_ge_F 9 60 rfl (by decide) g_20 <| s_iload 10 rfl rfl <| s_aload_n 11 rfl rfl <| s_iload 12 rfl rfl <| s_iconst 1 13 rfl (by decide) <| s_callV (b := 83) (ci := 9) 14 [.int s_17.2, .int 1] [.int s_17.1] rfl ml_X9_101 yw_X9_word sh_83 rfl rfl (okX9_word (d + 1) _ _ _ _ e_22) rfl rfl (Nat.le_of_ble_eq_true rfl) <| s_iload_n 15 rfl rfl <| ?_
    rcases iteS e with ⟨g_23, e⟩ | ⟨g_23, e⟩
    · cases e
      exact s_icmp_ne_T 16 50 rfl (by decide) g_23 <| s_iconst 0 28 rfl (by decide) <| s_iadd 29 rfl <| s_istore [some (.ref 83), some (.int x1), some (.int x2), some (.int x3), some (.int (s_17.1 + 0)), some (.int s_17.2)] 30 rfl (by decide) rfl <| s_iinc 1 [some (.ref 83), some (.int x1), some (.int x2), some (.int x3), some (.int (s_17.1 + 0)), some (.int (s_17.2 + 1))] 31 rfl (by decide) rfl (by decide) rfl <| s_goto 32 6 rfl (by decide) <| (hk_12 ((s_17.1 + 0), (s_17.2 + 1)) rfl)
    · obtain ⟨q_24, e_25, e⟩ := bndS e
      obtain ⟨q_26, e_27, e⟩ := bndS e
      refine s_icmp_ne_F 16 50 rfl (by decide) (Decidable.not_not.mp g_23) <| s_aload_n 17 rfl rfl <| s_iload_n 18 rfl rfl <| s_aload_n 19 rfl rfl <| s_iload 20 rfl rfl <| s_iconst 0 21 rfl (by decide) <| s_callV (b := 83) (ci := 9) 22 [.int s_17.2, .int 0] [.int x2, .ref 83, .int s_17.1] rfl ml_X9_101 yw_X9_word sh_83 rfl rfl (okX9_word (d + 1) _ _ _ _ e_25) rfl rfl (Nat.le_of_ble_eq_true rfl) <| s_iload_n 23 rfl rfl <| s_callV (b := 83) (ci := 9) 24 [.int x2, .int q_24, .int x3] [.int s_17.1] rfl ml_X9_247 yw_X9_isNear sh_83 rfl rfl (okX9_isNear d _ _ _ _ _ e_27) rfl rfl (Nat.le_of_ble_eq_true rfl) <| ?_
      rcases iteS e with ⟨g_28, e⟩ | ⟨g_28, e⟩
      · cases e
        exact s_if_eq_F 25 50 rfl (by decide) (b2i_T g_28) <| s_iconst 1 26 rfl (by decide) <| s_goto 27 51 rfl (by decide) <| s_iadd 29 rfl <| s_istore [some (.ref 83), some (.int x1), some (.int x2), some (.int x3), some (.int (s_17.1 + 1)), some (.int s_17.2)] 30 rfl (by decide) rfl <| s_iinc 1 [some (.ref 83), some (.int x1), some (.int x2), some (.int x3), some (.int (s_17.1 + 1)), some (.int (s_17.2 + 1))] 31 rfl (by decide) rfl (by decide) rfl <| s_goto 32 6 rfl (by decide) <| (hk_12 ((s_17.1 + 1), (s_17.2 + 1)) rfl)
      · cases e
        exact s_if_eq_T 25 50 rfl (by decide) (b2i_F g_28) <| s_iconst 0 28 rfl (by decide) <| s_iadd 29 rfl <| s_istore [some (.ref 83), some (.int x1), some (.int x2), some (.int x3), some (.int (s_17.1 + 0)), some (.int s_17.2)] 30 rfl (by decide) rfl <| s_iinc 1 [some (.ref 83), some (.int x1), some (.int x2), some (.int x3), some (.int (s_17.1 + 0)), some (.int (s_17.2 + 1))] 31 rfl (by decide) rfl (by decide) rfl <| s_goto 32 6 rfl (by decide) <| (hk_12 ((s_17.1 + 0), (s_17.2 + 1)) rfl)
def fX9_together (x1 : Int32) (x2 : Int32) (x3 : Int32) (h : Sto) : Option (Int32 × Sto) :=
  (fX9_areTwo x1 x2 h).bind fun q_1 => if q_1 = true then ((fX9_in x3.toInt64 0 99 h).bind fun q_4 => if q_4 = true then ((fX9_togetherOf x1 x2 x3 h).bind fun q_7 => some (q_7, h)) else ((fX9_finds (-1000001) h).bind fun q_9 => some (q_9.1, q_9.2))) else ((fX9_finds (-1000001) h).bind fun q_11 => some (q_11.1, q_11.2))
set_option maxRecDepth 100000 in
set_option maxHeartbeats 4000000 in
theorem okX9_together (d : Nat) (x1 : Int32) (x2 : Int32) (x3 : Int32) (h : Sto) (qv : Int32) (qh : Sto) (e : fX9_together x1 x2 x3 h = some (qv, qh)) : Ok yX9_together cX9_together 4 (some .int) (d + 3) [.ref 83, .int x1, .int x2, .int x3] h (some (.int qv)) qh := by
  refine Ok_of (lst := kX9_together) (own := RX9) ⟨by decide, rfl⟩ ckX9_together trivial (Nat.le_of_ble_eq_true rfl) ?_
  unfold fX9_together at e
  change Ev kX9_together RX9 4 (d + 3) nox 0 [some (.ref 83), some (.int x1), some (.int x2), some (.int x3)] [] h (some (.int qv)) qh
  obtain ⟨q_1, e_2, e⟩ := bndS e
  refine s_aload_n 0 rfl rfl <| s_iload_n 1 rfl rfl <| s_iload_n 2 rfl rfl <| s_callV (b := 83) (ci := 9) 3 [.int x1, .int x2] [] rfl ml_X9_250 yw_X9_areTwo sh_83 rfl rfl (okX9_areTwo d _ _ _ _ e_2) rfl rfl (Nat.le_of_ble_eq_true rfl) <| ?_
  rcases iteS e with ⟨g_3, e⟩ | ⟨g_3, e⟩
  · obtain ⟨q_4, e_5, e⟩ := bndS e
    refine s_if_eq_F 4 31 rfl (by decide) (b2i_T g_3) <| s_iload_n 5 rfl rfl <| s_i2l 6 rfl <| s_lconst 0 7 rfl (by decide) <| s_ldc2_w 8 rfl wc_X9_82 <| s_callS 9 [.long x3.toInt64, .long 0, .long 99] [] rfl ml_X9_48 yw_X9_in (okX9_in (d + 2) _ _ _ _ _ e_5) rfl rfl (Nat.le_of_ble_eq_true rfl) <| ?_
    rcases iteS e with ⟨g_6, e⟩ | ⟨g_6, e⟩
    · obtain ⟨q_7, e_8, e⟩ := bndS e
      obtain ⟨rfl, rfl⟩ := some2 e
      exact s_if_eq_F 10 31 rfl (by decide) (b2i_T g_6) <| s_aload_n 11 rfl rfl <| s_iload_n 12 rfl rfl <| s_iload_n 13 rfl rfl <| s_iload_n 14 rfl rfl <| s_callV (b := 83) (ci := 9) 15 [.int x1, .int x2, .int x3] [] rfl ml_X9_253 yw_X9_togetherOf sh_83 rfl rfl (okX9_togetherOf d _ _ _ _ _ e_8) rfl rfl (Nat.le_of_ble_eq_true rfl) <| s_goto 16 37 rfl (by decide) <| s_iret 20 rfl
    · obtain ⟨q_9, e_10, e⟩ := bndS e
      obtain ⟨rfl, rfl⟩ := some2 e
      exact s_if_eq_T 10 31 rfl (by decide) (b2i_F g_6) <| s_aload_n 17 rfl rfl <| s_ldc 18 rfl wc_X9_47 <| s_callV (b := 83) (ci := 9) 19 [.int (-1000001)] [] rfl ml_X9_64 yw_X9_finds sh_83 rfl rfl (okX9_finds (d + 2) _ _ q_9.1 q_9.2 e_10) rfl rfl (Nat.le_of_ble_eq_true rfl) <| s_iret 20 rfl
  · obtain ⟨q_11, e_12, e⟩ := bndS e
    obtain ⟨rfl, rfl⟩ := some2 e
    exact s_if_eq_T 4 31 rfl (by decide) (b2i_F g_3) <| s_aload_n 17 rfl rfl <| s_ldc 18 rfl wc_X9_47 <| s_callV (b := 83) (ci := 9) 19 [.int (-1000001)] [] rfl ml_X9_64 yw_X9_finds sh_83 rfl rfl (okX9_finds (d + 2) _ _ q_11.1 q_11.2 e_12) rfl rfl (Nat.le_of_ble_eq_true rfl) <| s_iret 20 rfl
def fX7_gatherNear_b13 (x2 : Int32) (x3 : Int32) (c4 : Int32) (h : Sto) : Option ((Int32 × Sto) ⊕ Sto) :=
  if (h 65 0) ≤ c4 then (some (.inr h)) else (grd (inb x3 14) <| grd (inb c4 14) <| (some (su h (68 + (Int32.toNatClampNeg x3)) (Int32.toNatClampNeg c4) 0)).bind fun h_5 => some (.inl ((c4 + 1), h_5)))
def fX7_gatherNear_b2 (x2 : Int32) (c3 : Int32) (h : Sto) : Option ((Int32 × Sto) ⊕ Sto) :=
  if (h 65 0) ≤ c3 then (some (.inr h)) else ((lp (fun s => fX7_gatherNear_b13 x2 c3 s.1 s.2) FUEL (0, h)).bind fun v_14 => some (.inl ((c3 + 1), v_14)))
def fX7_gatherNear_b65 (x2 : Int32) (x3 : Int32) (x4 : Int32) (c5 : Int32) (h : Sto) : Option ((Int32 × Sto) ⊕ Sto) :=
  if (h 65 0) ≤ c5 then (some (.inr h)) else (grd (inb x3 200) <| grd (inb (h 12 (Int32.toNatClampNeg x3)) 14) <| grd (inb c5 14) <| (fX8_hasBit x4 c5 h).bind fun q_37 => (fX8_asInt (b2i q_37) h).bind fun q_39 => grd (inb c5 14) <| (some (su h (68 + (Int32.toNatClampNeg (h 12 (Int32.toNatClampNeg x3)))) (Int32.toNatClampNeg c5) ((h (68 + (Int32.toNatClampNeg (h 12 (Int32.toNatClampNeg x3)))) (Int32.toNatClampNeg c5)) + q_39))).bind fun h_42 => some (.inl ((c5 + 1), h_42)))
def fX7_gatherNear_b46 (x2 : Int32) (c3 : Int32) (h : Sto) : Option ((Int32 × Sto) ⊕ Sto) :=
  if (h 10 1) ≤ c3 then (some (.inr h)) else ((fX0_speakersNear c3 x2 h).bind fun q_31 => (lp (fun s => fX7_gatherNear_b65 x2 c3 q_31 s.1 s.2) FUEL (0, h)).bind fun v_51 => some (.inl ((c3 + 1), v_51)))
def fX7_gatherNear (x2 : Int32) (h : Sto) : Option Sto :=
  (lp (fun s => fX7_gatherNear_b2 x2 s.1 s.2) FUEL (0, h)).bind fun v_28 => (lp (fun s => fX7_gatherNear_b46 x2 s.1 s.2) FUEL (0, v_28)).bind fun v_71 => some v_71
set_option maxRecDepth 100000 in
set_option maxHeartbeats 4000000 in
theorem okX7_gatherNear (d : Nat) (x2 : Int32) (h : Sto) (q : Sto) (e : fX7_gatherNear x2 h = some q) : Ok yX7_gatherNear cX7_gatherNear 6 none (d + 3) [.ref 65, .ref 10, .int x2] h none q := by
  refine Ok_of (lst := kX7_gatherNear) (own := RX7) ⟨by decide, rfl⟩ ckX7_gatherNear trivial (Nat.le_of_ble_eq_true rfl) ?_
  unfold fX7_gatherNear at e
  change Ev kX7_gatherNear RX7 6 (d + 3) nox 0 [some (.ref 65), some (.ref 10), some (.int x2), none, none, none] [] h none q
  obtain ⟨y_20, e_21, e⟩ := bndS e
  have kx_24 : ∀ v_28 : Sto, v_28 = y_20 → Ev kX7_gatherNear RX7 6 (d + 3) nox 44 [some (.ref 65), some (.ref 10), some (.int x2), none, none, none] [] v_28 none q := by
    intro v_28 hy
    subst hy
    obtain ⟨y_63, e_64, e⟩ := bndS e
    have kx_67 : ∀ v_71 : Sto, v_71 = y_63 → Ev kX7_gatherNear RX7 6 (d + 3) nox 113 [none, none, none, none, none, none] [] v_71 none q := by
      intro v_71 hy
      subst hy
      obtain rfl := Option.some.inj e
      exact s_vret 60 rfl
    refine s_iconst 0 23 rfl (by decide) <| s_istore_n [some (.ref 65), some (.ref 10), some (.int x2), some (.int 0), none, none] 24 rfl (by decide) rfl <| lpS (P := fun (s_70 : (Int32 × Sto)) => Ev kX7_gatherNear RX7 6 (d + 3) nox 46 [some (.ref 65), some (.ref 10), some (.int x2), some (.int s_70.1), none, none] [] s_70.2 none q) ?_ FUEL _ e_64
    intro s_70 o_69 e hk_65 hx_66
    unfold fX7_gatherNear_b46 at e
    refine s_iload_n 25 rfl rfl <| s_aload_n 26 rfl rfl <| s_geti 27 rfl fl_X7_32 sh_10 rfl <| ?_
    rcases iteS e with ⟨g_73, e⟩ | ⟨g_73, e⟩
    · cases e
      exact s_icmp_ge_T 28 113 rfl (by decide) g_73 <| s_fgt [true, true, true, true] rfl <| (kx_67 s_70.2 (hx_66 _ rfl))
    · obtain ⟨q_74, e_75, e⟩ := bndS e
      obtain ⟨y_86, e_87, e⟩ := bndS e
      have kx_90 : ∀ v_94 : Sto, v_94 = y_86 → Ev kX7_gatherNear RX7 6 (d + 3) nox 107 [some (.ref 65), some (.ref 10), some (.int x2), some (.int s_70.1), none, none] [] v_94 none q := by
        intro v_94 hy
        subst hy
        cases e
        exact s_iinc 1 [some (.ref 65), some (.ref 10), some (.int x2), some (.int (s_70.1 + 1)), none, none] 58 rfl (by decide) rfl (by decide) rfl <| s_goto 59 46 rfl (by decide) <| (hk_65 ((s_70.1 + 1), v_94) rfl)
      refine s_icmp_ge_F 28 113 rfl (by decide) g_73 <| s_aload_n 29 rfl rfl <| s_iload_n 30 rfl rfl <| s_iload_n 31 rfl rfl <| s_callV (b := 10) (ci := 0) 32 [.int s_70.1, .int x2] [] rfl ml_X7_35 yw_X0_speakersNear sh_10 rfl rfl (okX0_speakersNear d _ _ _ _ e_75) rfl rfl (Nat.le_of_ble_eq_true rfl) <| s_istore [some (.ref 65), some (.ref 10), some (.int x2), some (.int s_70.1), some (.int q_74), none] 33 rfl (by decide) rfl <| s_iconst 0 34 rfl (by decide) <| s_istore [some (.ref 65), some (.ref 10), some (.int x2), some (.int s_70.1), some (.int q_74), some (.int 0)] 35 rfl (by decide) rfl <| lpS (P := fun (s_93 : (Int32 × Sto)) => Ev kX7_gatherNear RX7 6 (d + 3) nox 65 [some (.ref 65), some (.ref 10), some (.int x2), some (.int s_70.1), some (.int q_74), some (.int s_93.1)] [] s_93.2 none q) ?_ FUEL _ e_87
      intro s_93 o_92 e hk_88 hx_89
      unfold fX7_gatherNear_b65 at e
      refine s_iload 36 rfl rfl <| s_aload_n 37 rfl rfl <| s_geti 38 rfl fl_X7_20 sh_65 rfl <| ?_
      rcases iteS e with ⟨g_96, e⟩ | ⟨g_96, e⟩
      · cases e
        exact s_icmp_ge_T 39 107 rfl (by decide) g_96 <| s_fgt [false, false, false, false, true, true] rfl <| (kx_90 s_93.2 (hx_89 _ rfl))
      · obtain ⟨g_97, e⟩ := grdS e
        obtain ⟨g_98, e⟩ := grdS e
        obtain ⟨g_99, e⟩ := grdS e
        obtain ⟨q_100, e_101, e⟩ := bndS e
        obtain ⟨q_102, e_103, e⟩ := bndS e
        obtain ⟨g_104, e⟩ := grdS e
        obtain ⟨h_105, eh_105, e⟩ := bndS e
        cases e
        exact s_icmp_ge_F 39 107 rfl (by decide) g_96 <| s_aload_n 40 rfl rfl <| s_getr 41 rfl fl_X7_17 sh_65 rfl <| s_aload_n 42 rfl rfl <| s_getr 43 rfl fl_X7_39 sh_10 rfl <| s_iload_n 44 rfl rfl <| s_iald (Int32.toNatClampNeg s_70.1) 45 rfl sh_12 g_97 rfl <| s_aald2 (68 + (Int32.toNatClampNeg (s_93.2 12 (Int32.toNatClampNeg s_70.1)))) 46 rfl sh_67 rfl g_98 <| s_iload 47 rfl rfl <| s_dup2 48 rfl rfl rfl <| s_iald (Int32.toNatClampNeg s_93.1) 49 rfl (srw_68 _ (inb_lt g_98)) g_99 rfl <| s_iload 50 rfl rfl <| s_iload 51 rfl rfl <| s_callSN 52 [.int q_74, .int s_93.1] [.int (s_93.2 (68 + (Int32.toNatClampNeg (s_93.2 12 (Int32.toNatClampNeg s_70.1)))) (Int32.toNatClampNeg s_93.1)), .int s_93.1, .ref (68 + (Int32.toNatClampNeg (s_93.2 12 (Int32.toNatClampNeg s_70.1))))] rfl ml_X7_42 yw_X8_hasBit (okX8_hasBit (d + 2) _ _ _ _ e_101) rfl rfl (Nat.le_of_ble_eq_true rfl) <| s_callSN 53 [.int (b2i q_100)] [.int (s_93.2 (68 + (Int32.toNatClampNeg (s_93.2 12 (Int32.toNatClampNeg s_70.1)))) (Int32.toNatClampNeg s_93.1)), .int s_93.1, .ref (68 + (Int32.toNatClampNeg (s_93.2 12 (Int32.toNatClampNeg s_70.1))))] rfl ml_X7_46 yw_X8_asInt (okX8_asInt (d + 2) _ _ _ e_103) rfl rfl (Nat.le_of_ble_eq_true rfl) <| s_iadd 54 rfl <| s_iast (Int32.toNatClampNeg s_93.1) 55 rfl (srw_68 _ (inb_lt g_98)) g_104 rfl <| s_nmH (Option.some.inj eh_105) <| s_iinc 1 [some (.ref 65), some (.ref 10), some (.int x2), some (.int s_70.1), some (.int q_74), some (.int (s_93.1 + 1))] 56 rfl (by decide) rfl (by decide) rfl <| s_goto 57 65 rfl (by decide) <| (hk_88 ((s_93.1 + 1), h_105) rfl)
  refine s_iconst 0 0 rfl (by decide) <| s_istore_n [some (.ref 65), some (.ref 10), some (.int x2), some (.int 0), none, none] 1 rfl (by decide) rfl <| lpS (P := fun (s_27 : (Int32 × Sto)) => Ev kX7_gatherNear RX7 6 (d + 3) nox 2 [some (.ref 65), some (.ref 10), some (.int x2), some (.int s_27.1), none, none] [] s_27.2 none q) ?_ FUEL _ e_21
  intro s_27 o_26 e hk_22 hx_23
  unfold fX7_gatherNear_b2 at e
  refine s_iload_n 2 rfl rfl <| s_aload_n 3 rfl rfl <| s_geti 4 rfl fl_X7_20 sh_65 rfl <| ?_
  rcases iteS e with ⟨g_106, e⟩ | ⟨g_106, e⟩
  · cases e
    exact s_icmp_ge_T 5 44 rfl (by decide) g_106 <| s_fgt [false, false, false, true] rfl <| (kx_24 s_27.2 (hx_23 _ rfl))
  · obtain ⟨y_111, e_112, e⟩ := bndS e
    have kx_115 : ∀ v_119 : Sto, v_119 = y_111 → Ev kX7_gatherNear RX7 6 (d + 3) nox 38 [some (.ref 65), some (.ref 10), some (.int x2), some (.int s_27.1), none, none] [] v_119 none q := by
      intro v_119 hy
      subst hy
      cases e
      exact s_iinc 1 [some (.ref 65), some (.ref 10), some (.int x2), some (.int (s_27.1 + 1)), none, none] 21 rfl (by decide) rfl (by decide) rfl <| s_goto 22 2 rfl (by decide) <| (hk_22 ((s_27.1 + 1), v_119) rfl)
    refine s_icmp_ge_F 5 44 rfl (by decide) g_106 <| s_iconst 0 6 rfl (by decide) <| s_istore [some (.ref 65), some (.ref 10), some (.int x2), some (.int s_27.1), some (.int 0), none] 7 rfl (by decide) rfl <| lpS (P := fun (s_118 : (Int32 × Sto)) => Ev kX7_gatherNear RX7 6 (d + 3) nox 13 [some (.ref 65), some (.ref 10), some (.int x2), some (.int s_27.1), some (.int s_118.1), none] [] s_118.2 none q) ?_ FUEL _ e_112
    intro s_118 o_117 e hk_113 hx_114
    unfold fX7_gatherNear_b13 at e
    refine s_iload 8 rfl rfl <| s_aload_n 9 rfl rfl <| s_geti 10 rfl fl_X7_20 sh_65 rfl <| ?_
    rcases iteS e with ⟨g_121, e⟩ | ⟨g_121, e⟩
    · cases e
      exact s_icmp_ge_T 11 38 rfl (by decide) g_121 <| s_fgt [false, false, false, false, true] rfl <| (kx_115 s_118.2 (hx_114 _ rfl))
    · obtain ⟨g_122, e⟩ := grdS e
      obtain ⟨g_123, e⟩ := grdS e
      obtain ⟨h_124, eh_124, e⟩ := bndS e
      cases e
      exact s_icmp_ge_F 11 38 rfl (by decide) g_121 <| s_aload_n 12 rfl rfl <| s_getr 13 rfl fl_X7_17 sh_65 rfl <| s_iload_n 14 rfl rfl <| s_aald2 (68 + (Int32.toNatClampNeg s_27.1)) 15 rfl sh_67 rfl g_122 <| s_iload 16 rfl rfl <| s_iconst 0 17 rfl (by decide) <| s_iast (Int32.toNatClampNeg s_118.1) 18 rfl (srw_68 _ (inb_lt g_122)) g_123 rfl <| s_nmH (Option.some.inj eh_124) <| s_iinc 1 [some (.ref 65), some (.ref 10), some (.int x2), some (.int s_27.1), some (.int (s_118.1 + 1)), none] 19 rfl (by decide) rfl (by decide) rfl <| s_goto 20 13 rfl (by decide) <| (hk_113 ((s_118.1 + 1), h_124) rfl)
def fX7_join_b9 (x1 : Int32) (x2 : Int32) (x3 : Int32) (c4 : Int32) (h : Sto) : Option ((Int32 × Sto) ⊕ Sto) :=
  if (h 65 0) ≤ c4 then (some (.inr h)) else (grd (inb c4 14) <| if (h 66 (Int32.toNatClampNeg c4)) = x1 then (grd (inb c4 14) <| (some (su h 66 (Int32.toNatClampNeg c4) x3)).bind fun h_5 => some (.inl ((c4 + 1), h_5))) else (grd (inb c4 14) <| if ¬ (h 66 (Int32.toNatClampNeg c4)) = x2 then (some (.inl ((c4 + 1), h))) else (grd (inb c4 14) <| (some (su h 66 (Int32.toNatClampNeg c4) x3)).bind fun h_9 => some (.inl ((c4 + 1), h_9)))))
def fX7_join (x1 : Int32) (x2 : Int32) (h : Sto) : Option Sto :=
  (lp (fun s => fX7_join_b9 x1 x2 (jmin x1 x2) s.1 s.2) FUEL (0, h)).bind fun v_18 => some v_18
set_option maxRecDepth 100000 in
set_option maxHeartbeats 4000000 in
theorem okX7_join (d : Nat) (x1 : Int32) (x2 : Int32) (h : Sto) (q : Sto) (e : fX7_join x1 x2 h = some q) : Ok yX7_join cX7_join 5 none (d + 1) [.ref 65, .int x1, .int x2] h none q := by
  refine Ok_of (lst := kX7_join) (own := RX7) ⟨by decide, rfl⟩ ckX7_join trivial (Nat.le_of_ble_eq_true rfl) ?_
  unfold fX7_join at e
  change Ev kX7_join RX7 5 (d + 1) nox 0 [some (.ref 65), some (.int x1), some (.int x2), none, none] [] h none q
  obtain ⟨y_10, e_11, e⟩ := bndS e
  have kx_14 : ∀ v_18 : Sto, v_18 = y_10 → Ev kX7_join RX7 5 (d + 1) nox 54 [none, none, none, none, none] [] v_18 none q := by
    intro v_18 hy
    subst hy
    obtain rfl := Option.some.inj e
    exact s_vret 29 rfl
  refine s_iload_n 0 rfl rfl <| s_iload_n 1 rfl rfl <| s_min 2 rfl ml_X7_50 wMin (Nat.le_of_ble_eq_true rfl) <| s_istore_n [some (.ref 65), some (.int x1), some (.int x2), some (.int (jmin x1 x2)), none] 3 rfl (by decide) rfl <| s_iconst 0 4 rfl (by decide) <| s_istore [some (.ref 65), some (.int x1), some (.int x2), some (.int (jmin x1 x2)), some (.int 0)] 5 rfl (by decide) rfl <| lpS (P := fun (s_17 : (Int32 × Sto)) => Ev kX7_join RX7 5 (d + 1) nox 9 [some (.ref 65), some (.int x1), some (.int x2), some (.int (jmin x1 x2)), some (.int s_17.1)] [] s_17.2 none q) ?_ FUEL _ e_11
  intro s_17 o_16 e hk_12 hx_13
  unfold fX7_join_b9 at e
  refine s_iload 6 rfl rfl <| s_aload_n 7 rfl rfl <| s_geti 8 rfl fl_X7_20 sh_65 rfl <| ?_
  rcases iteS e with ⟨g_20, e⟩ | ⟨g_20, e⟩
  · cases e
    exact s_icmp_ge_T 9 54 rfl (by decide) g_20 <| s_fgt [true, true, true, true, true] rfl <| (kx_14 s_17.2 (hx_13 _ rfl))
  · obtain ⟨g_21, e⟩ := grdS e
    refine s_icmp_ge_F 9 54 rfl (by decide) g_20 <| s_aload_n 10 rfl rfl <| s_getr 11 rfl fl_X7_9 sh_65 rfl <| s_iload 12 rfl rfl <| s_iald (Int32.toNatClampNeg s_17.1) 13 rfl sh_66 g_21 rfl <| s_iload_n 14 rfl rfl <| ?_
    rcases iteS e with ⟨g_22, e⟩ | ⟨g_22, e⟩
    · obtain ⟨g_23, e⟩ := grdS e
      obtain ⟨h_24, eh_24, e⟩ := bndS e
      cases e
      exact s_icmp_eq_T 15 40 rfl (by decide) g_22 <| s_aload_n 22 rfl rfl <| s_getr 23 rfl fl_X7_9 sh_65 rfl <| s_iload 24 rfl rfl <| s_iload_n 25 rfl rfl <| s_iast (Int32.toNatClampNeg s_17.1) 26 rfl sh_66 g_23 rfl <| s_nmH (Option.some.inj eh_24) <| s_iinc 1 [some (.ref 65), some (.int x1), some (.int x2), some (.int (jmin x1 x2)), some (.int (s_17.1 + 1))] 27 rfl (by decide) rfl (by decide) rfl <| s_goto 28 9 rfl (by decide) <| (hk_12 ((s_17.1 + 1), h_24) rfl)
    · obtain ⟨g_25, e⟩ := grdS e
      refine s_icmp_eq_F 15 40 rfl (by decide) g_22 <| s_aload_n 16 rfl rfl <| s_getr 17 rfl fl_X7_9 sh_65 rfl <| s_iload 18 rfl rfl <| s_iald (Int32.toNatClampNeg s_17.1) 19 rfl sh_66 g_25 rfl <| s_iload_n 20 rfl rfl <| ?_
      rcases iteS e with ⟨g_26, e⟩ | ⟨g_26, e⟩
      · cases e
        exact s_icmp_ne_T 21 48 rfl (by decide) g_26 <| s_iinc 1 [some (.ref 65), some (.int x1), some (.int x2), some (.int (jmin x1 x2)), some (.int (s_17.1 + 1))] 27 rfl (by decide) rfl (by decide) rfl <| s_goto 28 9 rfl (by decide) <| (hk_12 ((s_17.1 + 1), s_17.2) rfl)
      · obtain ⟨g_27, e⟩ := grdS e
        obtain ⟨h_28, eh_28, e⟩ := bndS e
        cases e
        exact s_icmp_ne_F 21 48 rfl (by decide) (Decidable.not_not.mp g_26) <| s_aload_n 22 rfl rfl <| s_getr 23 rfl fl_X7_9 sh_65 rfl <| s_iload 24 rfl rfl <| s_iload_n 25 rfl rfl <| s_iast (Int32.toNatClampNeg s_17.1) 26 rfl sh_66 g_27 rfl <| s_nmH (Option.some.inj eh_28) <| s_iinc 1 [some (.ref 65), some (.int x1), some (.int x2), some (.int (jmin x1 x2)), some (.int (s_17.1 + 1))] 27 rfl (by decide) rfl (by decide) rfl <| s_goto 28 9 rfl (by decide) <| (hk_12 ((s_17.1 + 1), h_28) rfl)
def fX7_gather_b14 (x4 : Int32) (c5 : Int32) (h : Sto) : Option ((Int32 × Sto) ⊕ Sto) :=
  if (h 65 0) ≤ c5 then (some (.inr h)) else (grd (inb c5 14) <| (some (su h 66 (Int32.toNatClampNeg c5) c5)).bind fun h_6 => some (.inl ((c5 + 1), h_6)))
def fX7_gather_b53 (x4 : Int32) (x5 : Int32) (c6 : Int32) (h : Sto) : Option ((Int32 × Sto) ⊕ Sto) :=
  if x5 ≤ c6 then (some (.inr h)) else (grd (inb x5 14) <| grd (inb c6 14) <| if x4 ≤ (h (68 + (Int32.toNatClampNeg x5)) (Int32.toNatClampNeg c6)) then (grd (inb x5 14) <| grd (inb c6 14) <| (fX7_join (h 66 (Int32.toNatClampNeg x5)) (h 66 (Int32.toNatClampNeg c6)) h).bind fun q_24 => some (.inl ((c6 + 1), q_24))) else (grd (inb c6 14) <| grd (inb x5 14) <| if (h (68 + (Int32.toNatClampNeg c6)) (Int32.toNatClampNeg x5)) < x4 then (some (.inl ((c6 + 1), h))) else (grd (inb x5 14) <| grd (inb c6 14) <| (fX7_join (h 66 (Int32.toNatClampNeg x5)) (h 66 (Int32.toNatClampNeg c6)) h).bind fun q_31 => some (.inl ((c6 + 1), q_31)))))
def fX7_gather_b41 (x4 : Int32) (c5 : Int32) (h : Sto) : Option ((Int32 × Sto) ⊕ Sto) :=
  if (h 65 0) ≤ c5 then (some (.inr h)) else ((lp (fun s => fX7_gather_b53 x4 c5 s.1 s.2) FUEL (0, h)).bind fun v_41 => some (.inl ((c5 + 1), v_41)))
def fX7_gather (x2 : Int32) (x3 : Int32) (x4 : Int32) (h : Sto) : Option Sto :=
  (some (su h 65 0 x2)).bind fun h_1 => (fX7_gatherNear x3 h_1).bind fun q_2 => (lp (fun s => fX7_gather_b14 x4 s.1 s.2) FUEL (0, q_2)).bind fun v_15 => (lp (fun s => fX7_gather_b41 x4 s.1 s.2) FUEL (0, v_15)).bind fun v_66 => some v_66
set_option maxRecDepth 100000 in
set_option maxHeartbeats 4000000 in
theorem okX7_gather (d : Nat) (x2 : Int32) (x3 : Int32) (x4 : Int32) (h : Sto) (q : Sto) (e : fX7_gather x2 x3 x4 h = some q) : Ok yX7_gather cX7_gather 7 none (d + 4) [.ref 65, .ref 10, .int x2, .int x3, .int x4] h none q := by
  refine Ok_of (lst := kX7_gather) (own := RX7) ⟨by decide, rfl⟩ ckX7_gather trivial (Nat.le_of_ble_eq_true rfl) ?_
  unfold fX7_gather at e
  change Ev kX7_gather RX7 7 (d + 4) nox 0 [some (.ref 65), some (.ref 10), some (.int x2), some (.int x3), some (.int x4), none, none] [] h none q
  obtain ⟨h_1, eh_1, e⟩ := bndS e
  obtain ⟨q_2, e_3, e⟩ := bndS e
  obtain ⟨y_7, e_8, e⟩ := bndS e
  have kx_11 : ∀ v_15 : Sto, v_15 = y_7 → Ev kX7_gather RX7 7 (d + 4) nox 38 [some (.ref 65), none, none, none, some (.int x4), none, none] [] v_15 none q := by
    intro v_15 hy
    subst hy
    obtain ⟨y_58, e_59, e⟩ := bndS e
    have kx_62 : ∀ v_66 : Sto, v_66 = y_58 → Ev kX7_gather RX7 7 (d + 4) nox 120 [none, none, none, none, none, none, none] [] v_66 none q := by
      intro v_66 hy
      subst hy
      obtain rfl := Option.some.inj e
      exact s_vret 61 rfl
    refine s_iconst 0 20 rfl (by decide) <| s_istore [some (.ref 65), none, none, none, some (.int x4), some (.int 0), none] 21 rfl (by decide) rfl <| lpS (P := fun (s_65 : (Int32 × Sto)) => Ev kX7_gather RX7 7 (d + 4) nox 41 [some (.ref 65), none, none, none, some (.int x4), some (.int s_65.1), none] [] s_65.2 none q) ?_ FUEL _ e_59
    intro s_65 o_64 e hk_60 hx_61
    unfold fX7_gather_b41 at e
    refine s_iload 22 rfl rfl <| s_aload_n 23 rfl rfl <| s_geti 24 rfl fl_X7_20 sh_65 rfl <| ?_
    rcases iteS e with ⟨g_68, e⟩ | ⟨g_68, e⟩
    · cases e
      exact s_icmp_ge_T 25 120 rfl (by decide) g_68 <| s_fgt [true, false, false, false, true, true] rfl <| (kx_62 s_65.2 (hx_61 _ rfl))
    · obtain ⟨y_84, e_85, e⟩ := bndS e
      have kx_88 : ∀ v_92 : Sto, v_92 = y_84 → Ev kX7_gather RX7 7 (d + 4) nox 114 [some (.ref 65), none, none, none, some (.int x4), some (.int s_65.1), none] [] v_92 none q := by
        intro v_92 hy
        subst hy
        cases e
        exact s_iinc 1 [some (.ref 65), none, none, none, some (.int x4), some (.int (s_65.1 + 1)), none] 59 rfl (by decide) rfl (by decide) rfl <| s_goto 60 41 rfl (by decide) <| (hk_60 ((s_65.1 + 1), v_92) rfl)
      refine s_icmp_ge_F 25 120 rfl (by decide) g_68 <| s_iconst 0 26 rfl (by decide) <| s_istore [some (.ref 65), none, none, none, some (.int x4), some (.int s_65.1), some (.int 0)] 27 rfl (by decide) rfl <| lpS (P := fun (s_91 : (Int32 × Sto)) => Ev kX7_gather RX7 7 (d + 4) nox 53 [some (.ref 65), none, none, none, some (.int x4), some (.int s_65.1), some (.int s_91.1)] [] s_91.2 none q) ?_ FUEL _ e_85
      intro s_91 o_90 e hk_86 hx_87
      unfold fX7_gather_b53 at e
      refine s_iload 28 rfl rfl <| s_iload 29 rfl rfl <| ?_
      rcases iteS e with ⟨g_94, e⟩ | ⟨g_94, e⟩
      · cases e
        exact s_icmp_ge_T 30 114 rfl (by decide) g_94 <| s_fgt [false, false, false, false, false, false, true] rfl <| (kx_88 s_91.2 (hx_87 _ rfl))
      · obtain ⟨g_95, e⟩ := grdS e
        obtain ⟨g_96, e⟩ := grdS e
        refine s_icmp_ge_F 30 114 rfl (by decide) g_94 <| s_aload_n 31 rfl rfl <| s_getr 32 rfl fl_X7_17 sh_65 rfl <| s_iload 33 rfl rfl <| s_aald2 (68 + (Int32.toNatClampNeg s_65.1)) 34 rfl sh_67 rfl g_95 <| s_iload 35 rfl rfl <| s_iald (Int32.toNatClampNeg s_91.1) 36 rfl (srw_68 _ (inb_lt g_95)) g_96 rfl <| s_iload 37 rfl rfl <| ?_
        rcases iteS e with ⟨g_97, e⟩ | ⟨g_97, e⟩
        · obtain ⟨g_98, e⟩ := grdS e
          obtain ⟨g_99, e⟩ := grdS e
          obtain ⟨q_100, e_101, e⟩ := bndS e
          cases e
          exact s_icmp_ge_T 38 90 rfl (by decide) g_97 <| s_aload_n 47 rfl rfl <| s_aload_n 48 rfl rfl <| s_getr 49 rfl fl_X7_9 sh_65 rfl <| s_iload 50 rfl rfl <| s_iald (Int32.toNatClampNeg s_65.1) 51 rfl sh_66 g_98 rfl <| s_aload_n 52 rfl rfl <| s_getr 53 rfl fl_X7_9 sh_65 rfl <| s_iload 54 rfl rfl <| s_iald (Int32.toNatClampNeg s_91.1) 55 rfl sh_66 g_99 rfl <| s_callV (b := 65) (ci := 7) 56 [.int (s_91.2 66 (Int32.toNatClampNeg s_65.1)), .int (s_91.2 66 (Int32.toNatClampNeg s_91.1))] [] rfl ml_X7_28 yw_X7_join sh_65 rfl rfl (okX7_join (d + 2) _ _ _ _ e_101) rfl rfl (Nat.le_of_ble_eq_true rfl) <| s_iinc 1 [some (.ref 65), none, none, none, some (.int x4), some (.int s_65.1), some (.int (s_91.1 + 1))] 57 rfl (by decide) rfl (by decide) rfl <| s_goto 58 53 rfl (by decide) <| (hk_86 ((s_91.1 + 1), q_100) rfl)
        · obtain ⟨g_102, e⟩ := grdS e
          obtain ⟨g_103, e⟩ := grdS e
          refine s_icmp_ge_F 38 90 rfl (by decide) g_97 <| s_aload_n 39 rfl rfl <| s_getr 40 rfl fl_X7_17 sh_65 rfl <| s_iload 41 rfl rfl <| s_aald2 (68 + (Int32.toNatClampNeg s_91.1)) 42 rfl sh_67 rfl g_102 <| s_iload 43 rfl rfl <| s_iald (Int32.toNatClampNeg s_65.1) 44 rfl (srw_68 _ (inb_lt g_102)) g_103 rfl <| s_iload 45 rfl rfl <| ?_
          rcases iteS e with ⟨g_104, e⟩ | ⟨g_104, e⟩
          · cases e
            exact s_icmp_lt_T 46 108 rfl (by decide) g_104 <| s_iinc 1 [some (.ref 65), none, none, none, some (.int x4), some (.int s_65.1), some (.int (s_91.1 + 1))] 57 rfl (by decide) rfl (by decide) rfl <| s_goto 58 53 rfl (by decide) <| (hk_86 ((s_91.1 + 1), s_91.2) rfl)
          · obtain ⟨g_105, e⟩ := grdS e
            obtain ⟨g_106, e⟩ := grdS e
            obtain ⟨q_107, e_108, e⟩ := bndS e
            cases e
            exact s_icmp_lt_F 46 108 rfl (by decide) g_104 <| s_aload_n 47 rfl rfl <| s_aload_n 48 rfl rfl <| s_getr 49 rfl fl_X7_9 sh_65 rfl <| s_iload 50 rfl rfl <| s_iald (Int32.toNatClampNeg s_65.1) 51 rfl sh_66 g_105 rfl <| s_aload_n 52 rfl rfl <| s_getr 53 rfl fl_X7_9 sh_65 rfl <| s_iload 54 rfl rfl <| s_iald (Int32.toNatClampNeg s_91.1) 55 rfl sh_66 g_106 rfl <| s_callV (b := 65) (ci := 7) 56 [.int (s_91.2 66 (Int32.toNatClampNeg s_65.1)), .int (s_91.2 66 (Int32.toNatClampNeg s_91.1))] [] rfl ml_X7_28 yw_X7_join sh_65 rfl rfl (okX7_join (d + 2) _ _ _ _ e_108) rfl rfl (Nat.le_of_ble_eq_true rfl) <| s_iinc 1 [some (.ref 65), none, none, none, some (.int x4), some (.int s_65.1), some (.int (s_91.1 + 1))] 57 rfl (by decide) rfl (by decide) rfl <| s_goto 58 53 rfl (by decide) <| (hk_86 ((s_91.1 + 1), q_107) rfl)
  refine s_aload_n 0 rfl rfl <| s_iload_n 1 rfl rfl <| s_puti 2 rfl fl_X7_20 sh_65 rfl <| s_nmH (Option.some.inj eh_1) <| s_aload_n 3 rfl rfl <| s_aload_n 4 rfl rfl <| s_iload_n 5 rfl rfl <| s_callV (b := 65) (ci := 7) 6 [.ref 10, .int x3] [] rfl ml_X7_24 yw_X7_gatherNear sh_65 rfl rfl (okX7_gatherNear d _ _ _ e_3) rfl rfl (Nat.le_of_ble_eq_true rfl) <| s_iconst 0 7 rfl (by decide) <| s_istore [some (.ref 65), some (.ref 10), some (.int x2), some (.int x3), some (.int x4), some (.int 0), none] 8 rfl (by decide) rfl <| s_fgt [false, true, true, true] rfl <| lpS (P := fun (s_14 : (Int32 × Sto)) => Ev kX7_gather RX7 7 (d + 4) nox 14 [some (.ref 65), none, none, none, some (.int x4), some (.int s_14.1), none] [] s_14.2 none q) ?_ FUEL _ e_8
  intro s_14 o_13 e hk_9 hx_10
  unfold fX7_gather_b14 at e
  refine s_iload 9 rfl rfl <| s_aload_n 10 rfl rfl <| s_geti 11 rfl fl_X7_20 sh_65 rfl <| ?_
  rcases iteS e with ⟨g_109, e⟩ | ⟨g_109, e⟩
  · cases e
    exact s_icmp_ge_T 12 38 rfl (by decide) g_109 <| s_fgt [false, false, false, false, false, true] rfl <| (kx_11 s_14.2 (hx_10 _ rfl))
  · obtain ⟨g_110, e⟩ := grdS e
    obtain ⟨h_111, eh_111, e⟩ := bndS e
    cases e
    exact s_icmp_ge_F 12 38 rfl (by decide) g_109 <| s_aload_n 13 rfl rfl <| s_getr 14 rfl fl_X7_9 sh_65 rfl <| s_iload 15 rfl rfl <| s_iload 16 rfl rfl <| s_iast (Int32.toNatClampNeg s_14.1) 17 rfl sh_66 g_110 rfl <| s_nmH (Option.some.inj eh_111) <| s_iinc 1 [some (.ref 65), none, none, none, some (.int x4), some (.int (s_14.1 + 1)), none] 18 rfl (by decide) rfl (by decide) rfl <| s_goto 19 14 rfl (by decide) <| (hk_9 ((s_14.1 + 1), h_111) rfl)
