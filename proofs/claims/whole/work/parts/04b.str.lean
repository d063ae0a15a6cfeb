/-! 04b: a class's words by their places; the constant text of signs (written by wip/whole/gen_str.py) -/
theorem u_all {C : String} {T : u_T} {N : Nat} (pl : List Nat) (g : (u_ws C T N).length = pl.length ∧ ((u_ws C T N).zip pl).all (fun q => decide (lw_tbl[q.2]? = some q.1) && goodWord q.1) = true) : ∀ w ∈ u_ws C T N, w ∈ gtb := by
  intro w hw
  obtain ⟨i, hi⟩ := List.getElem?_of_mem hw
  have hl : i < pl.length := by rw [← g.1]; exact (List.getElem?_eq_some_iff.mp hi).1
  have hz : ((u_ws C T N).zip pl)[i]? = some (w, pl[i]) := by
    rw [List.getElem?_zip_eq_some]
    exact ⟨hi, List.getElem?_eq_getElem hl⟩
  have := List.all_eq_true.mp g.2 _ (List.mem_of_getElem? hz)
  simp only [Bool.and_eq_true, decide_eq_true_eq] at this
  exact gt_of _ this.1 this.2
def ixOf (v : Int32) : Int32 := if v = 119 then 0 else if v = 103 then 1 else if v = 108 then 2 else if v = 104 then 3 else if v = 102 then 4 else if v = 113 then 5 else if v = 116 then 6 else if v = 110 then 7 else -1
def kJ0_coder_7d493 : Lst := [(0, .getstatic 38, 3, 3), (3, .ifCond .eq 10, 3, 6), (6, .aload_n 0, 1, 7), (7, .getfield 15, 3, 10), (10, .goto 4, 3, 13), (13, .iconst 1, 1, 14), (14, .ireturn, 1, 15)]
theorem ckJ0_coder_7d493 : ∀ q ∈ kJ0_coder_7d493, Dc cJ0_coder_7d493 q := ck_of (by decide +kernel)
def kJ0_isLatin1_aae02 : Lst := [(0, .getstatic 38, 3, 3), (3, .ifCond .eq 14, 3, 6), (6, .aload_n 0, 1, 7), (7, .getfield 15, 3, 10), (10, .ifCond .ne 7, 3, 13), (13, .iconst 1, 1, 14), (14, .goto 4, 3, 17), (17, .iconst 0, 1, 18), (18, .ireturn, 1, 19)]
theorem ckJ0_isLatin1_aae02 : ∀ q ∈ kJ0_isLatin1_aae02, Dc cJ0_isLatin1_aae02 q := ck_of (by decide +kernel)
def kJ0_length_8abf5 : Lst := [(0, .aload_n 0, 1, 1), (1, .getfield 9, 3, 4), (4, .arraylength, 1, 5), (5, .aload_n 0, 1, 6), (6, .invokevirtual 335, 3, 9), (9, .ishr, 1, 10), (10, .ireturn, 1, 11)]
theorem ckJ0_length_8abf5 : ∀ q ∈ kJ0_length_8abf5, Dc cJ0_length_8abf5 q := ck_of (by decide +kernel)
def kJ1_canEncode_9a6ad : Lst := [(0, .iload_n 0, 1, 1), (1, .ifCond .lt 14, 3, 4), (4, .iload_n 0, 1, 5), (5, .sipush 255, 3, 8), (8, .if_icmp .gt 7, 3, 11), (11, .iconst 1, 1, 12), (12, .goto 4, 3, 15), (15, .iconst 0, 1, 16), (16, .ireturn, 1, 17)]
theorem ckJ1_canEncode_9a6ad : ∀ q ∈ kJ1_canEncode_9a6ad, Dc cJ1_canEncode_9a6ad q := ck_of (by decide +kernel)
def kJ1_indexOfChar_4cfef : Lst := [(0, .iload_n 1, 1, 1), (1, .i2b, 1, 2), (2, .istore 4, 2, 4), (4, .iload_n 2, 1, 5), (5, .istore 5, 2, 7), (7, .iload 5, 2, 9), (9, .iload_n 3, 1, 10), (10, .if_icmp .ge 21, 3, 13), (13, .aload_n 0, 1, 14), (14, .iload 5, 2, 16), (16, .baload, 1, 17), (17, .iload 4, 2, 19), (19, .if_icmp .ne 6, 3, 22), (22, .iload 5, 2, 24), (24, .ireturn, 1, 25), (25, .iinc 5 1, 3, 28), (28, .goto (-21), 3, 31), (31, .iconst (-1), 1, 32), (32, .ireturn, 1, 33)]
theorem ckJ1_indexOfChar_4cfef : ∀ q ∈ kJ1_indexOfChar_4cfef, Dc cJ1_indexOfChar_4cfef q := ck_of (by decide +kernel)
def kJ1_indexOf_4cfef : Lst := [(0, .iload_n 1, 1, 1), (1, .invokestatic 88, 3, 4), (4, .ifCond .ne 5, 3, 7), (7, .iconst (-1), 1, 8), (8, .ireturn, 1, 9), (9, .iload_n 2, 1, 10), (10, .iconst 0, 1, 11), (11, .invokestatic 92, 3, 14), (14, .istore_n 2, 1, 15), (15, .iload_n 3, 1, 16), (16, .aload_n 0, 1, 17), (17, .arraylength, 1, 18), (18, .invokestatic 38, 3, 21), (21, .istore_n 3, 1, 22), (22, .iload_n 2, 1, 23), (23, .iload_n 3, 1, 24), (24, .if_icmp .lt 5, 3, 27), (27, .iconst (-1), 1, 28), (28, .ireturn, 1, 29), (29, .aload_n 0, 1, 30), (30, .iload_n 1, 1, 31), (31, .iload_n 2, 1, 32), (32, .iload_n 3, 1, 33), (33, .invokestatic 95, 3, 36), (36, .ireturn, 1, 37)]
theorem ckJ1_indexOf_4cfef : ∀ q ∈ kJ1_indexOf_4cfef, Dc cJ1_indexOf_4cfef q := ck_of (by decide +kernel)
def kJ0_indexOf_7cf53 : Lst := [(0, .aload_n 0, 1, 1), (1, .invokevirtual 492, 3, 4), (4, .ifCond .eq 19, 3, 7), (7, .aload_n 0, 1, 8), (8, .getfield 9, 3, 11), (11, .iload_n 1, 1, 12), (12, .iload_n 2, 1, 13), (13, .aload_n 0, 1, 14), (14, .invokevirtual 505, 3, 17), (17, .invokestatic 637, 3, 20), (20, .goto 16, 3, 23), (23, .aload_n 0, 1, 24), (24, .getfield 9, 3, 27), (27, .iload_n 1, 1, 28), (28, .iload_n 2, 1, 29), (29, .aload_n 0, 1, 30), (30, .invokevirtual 505, 3, 33), (33, .invokestatic 640, 3, 36), (36, .ireturn, 1, 37)]
theorem ckJ0_indexOf_7cf53 : ∀ q ∈ kJ0_indexOf_7cf53, Dc cJ0_indexOf_7cf53 q := ck_of (by decide +kernel)
def kJ0_indexOf_0f7a4 : Lst := [(0, .aload_n 0, 1, 1), (1, .iload_n 1, 1, 2), (2, .iconst 0, 1, 3), (3, .invokevirtual 633, 3, 6), (6, .ireturn, 1, 7)]
theorem ckJ0_indexOf_0f7a4 : ∀ q ∈ kJ0_indexOf_0f7a4, Dc cJ0_indexOf_0f7a4 q := ck_of (by decide +kernel)
theorem yw_J0_coder_7d493 : YV yJ0_coder_7d493 cJ0_coder_7d493 1 (some .byte) 0 := ⟨gt_of 613 (by decide +kernel) rfl, gt_of 611 (by decide +kernel) rfl, gt_of 612 (by decide +kernel) rfl, gt_of 84 (by decide +kernel) rfl, ⟨by decide +kernel, by decide⟩⟩
theorem yw_J0_isLatin1_aae02 : YV yJ0_isLatin1_aae02 cJ0_isLatin1_aae02 1 (some .boolean) 0 := ⟨gt_of 603 (by decide +kernel) rfl, gt_of 601 (by decide +kernel) rfl, gt_of 602 (by decide +kernel) rfl, gt_of 84 (by decide +kernel) rfl, ⟨by decide +kernel, by decide⟩⟩
theorem yw_J0_length_8abf5 : YV yJ0_length_8abf5 cJ0_length_8abf5 1 (some .int) 0 := ⟨gt_of 609 (by decide +kernel) rfl, gt_of 607 (by decide +kernel) rfl, gt_of 608 (by decide +kernel) rfl, gt_of 84 (by decide +kernel) rfl, ⟨by decide +kernel, by decide⟩⟩
theorem yw_J0_indexOf_7cf53 : YV yJ0_indexOf_7cf53 cJ0_indexOf_7cf53 3 (some .int) 2 := ⟨gt_of 599 (by decide +kernel) rfl, gt_of 597 (by decide +kernel) rfl, gt_of 598 (by decide +kernel) rfl, gt_of 84 (by decide +kernel) rfl, ⟨by decide +kernel, by decide⟩⟩
theorem yw_J0_indexOf_0f7a4 : YV yJ0_indexOf_0f7a4 cJ0_indexOf_0f7a4 2 (some .int) 1 := ⟨gt_of 595 (by decide +kernel) rfl, gt_of 593 (by decide +kernel) rfl, gt_of 594 (by decide +kernel) rfl, gt_of 84 (by decide +kernel) rfl, ⟨by decide +kernel, by decide⟩⟩
theorem yw_J1_canEncode_9a6ad : YS yJ1_canEncode_9a6ad cJ1_canEncode_9a6ad 1 (some .boolean) 1 := ⟨gt_of 619 (by decide +kernel) rfl, gt_of 618 (by decide +kernel) rfl, gt_of 85 (by decide +kernel) rfl, ⟨by decide +kernel, by decide⟩⟩
theorem yw_J1_indexOfChar_4cfef : YS yJ1_indexOfChar_4cfef cJ1_indexOfChar_4cfef 6 (some .int) 4 := ⟨gt_of 626 (by decide +kernel) rfl, gt_of 625 (by decide +kernel) rfl, gt_of 85 (by decide +kernel) rfl, ⟨by decide +kernel, by decide⟩⟩
theorem yw_J1_indexOf_4cfef : YS yJ1_indexOf_4cfef cJ1_indexOf_4cfef 4 (some .int) 4 := ⟨gt_of 616 (by decide +kernel) rfl, gt_of 615 (by decide +kernel) rfl, gt_of 85 (by decide +kernel) rfl, ⟨by decide +kernel, by decide⟩⟩
theorem mj_RJ0_633 : Cond.methodLink RJ0 633 yJ0_indexOf_7cf53 ∈ gtb := gt_of 596 (by decide +kernel) rfl
theorem mj_RJ0_492 : Cond.methodLink RJ0 492 yJ0_isLatin1_aae02 ∈ gtb := gt_of 600 (by decide +kernel) rfl
theorem mj_RJ0_505 : Cond.methodLink RJ0 505 yJ0_length_8abf5 ∈ gtb := gt_of 606 (by decide +kernel) rfl
theorem mj_RJ0_335 : Cond.methodLink RJ0 335 yJ0_coder_7d493 ∈ gtb := gt_of 610 (by decide +kernel) rfl
theorem mj_RJ0_637 : Cond.methodLink RJ0 637 yJ1_indexOf_4cfef ∈ gtb := gt_of 614 (by decide +kernel) rfl
theorem mj_RJ1_88 : Cond.methodLink RJ1 88 yJ1_canEncode_9a6ad ∈ gtb := gt_of 617 (by decide +kernel) rfl
theorem mj_RJ1_95 : Cond.methodLink RJ1 95 yJ1_indexOfChar_4cfef ∈ gtb := gt_of 624 (by decide +kernel) rfl
theorem mj_max : Cond.methodLink RJ1 92 Lib.Math.max.name ∈ gtb := gt_of 620 (by decide +kernel) rfl
theorem mj_min : Cond.methodLink RJ1 38 Lib.Math.min.name ∈ gtb := gt_of 623 (by decide +kernel) rfl
theorem mw_min : Cond.static Lib.Math.min.name ∈ gtb ∧ Cond.initialized "java/lang/Math" ∈ gtb ∧ Cond.code Lib.Math.min.name Lib.Math.min.code 2 (some .int) ∈ gtb := ⟨gt_of 445 (by decide +kernel) rfl, gt_of 83 (by decide +kernel) rfl, gt_of 446 (by decide +kernel) rfl⟩
theorem mw_max : Cond.static Lib.Math.max.name ∈ gtb ∧ Cond.initialized "java/lang/Math" ∈ gtb ∧ Cond.code Lib.Math.max.name Lib.Math.max.code 2 (some .int) ∈ gtb := ⟨gt_of 621 (by decide +kernel) rfl, gt_of 83 (by decide +kernel) rfl, gt_of 622 (by decide +kernel) rfl⟩
theorem fj_cs : Cond.fieldLink RJ0 38 "java/lang/String" "COMPACT_STRINGS" "Z" ∈ gtb := gt_of 604 (by decide +kernel) rfl
theorem fj_co : Cond.fieldLink RJ0 15 "java/lang/String" "coder" "B" ∈ gtb := gt_of 1463 (by decide +kernel) rfl
theorem fj_va : Cond.fieldLink RJ0 9 "java/lang/String" "value" "[B" ∈ gtb := gt_of 1464 (by decide +kernel) rfl
def ltF (j : Nat) : Int32 := ([119, 103, 108, 104, 102, 113, 116, 110] : List Int32).getD j 0
section STR
variable {lst : Lst} {own : String} {nL d pc pc' : Nat} {x : Scr} {ls : List (Option Value)} {st : List Value} {h h' h1 : Sto} {r rv : Option Value}
theorem s_ldcstr (i : Nat) (hi : lst[i]? = some (pc, .ldc 75, 2, pc')) (k : Ev lst RX2 nL d x pc' ls (.ref 201 :: st) h r h') : Ev lst RX2 nL d x pc ls st h r h' := by
  intro p l e R s m args below meth c cells slots Q cc D dA ad H0 hC hL hR hO hr H locs lv hlv hP hS
  obtain ⟨hd, hp⟩ := hL _ (List.mem_of_getElem? hi)
  dsimp only at hd hp
  subst hp
  exact va_ldcS hC.1 hC.2.1 hC.2.2.2.1 hC.2.2.2.2.2.2.2.2 hd (k p l e R s m args below meth c cells slots Q cc D dA ad H0 hC hL hR hO hr H locs lv hlv hP hS)
theorem s_gcs (i : Nat) (hi : lst[i]? = some (pc, .getstatic 38, 3, pc')) (k : Ev lst RJ0 nL d x pc' ls (.int 1 :: st) h r h') : Ev lst RJ0 nL d x pc ls st h r h' := by
  intro p l e R s m args below meth c cells slots Q cc D dA ad H0 hC hL hR hO hr H locs lv hlv hP hS
  obtain ⟨hd, hp⟩ := hL _ (List.mem_of_getElem? hi)
  dsimp only at hd hp
  subst hp
  obtain ⟨cf, kf, fi, f, a, cell, h1, h2, h3, h4, h5, h6, h7, h8⟩ := hO.1.2.2.2.1
  exact W.gets hC.1 hC.2.1 hC.2.2.2.1 (hC.2.2.2.2.1 _ fj_cs) h1 h2 h3 h4 (by rw [hS.2.1 a (Array.getElem?_eq_some_iff.mp h5).1 h8]; exact h5) (fun e => by rw [e] at h6; cases h6) h7 rfl hd (k p l e R s m args below meth c cells slots Q cc D dA ad H0 hC hL hR hO hr H locs lv hlv hP hS)
theorem s_gco (i : Nat) (hi : lst[i]? = some (pc, .getfield 15, 3, pc')) (k : Ev lst RJ0 nL d x pc' ls (.int 0 :: st) h r h') : Ev lst RJ0 nL d x pc ls (.ref 201 :: st) h r h' := by
  intro p l e R s m args below meth c cells slots Q cc D dA ad H0 hC hL hR hO hr H locs lv hlv hP hS
  obtain ⟨hd, hp⟩ := hL _ (List.mem_of_getElem? hi)
  dsimp only at hd hp
  subst hp
  obtain ⟨cf, k0, fi, f, cell, h1, h2, h3, h4, h5, h6⟩ := (hO.1.2.2.2.2.1 0 (by decide)).2.1.kept hS.2.1
  exact W.getf hC.1 hC.2.1 hC.2.2.2.1 (hC.2.2.2.2.1 _ fj_co) h1 h2 h3 h4 (v := .int 0) h5 rfl rfl hd (k p l e R s m args below meth c cells slots Q cc D dA ad H0 hC hL hR hO hr H locs lv hlv hP hS)
theorem s_gva (i : Nat) (hi : lst[i]? = some (pc, .getfield 9, 3, pc')) (k : Ev lst RJ0 nL d x pc' ls (.ref 203 :: st) h r h') : Ev lst RJ0 nL d x pc ls (.ref 201 :: st) h r h' := by
  intro p l e R s m args below meth c cells slots Q cc D dA ad H0 hC hL hR hO hr H locs lv hlv hP hS
  obtain ⟨hd, hp⟩ := hL _ (List.mem_of_getElem? hi)
  dsimp only at hd hp
  subst hp
  obtain ⟨cf, k0, fi, f, cell, h1, h2, h3, h4, h5, h6⟩ := (hO.1.2.2.2.2.1 0 (by decide)).2.2.1.kept hS.2.1
  exact W.getf hC.1 hC.2.1 hC.2.2.2.1 (hC.2.2.2.2.1 _ fj_va) h1 h2 h3 h4 (v := .ref (ad 203)) h5 rfl rfl hd (k p l e R s m args below meth c cells slots Q cc D dA ad H0 hC hL hR hO hr H locs lv hlv hP hS)
theorem s_bln (i : Nat) (hi : lst[i]? = some (pc, .arraylength, 1, pc')) (k : Ev lst own nL d x pc' ls (.int 8 :: st) h r h') : Ev lst own nL d x pc ls (.ref 203 :: st) h r h' := by
  intro p l e R s m args below meth c cells slots Q cc D dA ad H0 hC hL hR hO hr H locs lv hlv hP hS
  obtain ⟨hd, hp⟩ := hL _ (List.mem_of_getElem? hi)
  dsimp only at hd hp
  subst hp
  obtain ⟨cell, h1, h2, h3, h4, h5, h6, h7⟩ := (hO.1.2.2.2.2.1 0 (by decide)).2.2.2.kept hS.2.1
  exact W.alen (n := 8) hC.1 hC.2.1 h1 h2 h5 rfl rfl hd (k p l e R s m args below meth c cells slots Q cc D dA ad H0 hC hL hR hO hr H locs lv hlv hP hS)
theorem s_bld {v : Int32} (i : Nat) (hi : lst[i]? = some (pc, .baload, 1, pc')) (hin : inb v 8) (k : Ev lst own nL d x pc' ls (.int (ltF v.toNatClampNeg) :: st) h r h') : Ev lst own nL d x pc ls (.int v :: .ref 203 :: st) h r h' := by
  intro p l e R s m args below meth c cells slots Q cc D dA ad H0 hC hL hR hO hr H locs lv hlv hP hS
  obtain ⟨hd, hp⟩ := hL _ (List.mem_of_getElem? hi)
  dsimp only at hd hp
  subst hp
  obtain ⟨cell, h1, h2, h3, h4, h5, h6, h7⟩ := (hO.1.2.2.2.2.1 0 (by decide)).2.2.2.kept hS.2.1
  have hlt := inb_lt hin
  have hin' : ¬ (v < 0 ∨ cell.slots.size ≤ v.toNatClampNeg) := by
    intro q
    rcases q with q | q
    · exact hin (Or.inl q)
    · have h4 : 8 ≤ cell.slots.size := h4
      omega
  exact W.bald (v := .int (ltF v.toNatClampNeg)) hC.1 hC.2.1 h1 h2 h3 hin' (by rw [h6 _ hlt]; rfl) rfl rfl hd (k p l e R s m args below meth c cells slots Q cc D dA ad H0 hC hL hR hO hr H locs lv hlv hP hS)
theorem s_max {idx : Nat} {v w : Int32} (i : Nat) (hi : lst[i]? = some (pc, .invokestatic idx, 3, pc')) (hl : Cond.methodLink own idx Lib.Math.max.name ∈ gtb) (hc : (st.map Value.category).sum ≤ 8) (k : Ev lst own nL (d + 1) x pc' ls (.int (if v < w then w else v) :: st) h r h') : Ev lst own nL (d + 1) x pc ls (.int w :: .int v :: st) h r h' := by
  intro p l e R s m args below meth c cells slots Q cc D dA ad H0 hC hL hR hO hr H locs lv hlv hP hS
  obtain ⟨hd, hp⟩ := hL _ (List.mem_of_getElem? hi)
  dsimp only at hd hp
  subst hp
  have h5 := hC.2.2.2.2.1
  refine va_mmax hC.1 hC.2.1 (hC.2.2.1.trans hlv.1.symm) hC.2.2.2.1 (h5 _ hl) (h5 _ mw_max.1) (h5 _ mw_max.2.1) (h5 _ mw_max.2.2) (by have := hR.1; omega) (by rw [cat_sum]; have := hR.2.1; omega) hR.2.2.1 hR.2.2.2 hd ?_
  exact k p l e R s m args below meth c cells slots Q cc D dA ad H0 hC hL hR hO hr H locs lv hlv hP hS
/-- a call of a method of the text of signs -/
theorem s_callT {idx n nL2 : Nat} {y : MethodName} {cc2 : ByteArray} {rt : Option FieldType} (i : Nat) (av rest : List Value) (hi : lst[i]? = some (pc, .invokevirtual idx, 3, pc')) (hl : Cond.methodLink own idx y ∈ gtb) (hy : YV y cc2 nL2 rt n) (hq : y.cls = "java/lang/String") (hok : Ok y cc2 nL2 rt d (.ref 201 :: av) h rv h1) (hst : st = av.reverse ++ .ref 201 :: rest) (hn : av.length = n) (hc : (rest.map Value.category).sum ≤ 8) (k : Ev lst own nL (d + 1) x pc' ls (rv.toList ++ rest) h1 r h') : Ev lst own nL (d + 1) x pc ls st h r h' := by
  intro p l e R s m args below meth c cells slots Q cc D dA ad H0 hC hL hR hO hr H locs lv hlv hP hS
  obtain ⟨hd, hp⟩ := hL _ (List.mem_of_getElem? hi)
  dsimp only at hd hp
  subst hp; subst hst
  obtain ⟨hx, hb, hml, hown, hts, hK, hI, hN⟩ := id hC
  obtain ⟨y1, y2, y3, y4, y5, y6⟩ := hy
  have hrecv : ∃ cell : Cell, H[ad 201]? = some cell ∧ cell.vm.isStatics = false ∧ s.vm.findClass y.cls = some cell.cls := by
    obtain ⟨cell, q1, q2, q3, -⟩ := (hO.1.2.2.2.2.1 0 (by decide)).1.kept hS.2.1
    exact ⟨cell, q1, q2, by rw [hq]; exact q3⟩
  refine run_ev (rest := rest.map (cv ad)) (va_runV (C := y.cls) (b := ad 201) (As := av.map (cv ad)) ⟨hx, hb, hml, hown, hts⟩ (hok l D dA ad hI) ⟨callB_of n hts (gt_goodL y1) rfl rfl rfl (hts _ y4) (hts _ hl) y5 (rm_le hR y6), hts _ y2, hts _ y3⟩ ⟨PcA_blind, hrecv, fun U hU hW => PcA_at (av := .ref 201 :: av) hK hN hO hS hP hU hW⟩ rfl (by simpa using hn) hlv.1 (by simp [List.map_reverse, cv]) (lv_room (by rw [cat_sum]; exact hc)) hd ⟨hR.2.2.1, hR.2.2.2⟩) hS (fun H1 locs1 hP1 hS1 => ?_)
  have := k p l e R s m args below meth c cells slots Q cc D dA ad H0 hC hL hR hO hr H1 locs1 lv hlv hP1 hS1
  cases rv <;> simpa using this
end STR
theorem okJ_coder (d : Nat) (h : Sto) : Ok yJ0_coder_7d493 cJ0_coder_7d493 1 (some .byte) d [.ref 201] h (some (.int 0)) h := by
  refine Ok_of (lst := kJ0_coder_7d493) (own := RJ0) ⟨by decide, rfl⟩ ckJ0_coder_7d493 rfl (Nat.le_of_ble_eq_true rfl) ?_
  change Ev kJ0_coder_7d493 RJ0 1 d nox 0 [some (.ref 201)] [] h (some (.int 0)) h
  exact s_gcs 0 rfl <| s_if_eq_F 1 13 rfl (by decide) (by decide) <| s_aload_n 2 rfl rfl <| s_gco 3 rfl <| s_goto 4 14 rfl (by decide) <| s_iret 6 rfl
theorem okJ_lat (d : Nat) (h : Sto) : Ok yJ0_isLatin1_aae02 cJ0_isLatin1_aae02 1 (some .boolean) d [.ref 201] h (some (.int 1)) h := by
  refine Ok_of (lst := kJ0_isLatin1_aae02) (own := RJ0) ⟨by decide, rfl⟩ ckJ0_isLatin1_aae02 (Or.inr rfl) (Nat.le_of_ble_eq_true rfl) ?_
  change Ev kJ0_isLatin1_aae02 RJ0 1 d nox 0 [some (.ref 201)] [] h (some (.int 1)) h
  exact s_gcs 0 rfl <| s_if_eq_F 1 17 rfl (by decide) (by decide) <| s_aload_n 2 rfl rfl <| s_gco 3 rfl <| s_if_ne_F 4 17 rfl (by decide) (by decide) <| s_iconst 1 5 rfl (by decide) <| s_goto 6 18 rfl (by decide) <| s_iret 8 rfl
theorem okJ_len (d : Nat) (h : Sto) : Ok yJ0_length_8abf5 cJ0_length_8abf5 1 (some .int) (d + 1) [.ref 201] h (some (.int 8)) h := by
  refine Ok_of (lst := kJ0_length_8abf5) (own := RJ0) ⟨by decide, rfl⟩ ckJ0_length_8abf5 trivial (Nat.le_of_ble_eq_true rfl) ?_
  change Ev kJ0_length_8abf5 RJ0 1 (d + 1) nox 0 [some (.ref 201)] [] h (some (.int 8)) h
  refine s_aload_n 0 rfl rfl <| s_gva 1 rfl <| s_bln 2 rfl <| s_aload_n 3 rfl rfl <| s_callT 4 [] [.int 8] rfl mj_RJ0_335 yw_J0_coder_7d493 rfl (okJ_coder d h) rfl rfl (Nat.le_of_ble_eq_true rfl) ?_
  show Ev kJ0_length_8abf5 RJ0 1 (d + 1) nox 9 [some (.ref 201)] [.int 0, .int 8] h (some (.int 8)) h
  exact s_ishr 5 rfl <| s_nmI (show jshr 8 0 = 8 by decide) <| s_iret 6 rfl
def canE (v : Int32) : Bool := if v < 0 then false else if 255 < v then false else true
theorem okJ_can (d : Nat) (v : Int32) (h : Sto) : Ok yJ1_canEncode_9a6ad cJ1_canEncode_9a6ad 1 (some .boolean) d [.int v] h (some (.int (b2i (canE v)))) h := by
  refine Ok_of (lst := kJ1_canEncode_9a6ad) (own := RJ1) ⟨by decide, rfl⟩ ckJ1_canEncode_9a6ad (b2i_01 _) (Nat.le_of_ble_eq_true rfl) ?_
  change Ev kJ1_canEncode_9a6ad RJ1 1 d nox 0 [some (.int v)] [] h (some (.int (b2i (canE v)))) h
  refine s_iload_n 0 rfl rfl <| ?_
  unfold canE
  by_cases g : v < 0
  · rw [if_pos g]
    exact s_if_lt_T 1 15 rfl (by decide) g <| s_iconst 0 7 rfl (by decide) <| s_iret 8 rfl
  · rw [if_neg g]
    refine s_if_lt_F 1 15 rfl (by decide) g <| s_iload_n 2 rfl rfl <| s_sipush 255 3 rfl (by decide) <| ?_
    by_cases g2 : (255 : Int32) < v
    · rw [if_pos g2]
      exact s_icmp_gt_T 4 15 rfl (by decide) g2 <| s_iconst 0 7 rfl (by decide) <| s_iret 8 rfl
    · rw [if_neg g2]
      exact s_icmp_gt_F 4 15 rfl (by decide) g2 <| s_iconst 1 5 rfl (by decide) <| s_goto 6 16 rfl (by decide) <| s_iret 8 rfl
/-- the place of a byte from k on -/
def scn (w : Int32) : Nat → Int32
  | 0 => -1
  | j + 1 => if ltF (8 - (j + 1)) = w then nI (8 - (j + 1)) else scn w j
theorem scn_ix : ∀ n, n < 256 → scn (nI n).toInt8.toInt32 8 = ixOf (nI n) := by decide +kernel
theorem lpC (d : Nat) (v w : Int32) (h : Sto) : ∀ j, j ≤ 8 → Ev kJ1_indexOfChar_4cfef RJ1 6 d nox 7 [some (.ref 203), some (.int v), some (.int 0), some (.int 8), some (.int w), some (.int (nI (8 - j)))] [] h (some (.int (scn w j))) h
  | 0, _ => by
    refine s_iload 5 rfl rfl <| s_iload_n 6 rfl rfl <| s_icmp_ge_T 7 31 rfl (by decide) (by decide) <| s_iconst (-1) 17 rfl (by decide) <| s_iret 18 rfl
  | j + 1, hj => by
    have h1 : ¬ (8 : Int32) ≤ nI (8 - (j + 1)) := by
      rw [show (8 : Int32) = nI 8 from rfl, nI_leI (by omega) (by omega)]; omega
    have h2 : inb (nI (8 - (j + 1))) 8 := nI_in (by omega) (by omega)
    have h3 : (nI (8 - (j + 1))).toNatClampNeg = 8 - (j + 1) := nI_clamp (by omega)
    refine s_iload 5 rfl rfl <| s_iload_n 6 rfl rfl <| s_icmp_ge_F 7 31 rfl (by decide) h1 <| s_aload_n 8 rfl rfl <| s_iload 9 rfl rfl <| s_bld 10 rfl h2 <| s_iload 11 rfl rfl <| ?_
    rw [h3]
    show Ev _ _ _ _ _ _ _ _ _ (some (.int (if ltF (8 - (j + 1)) = w then nI (8 - (j + 1)) else scn w j))) _
    by_cases g : ltF (8 - (j + 1)) = w
    · rw [if_pos g]
      exact s_icmp_ne_F 12 25 rfl (by decide) g <| s_iload 13 rfl rfl <| s_iret 14 rfl
    · rw [if_neg g]
      have e1 : nI (8 - (j + 1)) + 1 = nI (8 - j) := by
        rw [show (1 : Int32) = nI 1 from rfl, nI_add, show 8 - (j + 1) + 1 = 8 - j by omega]
      refine s_icmp_ne_T 12 25 rfl (by decide) g <| s_iinc 1 [some (.ref 203), some (.int v), some (.int 0), some (.int 8), some (.int w), some (.int (nI (8 - j)))] 15 rfl (by decide) rfl (by decide) (by rw [e1]; rfl) <| s_goto 16 7 rfl (by decide) <| ?_
      exact lpC d v w h j (by omega)
theorem okJ_chr (d : Nat) (v : Int32) (h : Sto) (hv : canE v = true) : Ok yJ1_indexOfChar_4cfef cJ1_indexOfChar_4cfef 6 (some .int) d [.ref 203, .int v, .int 0, .int 8] h (some (.int (ixOf v))) h := by
  refine Ok_of (lst := kJ1_indexOfChar_4cfef) (own := RJ1) ⟨by decide, rfl⟩ ckJ1_indexOfChar_4cfef trivial (Nat.le_of_ble_eq_true rfl) ?_
  change Ev kJ1_indexOfChar_4cfef RJ1 6 d nox 0 [some (.ref 203), some (.int v), some (.int 0), some (.int 8), none, none] [] h (some (.int (ixOf v))) h
  have hs : scn v.toInt8.toInt32 8 = ixOf v := by
    unfold canE at hv
    have h0 : ¬ v < 0 := fun q => by rw [if_pos q] at hv; cases hv
    rw [if_neg h0] at hv
    have h1 : ¬ (255 : Int32) < v := fun q => by rw [if_pos q] at hv; cases hv
    obtain ⟨n, hn, rfl⟩ := nI_of h0
    refine scn_ix n ?_
    rw [show (255 : Int32) = nI 255 from rfl, nI_ltI (by omega) hn] at h1
    omega
  refine s_iload_n 0 rfl rfl <| s_i2b 1 rfl <| s_istore [some (.ref 203), some (.int v), some (.int 0), some (.int 8), some (.int v.toInt8.toInt32), none] 2 rfl (by decide) rfl <| s_iload_n 3 rfl rfl <| s_istore [some (.ref 203), some (.int v), some (.int 0), some (.int 8), some (.int v.toInt8.toInt32), some (.int 0)] 4 rfl (by decide) rfl <| ?_
  rw [← hs]
  exact lpC d v _ h 8 (Nat.le_refl _)
theorem ix_out {v : Int32} (hv : ¬ canE v = true) : ixOf v = -1 := by
  unfold ixOf
  have : ∀ w : Int32, canE w = true → ¬ v = w := fun w hw q => hv (q ▸ hw)
  rw [if_neg (this _ (by decide)), if_neg (this _ (by decide)), if_neg (this _ (by decide)), if_neg (this _ (by decide)), if_neg (this _ (by decide)), if_neg (this _ (by decide)), if_neg (this _ (by decide)), if_neg (this _ (by decide))]
theorem okJ_ixl (d : Nat) (v : Int32) (h : Sto) : Ok yJ1_indexOf_4cfef cJ1_indexOf_4cfef 4 (some .int) (d + 1) [.ref 203, .int v, .int 0, .int 8] h (some (.int (ixOf v))) h := by
  refine Ok_of (lst := kJ1_indexOf_4cfef) (own := RJ1) ⟨by decide, rfl⟩ ckJ1_indexOf_4cfef trivial (Nat.le_of_ble_eq_true rfl) ?_
  change Ev kJ1_indexOf_4cfef RJ1 4 (d + 1) nox 0 [some (.ref 203), some (.int v), some (.int 0), some (.int 8)] [] h (some (.int (ixOf v))) h
  refine s_iload_n 0 rfl rfl <| s_callS 1 [.int v] [] rfl mj_RJ1_88 yw_J1_canEncode_9a6ad (okJ_can d v h) rfl rfl (Nat.le_of_ble_eq_true rfl) ?_
  show Ev kJ1_indexOf_4cfef RJ1 4 (d + 1) nox 4 [some (.ref 203), some (.int v), some (.int 0), some (.int 8)] [.int (b2i (canE v))] h (some (.int (ixOf v))) h
  by_cases g : canE v = true
  · refine s_if_ne_T 2 9 rfl (by decide) (b2i_T g) <| s_iload_n 5 rfl rfl <| s_iconst 0 6 rfl (by decide) <| s_max 7 rfl mj_max (Nat.le_of_ble_eq_true rfl) <| s_nmI (show (if (0 : Int32) < 0 then (0 : Int32) else 0) = 0 by decide) <| s_istore_n [some (.ref 203), some (.int v), some (.int 0), some (.int 8)] 8 rfl (by decide) rfl <| s_iload_n 9 rfl rfl <| s_aload_n 10 rfl rfl <| s_bln 11 rfl <| s_min 12 rfl mj_min mw_min (Nat.le_of_ble_eq_true rfl) <| s_nmI (show jmin 8 8 = 8 by decide) <| s_istore_n [some (.ref 203), some (.int v), some (.int 0), some (.int 8)] 13 rfl (by decide) rfl <| s_iload_n 14 rfl rfl <| s_iload_n 15 rfl rfl <| s_icmp_lt_T 16 29 rfl (by decide) (by decide) <| s_aload_n 19 rfl rfl <| s_iload_n 20 rfl rfl <| s_iload_n 21 rfl rfl <| s_iload_n 22 rfl rfl <| s_callS 23 [.ref 203, .int v, .int 0, .int 8] [] rfl mj_RJ1_95 yw_J1_indexOfChar_4cfef (okJ_chr d v h g) rfl rfl (Nat.le_of_ble_eq_true rfl) ?_
    exact s_iret 24 rfl
  · rw [ix_out g]
    exact s_if_ne_F 2 9 rfl (by decide) (b2i_F g) <| s_iconst (-1) 3 rfl (by decide) <| s_iret 4 rfl
theorem okJ_ix2 (d : Nat) (v : Int32) (h : Sto) : Ok yJ0_indexOf_7cf53 cJ0_indexOf_7cf53 3 (some .int) (d + 2) [.ref 201, .int v, .int 0] h (some (.int (ixOf v))) h := by
  refine Ok_of (lst := kJ0_indexOf_7cf53) (own := RJ0) ⟨by decide, rfl⟩ ckJ0_indexOf_7cf53 trivial (Nat.le_of_ble_eq_true rfl) ?_
  change Ev kJ0_indexOf_7cf53 RJ0 3 (d + 1 + 1) nox 0 [some (.ref 201), some (.int v), some (.int 0)] [] h (some (.int (ixOf v))) h
  refine s_aload_n 0 rfl rfl <| s_callT 1 [] [] rfl mj_RJ0_492 yw_J0_isLatin1_aae02 rfl (okJ_lat (d + 1) h) rfl rfl (Nat.le_of_ble_eq_true rfl) ?_
  show Ev kJ0_indexOf_7cf53 RJ0 3 (d + 1 + 1) nox 4 [some (.ref 201), some (.int v), some (.int 0)] [.int 1] h (some (.int (ixOf v))) h
  refine s_if_eq_F 2 23 rfl (by decide) (by decide) <| s_aload_n 3 rfl rfl <| s_gva 4 rfl <| s_iload_n 5 rfl rfl <| s_iload_n 6 rfl rfl <| s_aload_n 7 rfl rfl <| s_callT 8 [] [.int 0, .int v, .ref 203] rfl mj_RJ0_505 yw_J0_length_8abf5 rfl (okJ_len d h) rfl rfl (Nat.le_of_ble_eq_true rfl) ?_
  show Ev kJ0_indexOf_7cf53 RJ0 3 (d + 1 + 1) nox 17 [some (.ref 201), some (.int v), some (.int 0)] [.int 8, .int 0, .int v, .ref 203] h (some (.int (ixOf v))) h
  refine s_callS 9 [.ref 203, .int v, .int 0, .int 8] [] rfl mj_RJ0_637 yw_J1_indexOf_4cfef (okJ_ixl d v h) rfl rfl (Nat.le_of_ble_eq_true rfl) ?_
  exact s_goto 10 36 rfl (by decide) <| s_iret 18 rfl
theorem okJ_ix1 (d : Nat) (v : Int32) (h : Sto) : Ok yJ0_indexOf_0f7a4 cJ0_indexOf_0f7a4 2 (some .int) (d + 3) [.ref 201, .int v] h (some (.int (ixOf v))) h := by
  refine Ok_of (lst := kJ0_indexOf_0f7a4) (own := RJ0) ⟨by decide, rfl⟩ ckJ0_indexOf_0f7a4 trivial (Nat.le_of_ble_eq_true rfl) ?_
  change Ev kJ0_indexOf_0f7a4 RJ0 2 (d + 2 + 1) nox 0 [some (.ref 201), some (.int v)] [] h (some (.int (ixOf v))) h
  refine s_aload_n 0 rfl rfl <| s_iload_n 1 rfl rfl <| s_iconst 0 2 rfl (by decide) <| s_callT 3 [.int v, .int 0] [] rfl mj_RJ0_633 yw_J0_indexOf_7cf53 rfl (okJ_ix2 d v h) rfl rfl (Nat.le_of_ble_eq_true rfl) ?_
  exact s_iret 4 rfl
section ST2
variable {lst : Lst} {own : String} {nL d pc pc' : Nat} {x : Scr} {ls : List (Option Value)} {st : List Value} {h h' : Sto} {r : Option Value}
theorem s_indexOf {idx : Nat} {v : Int32} (i : Nat) (hi : lst[i]? = some (pc, .invokevirtual idx, 3, pc')) (hl : Cond.methodLink own idx yJ0_indexOf_0f7a4 ∈ gtb) (hc : (st.map Value.category).sum ≤ 8) (k : Ev lst own nL (d + 12) x pc' ls (.int (ixOf v) :: st) h r h') : Ev lst own nL (d + 12) x pc ls (.int v :: .ref 201 :: st) h r h' :=
  s_callT (d := d + 11) i [.int v] st hi hl yw_J0_indexOf_0f7a4 rfl (okJ_ix1 (d + 8) v h) rfl rfl hc k
end ST2
