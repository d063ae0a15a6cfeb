/-! 04 calls: a call over Ev by the callee's Ok; a method's Ok out of its Ev; the library's own members; switches -/
theorem run_ev {p : Program} {l : Launch} {e : Env} {R : Room} {s : State} {m : MethodId} {args : Array Value} {below : List Frame} {meth : Method} {c : Code} {H : Heap} {locs : List Loc} {cells slots : Nat} {Q : State → Prop} {D : va_G} {dA : Nat → ClassId} {ad : Nat → Nat} {H0 : Heap} {pc : Nat} {lv : Array Slot} {st0 rest : List Value} {rv : Option Value} {h1 : Sto} {a : Array Value}
    (hr : va_Run p l e R s m args below meth c H locs cells slots 0 0 (F0 m pc lv st0) rest (QcA D dA ad rv h1 a) (wrA ad)) (hS : va_S (wrA ad) H0 H locs)
    (kk : ∀ (H1 : Heap) (locs1 : List Loc), va_P D vwCl (wsl dA ad h1) H1 → va_S (wrA ad) H0 H1 locs1 → W p l e R s m args below meth c H1 locs1 cells slots Q (F0 m (pc + 3) lv ((rv.map (cv ad)).toList ++ rest))) : W p l e R s m args below meth c H locs cells slots Q (F0 m pc lv st0) := by
  intro T hT X
  obtain ⟨v, st₀, t, T', L, h0, X', hL, e1, e2, ⟨hv, hp, hz, hk⟩, st⟩ := hr T hT X
  cases hv
  rw [h0] at hz hk
  obtain ⟨t2, a1, b1⟩ := kk T'.heap (locs ++ L) (by rw [e1]; exact hp)
    ⟨Nat.le_trans hS.1 (by rw [e1]; exact hz), fun q h1 h2 => by rw [e1, hk q (Nat.lt_of_lt_of_le h1 hS.1) h2]; exact hS.2.1 q h1 h2, fun q hq => by
      rcases List.mem_append.mp hq with h | h
      · exact hS.2.2 q h
      · exact hL q h⟩ T' rfl X'
  exact ⟨t2, st t2 a1, b1⟩
/-- a static method of ours, a method of an object -/
def YN (y : MethodName) (nL n : Nat) : Prop := (y.cls ≠ "java/lang/invoke/MethodHandle" ∧ y.cls ≠ "java/lang/invoke/VarHandle" ∧ (parseMethodDescriptor y.desc).map (fun d => d.parameters.length) = some n) ∧ nL ≤ 40
def YS (y : MethodName) (cc : ByteArray) (nL : Nat) (rt : Option FieldType) (n : Nat) : Prop := Cond.code y cc nL rt ∈ gtb ∧ Cond.static y ∈ gtb ∧ Cond.initialized y.cls ∈ gtb ∧ YN y nL n
def YV (y : MethodName) (cc : ByteArray) (nL : Nat) (rt : Option FieldType) (n : Nat) : Prop := Cond.code y cc nL rt ∈ gtb ∧ Cond.instanceMethod y ∈ gtb ∧ Cond.selects y.cls y y ∈ gtb ∧ Cond.initialized y.cls ∈ gtb ∧ YN y nL n
theorem PcA_at {s U : State} {H H0 : Heap} {D : va_G} {dA : Nat → ClassId} {ad : Nat → Nat} {x : Scr} {av : List Value} {h : Sto} {locs : List Loc} (hK : va_K D vwCl (tysA dA) s) (hN : NS ad s) (hO : Ro ad x s H0) (hS : va_S (wrA ad) H0 H locs) (hP : va_P D vwCl (wsl dA ad h) H) (hU : U.heap = H) (hW : s.WarmedH U.vm) : PcA D dA ad av h (av.map (cv ad)).toArray U :=
  ⟨rfl, by rw [hU]; exact hP, va_K.moved hW.alike hK, ns_warm hW hN, by rw [hU]; exact ((hO.no.kept hS.2.1).moved hW.alike)⟩
theorem cat_sum (ad : Nat → Nat) : ∀ st : List Value, ((st.map (cv ad)).map fun v => v.category).sum = (st.map Value.category).sum
  | [] => rfl
  | v :: t => by simp only [List.map_cons, List.sum_cons, cv_cat, cat_sum ad t]
theorem rm_le {d nL : Nat} {R : Room} {cells slots : Nat} (hR : RmOk (d + 1) R cells slots) (hn : nL ≤ 40) : (rmd d).frames + 1 ≤ R.frames ∧ 8 + (nL + 11) + (rmd d).locals ≤ R.locals := by
  obtain ⟨h1, h2, -, -⟩ := hR
  refine ⟨h1, ?_⟩
  show 8 + (nL + 11) + 64 * d ≤ R.locals
  omega
section CALLS
variable {lst : Lst} {own : String} {nL d pc pc' : Nat} {x : Scr} {ls : List (Option Value)} {st : List Value} {h h' h1 : Sto} {r rv : Option Value}
theorem s_callS {idx n nL2 : Nat} {y : MethodName} {cc2 : ByteArray} {rt : Option FieldType} (i : Nat) (av rest : List Value) (hi : lst[i]? = some (pc, .invokestatic idx, 3, pc')) (hl : Cond.methodLink own idx y ∈ gtb) (hy : YS y cc2 nL2 rt n) (hok : Ok y cc2 nL2 rt d av h rv h1) (hst : st = av.reverse ++ rest) (hn : av.length = n) (hc : (rest.map Value.category).sum ≤ 8) (k : Ev lst own nL (d + 1) x pc' ls (rv.toList ++ rest) h1 r h') : Ev lst own nL (d + 1) x pc ls st h r h' := by
  intro p l e R s m args below meth c cells slots Q cc D dA ad H0 hC hL hR hO hr H locs lv hlv hP hS
  obtain ⟨hd, hp⟩ := hL _ (List.mem_of_getElem? hi)
  dsimp only at hd hp
  subst hp; subst hst
  obtain ⟨hx, hb, hml, hown, hts, hK, hI, hN⟩ := id hC
  obtain ⟨y1, y2, y3, y4, y5⟩ := hy
  refine run_ev (rest := rest.map (cv ad)) (va_runS (As := av.map (cv ad)) ⟨hx, hb, hml, hown, hts⟩ (hok l D dA ad hI) ⟨callB_of n hts (gt_goodL y1) rfl rfl rfl (hts _ y3) (hts _ hl) y4 (rm_le hR y5), hts _ y2⟩ ⟨PcA_blind, fun U hU hW => PcA_at hK hN hO hS hP hU hW⟩ rfl (by simpa using hn) hlv.1 (by simp [List.map_reverse]) (lv_room (by rw [cat_sum]; exact hc)) hd ⟨hR.2.2.1, hR.2.2.2⟩) hS (fun H1 locs1 hP1 hS1 => ?_)
  have := k p l e R s m args below meth c cells slots Q cc D dA ad H0 hC hL hR hO hr H1 locs1 lv hlv hP1 hS1
  cases rv <;> simpa using this
theorem s_callSN {idx n nL2 : Nat} {y : MethodName} {cc2 : ByteArray} {rt : Option FieldType} {host : String} (i : Nat) (av rest : List Value) (hi : lst[i]? = some (pc, .invokestatic idx, 3, pc')) (hl : Cond.methodLinkNest own idx y host ∈ nst) (hy : YS y cc2 nL2 rt n) (hok : Ok y cc2 nL2 rt d av h rv h1) (hst : st = av.reverse ++ rest) (hn : av.length = n) (hc : (rest.map Value.category).sum ≤ 8) (k : Ev lst own nL (d + 1) x pc' ls (rv.toList ++ rest) h1 r h') : Ev lst own nL (d + 1) x pc ls st h r h' := by
  intro p l e R s m args below meth c cells slots Q cc D dA ad H0 hC hL hR hO hr H locs lv hlv hP hS
  obtain ⟨hd, hp⟩ := hL _ (List.mem_of_getElem? hi)
  dsimp only at hd hp
  subst hp; subst hst
  obtain ⟨hx, hb, hml, hown, hts, hK, hI, hN⟩ := id hC
  obtain ⟨y1, y2, y3, y4, y5⟩ := hy
  refine run_ev (rest := rest.map (cv ad)) (va_runSN (As := av.map (cv ad)) ⟨hx, hb, hml, hown, hts⟩ (hok l D dA ad hI) ⟨va_cnB n hts (gt_goodL y1) rfl rfl rfl (hN.1 _ hl) (hts _ y3) y4 (rm_le hR y5), hts _ y2, trivial⟩ ⟨PcA_blind, fun U hU hW => PcA_at hK hN hO hS hP hU hW⟩ rfl (by simpa using hn) hlv.1 (by simp [List.map_reverse]) (lv_room (by rw [cat_sum]; exact hc)) hd ⟨hR.2.2.1, hR.2.2.2⟩) hS (fun H1 locs1 hP1 hS1 => ?_)
  have := k p l e R s m args below meth c cells slots Q cc D dA ad H0 hC hL hR hO hr H1 locs1 lv hlv hP1 hS1
  cases rv <;> simpa using this
theorem recv_at {s : State} {H : Heap} {D : va_G} {dA : Nat → ClassId} {ad : Nat → Nat} {h : Sto} {b ci z : Nat} {fs : List (Option Nat)} {q : vw_C} (hK : va_K D vwCl (tysA dA) s) (hP : va_P D vwCl (wsl dA ad h) H) (hs : shp b = (ci + 10, z, fs)) (hv : vwCl[ci]? = some q) : ∃ cell : Cell, H[ad b]? = some cell ∧ cell.vm.isStatics = false ∧ s.vm.findClass q.1 = some cell.cls := by
  have hc : b < 96 := shp_lt hs (by show ci + 10 ≠ 9; omega)
  exact va_recv hK hP hv (by rw [wsl_at hc, cellE_obj hs])
theorem s_callV {idx n nL2 b ci z : Nat} {fs : List (Option Nat)} {q : vw_C} {y : MethodName} {cc2 : ByteArray} {rt : Option FieldType} (i : Nat) (av rest : List Value) (hi : lst[i]? = some (pc, .invokevirtual idx, 3, pc')) (hl : Cond.methodLink own idx y ∈ gtb) (hy : YV y cc2 nL2 rt n) (hs : shp b = (ci + 10, z, fs)) (hv : vwCl[ci]? = some q) (hq : q.1 = y.cls) (hok : Ok y cc2 nL2 rt d (.ref b :: av) h rv h1) (hst : st = av.reverse ++ .ref b :: rest) (hn : av.length = n) (hc : (rest.map Value.category).sum ≤ 8) (k : Ev lst own nL (d + 1) x pc' ls (rv.toList ++ rest) h1 r h') : Ev lst own nL (d + 1) x pc ls st h r h' := by
  intro p l e R s m args below meth c cells slots Q cc D dA ad H0 hC hL hR hO hr H locs lv hlv hP hS
  obtain ⟨hd, hp⟩ := hL _ (List.mem_of_getElem? hi)
  dsimp only at hd hp
  subst hp; subst hst
  obtain ⟨hx, hb, hml, hown, hts, hK, hI, hN⟩ := id hC
  obtain ⟨y1, y2, y3, y4, y5, y6⟩ := hy
  refine run_ev (rest := rest.map (cv ad)) (va_runV (C := y.cls) (b := ad b) (As := av.map (cv ad)) ⟨hx, hb, hml, hown, hts⟩ (hok l D dA ad hI) ⟨callB_of n hts (gt_goodL y1) rfl rfl rfl (hts _ y4) (hts _ hl) y5 (rm_le hR y6), hts _ y2, hts _ y3⟩ ⟨PcA_blind, by rw [← hq]; exact recv_at hK hP hs hv, fun U hU hW => PcA_at (av := .ref b :: av) hK hN hO hS hP hU hW⟩ rfl (by simpa using hn) hlv.1 (by simp [List.map_reverse, cv]) (lv_room (by rw [cat_sum]; exact hc)) hd ⟨hR.2.2.1, hR.2.2.2⟩) hS (fun H1 locs1 hP1 hS1 => ?_)
  have := k p l e R s m args below meth c cells slots Q cc D dA ad H0 hC hL hR hO hr H1 locs1 lv hlv hP1 hS1
  cases rv <;> simpa using this
theorem s_callVN {idx n nL2 b ci z : Nat} {fs : List (Option Nat)} {q : vw_C} {y : MethodName} {cc2 : ByteArray} {rt : Option FieldType} {host : String} (i : Nat) (av rest : List Value) (hi : lst[i]? = some (pc, .invokevirtual idx, 3, pc')) (hl : Cond.methodLinkNest own idx y host ∈ nst) (hy : YV y cc2 nL2 rt n) (hs : shp b = (ci + 10, z, fs)) (hv : vwCl[ci]? = some q) (hq : q.1 = y.cls) (hok : Ok y cc2 nL2 rt d (.ref b :: av) h rv h1) (hst : st = av.reverse ++ .ref b :: rest) (hn : av.length = n) (hc : (rest.map Value.category).sum ≤ 8) (k : Ev lst own nL (d + 1) x pc' ls (rv.toList ++ rest) h1 r h') : Ev lst own nL (d + 1) x pc ls st h r h' := by
  intro p l e R s m args below meth c cells slots Q cc D dA ad H0 hC hL hR hO hr H locs lv hlv hP hS
  obtain ⟨hd, hp⟩ := hL _ (List.mem_of_getElem? hi)
  dsimp only at hd hp
  subst hp; subst hst
  obtain ⟨hx, hb, hml, hown, hts, hK, hI, hN⟩ := id hC
  obtain ⟨y1, y2, y3, y4, y5, y6⟩ := hy
  refine run_ev (rest := rest.map (cv ad)) (va_runVN (C := y.cls) (b := ad b) (As := av.map (cv ad)) ⟨hx, hb, hml, hown, hts⟩ (hok l D dA ad hI) ⟨va_cnB n hts (gt_goodL y1) rfl rfl rfl (hN.1 _ hl) (hts _ y4) y5 (rm_le hR y6), hts _ y2, hts _ y3⟩ ⟨PcA_blind, by rw [← hq]; exact recv_at hK hP hs hv, fun U hU hW => PcA_at (av := .ref b :: av) hK hN hO hS hP hU hW⟩ rfl (by simpa using hn) hlv.1 (by simp [List.map_reverse, cv]) (lv_room (by rw [cat_sum]; exact hc)) hd ⟨hR.2.2.1, hR.2.2.2⟩) hS (fun H1 locs1 hP1 hS1 => ?_)
  have := k p l e R s m args below meth c cells slots Q cc D dA ad H0 hC hL hR hO hr H1 locs1 lv hlv hP1 hS1
  cases rv <;> simpa using this
-- the library's own members
def jmin (v w : Int32) : Int32 := if w < v then w else v
def jabs (v : Int64) : Int64 := if 0 < v then v else -v
theorem s_min {idx : Nat} {v w : Int32} (i : Nat) (hi : lst[i]? = some (pc, .invokestatic idx, 3, pc')) (hl : Cond.methodLink own idx Lib.Math.min.name ∈ gtb) (hw : Cond.static Lib.Math.min.name ∈ gtb ∧ Cond.initialized "java/lang/Math" ∈ gtb ∧ Cond.code Lib.Math.min.name Lib.Math.min.code 2 (some .int) ∈ gtb) (hc : (st.map Value.category).sum ≤ 8) (k : Ev lst own nL (d + 1) x pc' ls (.int (jmin v w) :: st) h r h') : Ev lst own nL (d + 1) x pc ls (.int w :: .int v :: st) h r h' := by
  intro p l e R s m args below meth c cells slots Q cc D dA ad H0 hC hL hR hO hr H locs lv hlv hP hS
  obtain ⟨hd, hp⟩ := hL _ (List.mem_of_getElem? hi)
  dsimp only at hd hp
  subst hp
  have h5 := hC.2.2.2.2.1
  refine va_mmin hC.1 hC.2.1 (hC.2.2.1.trans hlv.1.symm) hC.2.2.2.1 (h5 _ hl) (h5 _ hw.1) (h5 _ hw.2.1) (h5 _ hw.2.2) (by have := hR.1; omega) (by rw [cat_sum]; have := hR.2.1; omega) hR.2.2.1 hR.2.2.2 hd ?_
  exact k p l e R s m args below meth c cells slots Q cc D dA ad H0 hC hL hR hO hr H locs lv hlv hP hS
theorem s_abs {idx : Nat} {v : Int64} (i : Nat) (hi : lst[i]? = some (pc, .invokestatic idx, 3, pc')) (hl : Cond.methodLink own idx Lib.MathLoose.abs_long.x ∈ gtb) (hw : Cond.static Lib.MathLoose.abs_long.x ∈ gtb ∧ Cond.initialized "java/lang/Math" ∈ gtb ∧ Cond.code Lib.MathLoose.abs_long.x Lib.MathLoose.abs_long.code 2 (some .long) ∈ gtb) (hc : (st.map Value.category).sum ≤ 8) (k : Ev lst own nL (d + 1) x pc' ls (.long (jabs v) :: st) h r h') : Ev lst own nL (d + 1) x pc ls (.long v :: st) h r h' := by
  intro p l e R s m args below meth c cells slots Q cc D dA ad H0 hC hL hR hO hr H locs lv hlv hP hS
  obtain ⟨hd, hp⟩ := hL _ (List.mem_of_getElem? hi)
  dsimp only at hd hp
  subst hp
  have h5 := hC.2.2.2.2.1
  refine va_mabs_long hC.1 hC.2.1 (hC.2.2.1.trans hlv.1.symm) hC.2.2.2.1 (h5 _ hl) (h5 _ hw.1) (h5 _ hw.2.1) (h5 _ hw.2.2) (by have := hR.1; omega) (by rw [cat_sum]; have := hR.2.1; omega) hR.2.2.1 hR.2.2.2 hd ?_
  exact k p l e R s m args below meth c cells slots Q cc D dA ad H0 hC hL hR hO hr H locs lv hlv hP hS
theorem s_copy {idx a b n0 n1 : Nat} {fs gs : List (Option Nat)} {sp dp n : Int32} (i : Nat) (hi : lst[i]? = some (pc, .invokestatic idx, 3, pc')) (hl : Cond.methodLink own idx arraycopyName ∈ gtb) (hw : Cond.native arraycopyName ∈ gtb ∧ Cond.static arraycopyName ∈ gtb ∧ Cond.initialized "java/lang/System" ∈ gtb) (hs : shp a = (0, n0, fs)) (ht : shp b = (0, n1, gs)) (hin : (¬ sp < 0 ∧ ¬ dp < 0 ∧ ¬ n < 0) ∧ sp.toNatClampNeg + n.toNatClampNeg ≤ n0 ∧ dp.toNatClampNeg + n.toNatClampNeg ≤ n1) (hc : (st.map Value.category).sum ≤ 8) (k : Ev lst own nL (d + 1) x pc' ls st (sr h b (va_cpy (h a) (h b) sp.toNatClampNeg dp.toNatClampNeg n.toNatClampNeg)) r h') : Ev lst own nL (d + 1) x pc ls (.int n :: .int dp :: .ref b :: .int sp :: .ref a :: st) h r h' := by
  intro p l e R s m args below meth c cells slots Q cc D dA ad H0 hC hL hR hO hr H locs lv hlv hP hS
  obtain ⟨hd, hp⟩ := hL _ (List.mem_of_getElem? hi)
  dsimp only at hd hp
  subst hp
  have h5 := hC.2.2.2.2.1
  have ha : a < 96 := shp_lt hs (by show (0 : Nat) ≠ 9; decide)
  have hb : b < 96 := shp_lt ht (by show (0 : Nat) ≠ 9; decide)
  have e0 : (wsl dA ad h)[a]? = some (ad a, .inl (dA 0, n0, .inl (h a))) := by rw [wsl_at ha, hs]; rfl
  have e1 : (wsl dA ad h)[b]? = some (ad b, .inl (dA 0, n1, .inl (h b))) := by rw [wsl_at hb, ht]; rfl
  have hnf : nativeFrameWords "java/lang/System" "arraycopy" 5 ≤ 40 := by decide +kernel
  have h64 := hR.2.1
  refine va_copyi (ty := .int) hC.1 hC.2.1 (hC.2.2.1.trans hlv.1.symm) hC.2.2.2.1 (h5 _ hl) (h5 _ hw.1) (h5 _ hw.2.1) (h5 _ hw.2.2) hC.2.2.2.2.2.1 hP (wsl_D hC.2.2.2.2.2.2.1) hS a b 0 0 e0 e1 rfl rfl rfl hin.1.1 hin.1.2.1 hin.1.2.2 hin.2.1 hin.2.2 (fun _ _ => rfl) (by have := hR.1; omega) (by rw [cat_sum]; omega) hd (fun H1 locs1 hP1 hD1 hS1 => ?_)
  have hP2 : va_P D vwCl (wsl dA ad (sr h b (va_cpy (h a) (h b) sp.toNatClampNeg dp.toNatClampNeg n.toNatClampNeg))) H1 := by
    rw [← wsl_set, ht]
    exact hP1
  exact k p l e R s m args below meth c cells slots Q cc D dA ad H0 hC hL hR hO hr H1 locs1 lv hlv hP2 hS1
-- switches
theorem s_swIn {dflt lo hi2 : Int} {offs : Array Int} {len : Nat} {off : Int} {v : Int32} (w : Int32) (i tgt : Nat) (hi : lst[i]? = some (pc, .tableswitch dflt lo hi2 offs, len, pc')) (hv : v = w) (hw : (¬ w.toInt < lo ∧ ¬ hi2 < w.toInt) ∧ offs[(w.toInt - lo).toNat]? = some off ∧ (pc : Int) + off = (tgt : Int)) (k : Ev lst own nL d x tgt ls st h r h') : Ev lst own nL d x pc ls (.int v :: st) h r h' := by
  intro p l e R s m args below meth c cells slots Q cc D dA ad H0 hC hL hR hO hr H locs lv hlv hP hS
  obtain ⟨hd, hp⟩ := hL _ (List.mem_of_getElem? hi)
  dsimp only at hd hp
  subst hv
  exact lv_tableIn hC.1 hC.2.1 hd hw.1.1 hw.1.2 hw.2.1 hw.2.2 (k p l e R s m args below meth c cells slots Q cc D dA ad H0 hC hL hR hO hr H locs lv hlv hP hS)
theorem s_swOut {dflt lo hi2 : Int} {offs : Array Int} {len : Nat} {v : Int32} (a b : Int32) (i tgt : Nat) (hi : lst[i]? = some (pc, .tableswitch dflt lo hi2 offs, len, pc')) (hv : v < a ∨ b < v) (hw : a.toInt = lo ∧ b.toInt = hi2 ∧ (pc : Int) + dflt = (tgt : Int)) (k : Ev lst own nL d x tgt ls st h r h') : Ev lst own nL d x pc ls (.int v :: st) h r h' := by
  intro p l e R s m args below meth c cells slots Q cc D dA ad H0 hC hL hR hO hr H locs lv hlv hP hS
  obtain ⟨hd, hp⟩ := hL _ (List.mem_of_getElem? hi)
  dsimp only at hd hp
  exact lv_tableOut hC.1 hC.2.1 hd (by rw [← hw.1, ← hw.2.1]; exact hv.imp Int32.lt_iff_toInt_lt.mp Int32.lt_iff_toInt_lt.mp) hw.2.2 (k p l e R s m args below meth c cells slots Q cc D dA ad H0 hC hL hR hO hr H locs lv hlv hP hS)
theorem s_lsw {dflt : Int} {ps : Array (Int × Int)} {len : Nat} {off : Int} {v : Int32} (i tgt : Nat) (hi : lst[i]? = some (pc, .lookupswitch dflt ps, len, pc')) (hp2 : (ps.toList.zip (ps.toList.drop 1)).all (fun (a, next) => a.1 < next.1) = true) (ho : Op.lookupswitch.offset ps.toList dflt v.toInt = off) (ht : (pc : Int) + off = (tgt : Int)) (k : Ev lst own nL d x tgt ls st h r h') : Ev lst own nL d x pc ls (.int v :: st) h r h' := by
  intro p l e R s m args below meth c cells slots Q cc D dA ad H0 hC hL hR hO hr H locs lv hlv hP hS
  obtain ⟨hd, hp⟩ := hL _ (List.mem_of_getElem? hi)
  dsimp only at hd hp
  exact lv_lookup hC.1 hC.2.1 hd hp2 ho ht (k p l e R s m args below meth c cells slots Q cc D dA ad H0 hC hL hR hO hr H locs lv hlv hP hS)
end CALLS
-- a method's contract
def entL : List Value → Nat → List (Option Value)
  | [], n => List.replicate n none
  | .long v :: t, n => some (.long v) :: none :: entL t (n - 2)
  | .double v :: t, n => some (.double v) :: none :: entL t (n - 2)
  | v :: t, n => some v :: entL t (n - 1)
theorem entL_get (ad : Nat → Nat) : ∀ (av : List Value) (n i j : Nat) (v : Value), (entL av n)[j]? = some (some v) → (i + j, cv ad v) ∈ lv_args i (av.map (cv ad)) := by
  intro av
  induction av with
  | nil => intro n i j v hj; simp [entL, List.getElem?_replicate] at hj
  | cons w t ih =>
    intro n i j v hj
    have one : w.category = 1 → entL (w :: t) n = some w :: entL t (n - 1) → (i + j, cv ad v) ∈ lv_args i ((w :: t).map (cv ad)) := by
      intro hc he
      rw [he] at hj
      show _ ∈ (i, cv ad w) :: lv_args _ _
      rw [cv_cat, hc]
      cases j with
      | zero => simp at hj; subst hj; exact List.mem_cons_self
      | succ j =>
        refine List.mem_cons_of_mem _ ?_
        have := ih (n - 1) (i + 1) j v (by simpa using hj)
        rw [if_neg (by decide)]
        rw [show i + (j + 1) = i + 1 + j by omega]
        exact this
    have two : w.category = 2 → entL (w :: t) n = some w :: none :: entL t (n - 2) → (i + j, cv ad v) ∈ lv_args i ((w :: t).map (cv ad)) := by
      intro hc he
      rw [he] at hj
      show _ ∈ (i, cv ad w) :: lv_args _ _
      rw [cv_cat, hc]
      match j with
      | 0 => simp at hj; subst hj; exact List.mem_cons_self
      | 1 => simp at hj
      | j + 2 =>
        refine List.mem_cons_of_mem _ ?_
        have := ih (n - 2) (i + 2) j v (by simpa using hj)
        rw [if_pos rfl]
        rw [show i + (j + 2) = i + 2 + j by omega]
        exact this
    cases w <;> first | exact one rfl rfl | exact two rfl rfl
def RtOk : Option FieldType → Option Value → Prop
  | none, none => True
  | some .int, some (.int _) => True
  | some .boolean, some (.int v) => v = 0 ∨ v = 1
  | some .byte, some (.int v) => v = 0
  | _, _ => False
theorem sl_len (ad : Nat → Nat) : ∀ av : List Value, (lg_sl (av.map (cv ad))).length = (av.map Value.category).sum
  | [] => rfl
  | v :: t => by
    have := sl_len ad t
    simp only [lg_sl, List.map_cons, List.flatMap_cons, List.length_append, List.sum_cons] at this ⊢
    rw [this]
    have hv : ∀ w : Value, (if w.category = 2 then [Slot.val w, .second] else [.val w]).length = w.category := by
      intro w; cases w <;> rfl
    rw [hv, cv_cat]
theorem Ok_of {y : MethodName} {cc : ByteArray} {nL : Nat} {rt : Option FieldType} {d : Nat} {av : List Value} {h h' : Sto} {r : Option Value} {lst : Lst} {own : String} (hy : plainName y.cls = true ∧ y.cls = own) (hl : ∀ q ∈ lst, Dc cc q) (hrt : RtOk rt r) (hlen : (av.map Value.category).sum ≤ nL) (he : Ev lst own nL d nox 0 (entL av nL) [] h r h') : Ok y cc nL rt d av h r h' := by
  intro l D dA ad hI
  refine Met.ofW (cc := cc) (maxL := nL) (ret := rt) hy.1 rfl ?_
  intro p e s m args below meth c s₁ B hml hv
  obtain ⟨rfl, hP, hK, hN, hO⟩ := hv
  have hx := B.exec
  have hb := B.bytes
  have hr := B.returns
  have hts := atoms_spec (ws := .code y cc nL rt :: gtb) B.pre
  have hown : s.vm.findClass own = some m.cls := hy.2 ▸ findClass_of_methodNamed B.named
  have hlocks := B.notSynchronized
  have hl0 := lv_entry (av.map (cv ad)) (n := nL) (by rw [sl_len]; exact hlen)
  rw [lg_entry_eq]
  generalize (lg_sl (av.map (cv ad)) ++ List.replicate (nL - (lg_sl (av.map (cv ad))).length) Slot.unset).toArray = lv at hl0 ⊢
  have hlv : LH ad lv nL (entL av nL) := ⟨hl0.1, hl0.2.1, fun i v hi => hl0.2.2 (i, cv ad v) (by have := entL_get ad av nL 0 i v hi; rwa [Nat.zero_add] at this)⟩
  refine he p l e (headSpec (.code y cc nL rt :: gtb) (rmd d)).room s m _ below meth c 0 0 _ cc D dA ad s.heap ⟨hx, hb, hml, hown, fun w hw => hts w (List.mem_cons_of_mem _ hw), hK, hI, hN⟩ hl ⟨Nat.le_refl _, Nat.le_refl _, Nat.le_refl _, Nat.le_refl _⟩ hO ?_ s.heap [] lv hlv hP va_S.rf
  intro pcr H locs lv2 hR hsz hP2 hS2
  have hq : ∀ t : State, t.heap = H → s.WarmedH t.vm → QcA D dA ad r h' (av.map (cv ad)).toArray s (.returned (r.map (cv ad))) t := fun t ht _ => ⟨rfl, by rw [ht]; exact hP2, hS2.F ht⟩
  match rt, r, hrt with
  | none, none, _ => exact W.vret hx hb hr hq hS2.2.2 hR
  | some .int, some (.int v), _ => exact W.iret hx hb hr hq hS2.2.2 hR
  | some .boolean, some (.int v), hz =>
    refine W.zret (ty := .boolean) hx hb hr ?_ hq hS2.2.2 hR
    rcases hz with rfl | rfl <;> decide
  | some .byte, some (.int v), hz =>
    refine W.zret (ty := .byte) hx hb hr ?_ hq hS2.2.2 hR
    cases hz; decide
theorem elL {α β γ : Type} {f : α → Option γ} {g : β → Option γ} {v : α} {r : γ} (e : Sum.elim f g (.inl v) = some r) : f v = some r := e
theorem elR {α β γ : Type} {f : α → Option γ} {g : β → Option γ} {v : β} {r : γ} (e : Sum.elim f g (.inr v) = some r) : g v = some r := e
