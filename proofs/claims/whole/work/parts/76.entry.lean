/-! 76: the law from its entry (written by wip/whole/gen_whole.py) -/
theorem law_mk {p : Program} {l : Launch} {e : Env} {R : Room} {s : State} {m : MethodId} {args : Array Value} {below : List Frame} {meth : Method} {c : Code} {cells slots : Nat} {Q : State → Prop} {cc : ByteArray} {D : va_G} {dA : Nat → ClassId} {H0 : Heap} {A : Nat → Prop} {own : String} {nL d pc idx idx2 ci N mc1 ms1 nL2 : Nat} {n : Fin 4} {fs : List Value} {y : MethodName} {cc2 : ByteArray} {P1 : (Nat → ClassId) → Nat → va_W → Prop} {ls : List (Option Value)} {ws : va_W}
    (hx : p.tables.exec = Jvm.exec) (hb : c.code = cc) (hml : c.maxLocals = nL) (hown : s.vm.findClass own = some m.cls) (hts : ∀ w ∈ gtb, w.before args s = true) (hK : va_K D vwCl (tysA dA) s) (hAC : ArrC dA s) (hN : ∀ w ∈ nst, va_Nw w s) (hR : RmN (d + 1) (1 + mc1) (N + ms1) R cells slots) (hA : ∀ q, H0.size ≤ q → A q)
    (d1 : decode cc pc = .ok (.new idx, 3)) (d2 : decode cc (pc + 3) = .ok (.dup, 1)) (d3 : decode cc (pc + 3 + 1) = .ok (.invokespecial idx2, 3)) (d4 : decode cc (pc + 3 + 1 + 3) = .ok (.astore_n n, 1))
    (hw : NW own idx ci N fs) (hl : Cond.methodLink own idx2 y ∈ gtb) (hy : YI y cc2 nL2) (hok : OkC y cc2 nL2 d ci fs mc1 ms1 P1) (hn : (n : Nat) < nL)
    (k : ∀ (q : Nat) (w1 : va_W) (H1 : Heap) (locs1 : List Loc) (lv1 : Array Slot), P1 dA q w1 → LH id lv1 nL (st1 ls (n : Nat) (.ref q)) → va_P D vwCl (ws ++ w1) H1 → va_D A (ws ++ w1) → va_S A H0 H1 locs1 → W p l e R s m args below meth c H1 locs1 (cells + 1 + mc1) (slots + N + ms1) Q (F0 m (pc + 3 + 1 + 3 + 1) lv1 [])) :
    ∀ (H : Heap) (locs : List Loc) (lv : Array Slot), LH id lv nL ls → va_P D vwCl ws H → va_D A ws → va_S A H0 H locs → W p l e R s m args below meth c H locs cells slots Q (F0 m pc lv []) := by
  intro H locs lv hlv hP hD hS
  obtain ⟨C, T, ty0, ⟨k1, k2, k3, k4⟩, w1, w2, w3, w4⟩ := hw
  obtain ⟨y1, y2, y3, y4, y5, y6⟩ := hy
  refine va_new (fs := fs) hx hb hts k2 ty0 k3 hown (hts _ w1) (hts _ w2) (hts _ w3) hK hP hD hS hA k1 w4 (by have := hR.2.2.1; omega) (by have := hR.2.2.2; omega) d1 (fun q H1 hP1 hD1 hS1 => ?_)
  refine lv_dup hx hb d2 rfl ?_
  have hq : (ws ++ [((q, .inr (ci, fs)) : Nat × va_E)])[ws.length]? = some (q, .inr (ci, fs)) := by simp
  have hPc : va_P D vwCl [(q, .inr (ci, fs))] H1 := by
    intro k0 z hk
    cases k0 with
    | zero => cases hk; exact hP1 _ _ hq
    | succ k0 => simp at hk
  have hFc : ∀ z, va_A [(q, .inr (ci, fs))] H1.size z → A z := by
    rintro z (⟨k0, e0, h⟩ | h)
    · cases k0 with
      | zero => cases h; exact hD1.2 _ _ hq
      | succ k0 => simp at h
    · exact hA z (Nat.le_trans hS1.1 h)
  have rm := rm_leN (mc1 := mc1) (ms1 := ms1) (nL := nL2) hR y6
  have pre : PreS s H1 (PcN D dA q ci fs H1.size) (.ref q :: []) := ⟨PcN_blind, fun U hU hW => ⟨rfl, by rw [hU], by rw [hU]; exact hPc, va_K.moved hW.alike hK, hAC.moved hW.alike, nst_warm hW hN⟩⟩
  have run : va_Run p l e R s m args below meth c H1 locs (cells + 1) (slots + N) mc1 ms1 (F0 m (pc + 3 + 1) lv [.ref q, .ref q]) [.ref q] (va_Qv (fun w : va_W => P1 dA q w) (fun w t => va_P D vwCl w t.heap ∧ va_D (va_A [(q, .inr (ci, fs))] H1.size) w) (va_A [(q, .inr (ci, fs))] H1.size) (Value.ref q :: []).toArray) (va_A [(q, .inr (ci, fs))] H1.size) :=
    va_runI (As := []) (rest := [.ref q]) ⟨hx, hb, hml, hown, hts⟩ (hok l D dA q H1.size) (cwI 0 hts (gt_goodL y1) rfl rfl rfl (hts _ y3) (hts _ hl) (hts _ y2) y4 y5 rm) pre rfl rfl hlv.1 rfl (lv_room (Nat.le_of_ble_eq_true rfl)) d3 ⟨by have := hR.2.2.1; omega, by have := hR.2.2.2; omega⟩
  refine va_callv run hS1 (fun z _ h => hFc z h) hFc (fun u t H2 locs2 ht hvm hw2 hB hz1 hk1 hS2 => ?_)
  obtain ⟨hP2, hD2⟩ := hB
  rw [ht] at hP2
  have ap : ∀ (k0 : Nat) (z : Nat × va_E), ws[k0]? = some z → (ws ++ [((q, .inr (ci, fs)) : Nat × va_E)])[k0]? = some z ∧ z.1 < H1.size ∧ ¬ va_A [(q, .inr (ci, fs))] H1.size z.1 := by
    intro k0 z hk
    have hlt := (List.getElem?_eq_some_iff.mp hk).1
    have h1 : (ws ++ [((q, .inr (ci, fs)) : Nat × va_E)])[k0]? = some z := by rw [List.getElem?_append_left hlt]; exact hk
    have h2 := (hP1 k0 z h1).lt
    refine ⟨h1, h2, ?_⟩
    rintro (⟨k2, e0, h⟩ | h)
    · cases k2 with
      | zero =>
        have e1 : q = z.1 := (Prod.mk.inj (Option.some.inj h)).1
        have := hD1.1 k0 ws.length z _ h1 hq e1.symm
        omega
      | succ k2 => simp at h
    · omega
  have hP3 : va_P D vwCl (ws ++ u) H2 := va_P.app (fun k0 z hk => (hP1 k0 z (ap k0 z hk).1).kept (hk1 _ (ap k0 z hk).2.1 (ap k0 z hk).2.2)) hP2
  have hD3 : va_D A (ws ++ u) := va_D.app ⟨fun i j a b ha hb hab => hD1.1 i j a b (ap i a ha).1 (ap j b hb).1 hab, fun k0 z hk => hD1.2 k0 z (ap k0 z hk).1⟩ (hD2.weaken (fun k0 z _ h => hFc z.1 h)) (fun i j a b ha hb hab => (ap i a ha).2.2 (by rw [hab]; exact hD2.2 j b hb))
  exact lv_astore_n hx hb d4 rfl hlv.has hn rfl (fun lv' hl' => k q u H2 locs2 lv' hw2 (LH.st1 (v := .ref q) hl') hP3 hD3 hS2)
theorem nw_L_7 : NW RL 7 8 11 [.null, .null, .int 0, .null, .int 0, .null, .null, .null, .null, .null, .null] := ⟨RX8, TX8, tyX8, kl_X8, gt_of 90 (by decide +kernel) rfl, gt_of 91 (by decide +kernel) rfl, gt_of 72 (by decide +kernel) rfl, by decide +kernel⟩
theorem nw_L_10 : NW RL 10 9 21 [.null, .null, .int 0, .null, .null, .null, .int 0, .null, .int 0, .int 0, .int 0, .int 0, .int 0, .int 0, .int 0, .null, .null, .null, .null, .null, .null] := ⟨RX9, TX9, tyX9, kl_X9, gt_of 986 (by decide +kernel) rfl, gt_of 987 (by decide +kernel) rfl, gt_of 81 (by decide +kernel) rfl, by decide +kernel⟩
theorem ml_L_9 : Cond.methodLink RL 9 yX8_init ∈ gtb := gt_of 92 (by decide +kernel) rfl
theorem ml_L_12 : Cond.methodLink RL 12 yX9_init ∈ gtb := gt_of 988 (by decide +kernel) rfl
def kL00 : Lst := [(0, .new 7, 3, 3), (3, .dup, 1, 4), (4, .invokespecial 9, 3, 7), (7, .astore_n 1, 1, 8), (8, .new 10, 3, 11), (11, .dup, 1, 12), (12, .invokespecial 12, 3, 15), (15, .astore_n 2, 1, 16)]
theorem ckL00 : ∀ q ∈ kL00, Dc code q := ck_of (by decide +kernel)
theorem dL00 (i : Nat) {pc n pc2 : Nat} {ins : Instr} (h : kL00[i]? = some (pc, ins, n, pc2)) : decode code pc = .ok (ins, n) := (ckL00 _ (List.mem_of_getElem? h)).1
theorem dLF (i : Nat) {pc n pc2 : Nat} {ins : Instr} (h : kLawF[i]? = some (pc, ins, n, pc2)) : decode code pc = .ok (ins, n) := (ckLawF _ (List.mem_of_getElem? h)).1
/-- the classes and arrays, as the tables have them -/
theorem known_all {s : State} {args : Array Value} (hts : ∀ w ∈ gtb, w.before args s = true) (hAO2 : (Cond.arrayOver (.array .int)).before args s = true) (hAOS : (Cond.arrayOver (.object "AwakeBoard$Sheet")).before args s = true) : ∃ (D : va_G) (dA : Nat → ClassId), va_K D vwCl (tysA dA) s ∧ ArrC dA s := by
  have h0 : ∀ k : Nat, ∃ q : ClassId × (Nat → Nat), ∀ r : vw_C, vwCl[k]? = some r → u_Kn s r.1 r.2.1 r.2.2 q.1 q.2 := by
    have mk : ∀ (k : Nat) {C : String} {T : u_T} {N : Nat} {ty0 : Nat → FieldType} {i : Nat}, KL k C T N ty0 → lw_tbl[i]? = some (Cond.instantiable C N) → ∃ q : ClassId × (Nat → Nat), ∀ r : vw_C, vwCl[k]? = some r → u_Kn s r.1 r.2.1 r.2.2 q.1 q.2 := by
      intro k C T N ty0 i hk hi
      obtain ⟨c, iS, h⟩ := u_known hts hk.2.1 (hts _ (gt_of i hi rfl))
      refine ⟨(c, iS), fun r hr => ?_⟩
      cases hk.1.symm.trans hr
      exact h
    intro k
    match k with
    | 0 => exact mk 0 (i := 134) kl_X0 (by decide +kernel)
    | 1 => exact mk 1 (i := 105) kl_X1 (by decide +kernel)
    | 2 => exact mk 2 (i := 255) kl_X2 (by decide +kernel)
    | 3 => exact mk 3 (i := 99) kl_X3 (by decide +kernel)
    | 4 => exact mk 4 (i := 225) kl_X4 (by decide +kernel)
    | 5 => exact mk 5 (i := 244) kl_X5 (by decide +kernel)
    | 6 => exact mk 6 (i := 183) kl_X6 (by decide +kernel)
    | 7 => exact mk 7 (i := 287) kl_X7 (by decide +kernel)
    | 8 => exact mk 8 (i := 91) kl_X8 (by decide +kernel)
    | 9 => exact mk 9 (i := 987) kl_X9 (by decide +kernel)
    | k + 10 => exact ⟨(0, fun _ => 0), fun r hr => by simp [vwCl] at hr⟩
  obtain ⟨dq, hd⟩ := Classical.axiomOfChoice h0
  obtain ⟨cI, kI, oI, fI, hkI, hdI⟩ := Cond.arrayClass_spec (hts _ ac_I)
  obtain ⟨cZ, kZ, oZ, fZ, hkZ, hdZ⟩ := Cond.arrayClass_spec (hts _ ac_Z)
  obtain ⟨o2, c2, k2, fo2, -, hk2, hd2, f2⟩ := arrayOverA_spec hAO2
  obtain ⟨oS, cS, kS, foS, -, hkS, hdS, fS⟩ := Cond.arrayOver_spec hAOS
  have fI : s.vm.findClass "[I" = some cI := fI
  have fZ : s.vm.findClass "[Z" = some cZ := fZ
  have fo2 : s.vm.findClass "[I" = some o2 := fo2
  have f2 : s.vm.findClass "[[I" = some c2 := f2
  have fS : s.vm.findClass "[LAwakeBoard$Sheet;" = some cS := fS
  cases fI.symm.trans fo2
  refine ⟨(fun k => (dq k).1, fun k => (dq k).2), fun k => if k = 0 then cI else if k = 1 then cZ else if k = 2 then c2 else cS, ⟨fun k r hr => hd k r hr, fun k r hr => ?_⟩, fI, fZ, f2, fS, ⟨k2, hk2, hd2⟩, va_AO.of hAOS⟩
  match k, hr with
  | 0, hr => cases hr; exact ⟨fun n z => ⟨fun x => by simp [arrV], kI, hkI, oI, hdI⟩, fI⟩
  | 1, hr => cases hr; exact ⟨fun n z => ⟨fun x => by simp [arrV], kZ, hkZ, oZ, hdZ⟩, fZ⟩
  | 2, hr => cases hr; exact ⟨fun n z => ⟨fun x => by simp [arrV], k2, hk2, cI, hd2⟩, f2⟩
  | 3, hr => cases hr; exact ⟨fun n z => ⟨fun x => by simp [arrV], kS, hkS, oS, hdS⟩, ⟨kS, oS, hkS, hdS, foS, fS⟩⟩
  | k + 4, hr => simp at hr
/-- what is only read, as the Statement has it -/
theorem read_all {s : State} {b : Nat} (hts : ∀ w ∈ gtb, w.before #[Value.ref b] s = true) (htl : ∀ w ∈ lw_tbl, w.before #[Value.ref b] s = true) (hgv : (Jvm.Cond.and given_1 narrow_1).before #[Value.ref b] s = true) : ∃ x0 x1 x3 : Nat, ∀ (ad : Nat → Nat) (L : Nat) (xs : Nat → Int32), ad 200 = x0 → ad 201 = x1 → ad 203 = x3 → ad 202 = b → (∀ q, wrA ad q → s.heap.size ≤ q) → va_X b L xs s s.heap → b < s.heap.size → Ro ad (L, xs) s s.heap ∧ vk_R "AwakeBoard$Reader" 75 "wglhfqtn" (ad 201) s := by
  have hn := flat_of_before _ hgv
  have hA : ∀ a : Nat, a < s.heap.size → ¬ (fun q : Nat => s.heap.size ≤ q) a := fun a h q => Nat.not_le.mpr h q
  obtain ⟨t, ht, hT⟩ := va_Tof (tm := .static "AwakeBoard" "KIND_ABOVE" "[I") (ty := .int) (N := 8) (f := fun j => .int (kaF j)) (A := fun q : Nat => s.heap.size ≤ q) (args := #[Value.ref b]) (s := s) (by decide) (hn _ (by decide +kernel)) (va_eqt (hn _ (by decide +kernel))) (fun j hj => by
    match j, hj with
    | 0, _ => exact va_eqt (hn _ (by decide +kernel))
    | 1, _ => exact va_eqt (hn _ (by decide +kernel))
    | 2, _ => exact va_eqt (hn _ (by decide +kernel))
    | 3, _ => exact va_eqt (hn _ (by decide +kernel))
    | 4, _ => exact va_eqt (hn _ (by decide +kernel))
    | 5, _ => exact va_eqt (hn _ (by decide +kernel))
    | 6, _ => exact va_eqt (hn _ (by decide +kernel))
    | 7, _ => exact va_eqt (hn _ (by decide +kernel))
    | j + 8, hj => exact absurd hj (by omega)) hA
  have hZ := va_Zof (C := "AwakeBoard") (n := "KIND_ABOVE") (d := "[I") (A := fun q : Nat => s.heap.size ≤ q) (htl _ (List.mem_of_getElem? (i := 375) (by decide +kernel))) (hts (.initialized "AwakeBoard") (gt_of 72 (by decide +kernel) rfl)) ht hA
  have hC := va_Zof (C := "java/lang/String") (n := "COMPACT_STRINGS") (d := "Z") (v := .int 1) (A := fun q : Nat => s.heap.size ≤ q) (htl _ (List.mem_of_getElem? (i := 605) (by decide +kernel))) (hts (.initialized "java/lang/String") (gt_of 84 (by decide +kernel) rfl)) (va_eqi (hn _ (by decide +kernel))) hA
  obtain ⟨aK, aV, hS, hE⟩ := vk_Sof (args := #[Value.ref b]) (s := s) (N := 1) (tm := fun _ => .string "AwakeBoard$Reader" 75) (len := [8]) (byt := ltB) (A := fun q : Nat => s.heap.size ≤ q) (fun i hi => by cases (show i = 0 by omega); decide) (fun i hi => hn _ (by decide +kernel)) (fun i hi => hn _ (by decide +kernel)) (fun i hi => hn _ (by decide +kernel)) (fun i hi => by cases (show i = 0 by omega); exact hn _ (by decide +kernel)) (fun i hi j hj => by
    cases (show i = 0 by omega)
    match j, hj with
    | 0, _ => exact hn _ (by decide +kernel)
    | 1, _ => exact hn _ (by decide +kernel)
    | 2, _ => exact hn _ (by decide +kernel)
    | 3, _ => exact hn _ (by decide +kernel)
    | 4, _ => exact hn _ (by decide +kernel)
    | 5, _ => exact hn _ (by decide +kernel)
    | 6, _ => exact hn _ (by decide +kernel)
    | 7, _ => exact hn _ (by decide +kernel)
    | j + 8, hj => exact absurd hj (by show ¬ j + 8 < 8; omega)) (fun i j hi hj hij => absurd (by omega) hij) hA
  refine ⟨t, aK 0, aV 0, fun ad L xs e0 e1 e3 e2 hw hX hb => ⟨⟨⟨?_, ?_, trivial, ?_, ?_⟩, fun _ => ⟨?_, ?_⟩⟩, ?_⟩⟩
  · rw [e0]; exact hZ.narrow hw
  · rw [e0]; exact hT.narrow hw
  · exact hC.narrow hw
  · have h := hS.narrow hw
    refine ⟨fun i hi => ?_, fun i j hi hj _ => by omega⟩
    cases (show i = 0 by omega)
    rw [e1, e3]
    exact h.1 0 (by decide)
  · rw [e2]; exact hX
  · rw [e2]; exact fun q => absurd (hw _ q) (Nat.not_le.mpr hb)
  · rw [e1]
    exact vk_R.of (htl _ (List.mem_of_getElem? (i := 591) (by decide +kernel))) (hE 0 (by decide))
