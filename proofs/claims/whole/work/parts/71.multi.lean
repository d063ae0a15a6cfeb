/-! 71: rows of rows: an array of n new rows, all made by one instruction -/
def mwF (a i j : Nat) : Value := if j < i then .ref (a + 1 + j) else .null
theorem mwF_s (a i : Nat) : updV (mwF a i) i (.ref (a + 1 + i)) = mwF a (i + 1) := by
  funext j
  unfold updV mwF
  by_cases e : j = i
  · subst e
    rw [if_pos rfl, if_pos (by omega)]
  · rw [if_neg e]
    by_cases h : j < i
    · rw [if_pos h, if_pos (by omega)]
    · rw [if_neg h, if_neg (by omega)]
theorem mwF_0 (a : Nat) : mwF a 0 = fun _ => Value.null := by
  funext j
  simp [mwF]
/-- i rows stand -/
def mwH (H : Heap) (cA comp : ClassId) (N K i : Nat) (H1 : Heap) : Prop := H1.size = H.size + 1 + i ∧ H1[H.size]? = some (arrV cA N (mwF H.size i)) ∧ (∀ q, q < H.size → H1[q]? = H[q]?) ∧ ∀ j, j < i → H1[H.size + 1 + j]? = some (arrV comp K (fun _ => .int 0))
def mwS (T : State) (cA comp : ClassId) (N K : Nat) : Nat → State
  | 0 => T.pushCell { cls := cA, slots := Array.replicate N .null }
  | i + 1 => ((mwS T cA comp N K i).pushCell { cls := comp, slots := Array.replicate K (.int 0) }).setCell T.heap.size ((arrV cA N (mwF T.heap.size i)).setSlot i (.ref (mwS T cA comp N K i).heap.size))
section MW
variable {p : Program} {l : Launch} {e : Env} {R : Room} {s : State} {m : MethodId} {args : Array Value} {below : List Frame} {meth : Method} {c : Code}
theorem mw_all {T : State} {locs : List Loc} {cells slots : Nat} (X : Stand p l e R s m args below meth c T locs cells slots) (cA comp : ClassId) (N K : Nat) : ∀ i : Nat, mwH T.heap cA comp N K i (mwS T cA comp N K i).heap ∧ (mwS T cA comp N K i).vm = T.vm ∧ (mwS T cA comp N K i).slotsUsed = T.slotsUsed + N + i * K ∧ ∃ locs', (∀ z ∈ locs', z ∈ locs ∨ z.base = T.heap.size) ∧ Stand p l e R s m args below meth c (mwS T cA comp N K i) locs' (cells + 1 + i) (slots + N + i * K) := by
  intro i
  induction i with
  | zero =>
    have e0 : ({ cls := cA, slots := Array.replicate N .null } : Cell) = arrV cA N (mwF T.heap.size 0) := by
      rw [mwF_0]
      exact arrV_new cA N .null
    have h := X.pushed ({ cls := cA, slots := Array.replicate N .null } : Cell)
    refine ⟨⟨by simp [mwS], ?_, fun q hq => by show (T.pushCell _).heap[q]? = T.heap[q]?; exact State.heap_pushCell_of_lt _ _ hq, fun j hj => absurd hj (Nat.not_lt_zero _)⟩, rfl, by simp [mwS], locs, fun z hz => Or.inl hz, ?_⟩
    · show (T.pushCell _).heap[T.heap.size]? = _
      rw [e0]
      exact State.heap_pushCell_size _ _
    · simpa [mwS] using h
  | succ i ih =>
    obtain ⟨⟨g1, g2, g3, g4⟩, g5, g6, locs', g7, Y⟩ := ih
    have hgo : mwS T cA comp N K (i + 1) = ((mwS T cA comp N K i).pushCell { cls := comp, slots := Array.replicate K (.int 0) }).setCell T.heap.size ((arrV cA N (mwF T.heap.size i)).setSlot i (.ref (mwS T cA comp N K i).heap.size)) := rfl
    rw [hgo]
    clear hgo
    generalize mwS T cA comp N K i = S at g1 g2 g3 g4 g5 g6 Y ⊢
    have eS : ((arrV cA N (mwF T.heap.size i)).setSlot i (.ref S.heap.size)) = arrV cA N (mwF T.heap.size (i + 1)) := by
      rw [g1, arrV_store, mwF_s]
    have hl : T.heap.size < S.heap.size := by omega
    have hS : (S.pushCell { cls := comp, slots := Array.replicate K (.int 0) }).heap[T.heap.size]? = some (arrV cA N (mwF T.heap.size i)) := by
      rw [State.heap_pushCell_of_lt (h := hl)]
      exact g2
    have h := (Y.pushed ({ cls := comp, slots := Array.replicate K (.int 0) } : Cell)).stored hS i (.ref S.heap.size)
    refine ⟨⟨?_, ?_, fun q hq => ?_, fun j hj => ?_⟩, ?_, ?_, locs' ++ [⟨T.heap.size, i⟩], fun z hz => ?_, ?_⟩
    · rw [size_setCell]
      simp [g1]
      omega
    · rw [eS]
      exact State.heap_setCell_self hS
    · rw [State.heap_setCell_other (show T.heap.size ≠ q by omega), State.heap_pushCell_of_lt _ _ (show q < S.heap.size by omega)]
      exact g3 q hq
    · rw [State.heap_setCell_other (show T.heap.size ≠ T.heap.size + 1 + j by omega)]
      by_cases ej : j = i
      · subst ej
        rw [← g1, State.heap_pushCell_size, ← arrV_new]
      · rw [State.heap_pushCell_of_lt _ _ (show T.heap.size + 1 + j < S.heap.size by omega)]
        exact g4 j (by omega)
    · exact g5
    · simp [g6, Nat.succ_mul]
      omega
    · rcases List.mem_append.mp hz with hz | hz
      · exact g7 z hz
      · rw [List.mem_singleton.mp hz]
        exact Or.inr rfl
    · have e1 : slots + N + (i + 1) * K = slots + N + i * K + (Array.replicate K (Value.int 0)).size := by
        rw [Nat.succ_mul, Array.size_replicate]
        omega
      rw [e1]
      exact h
theorem mw_top (T : State) (f : JFrame) (cA comp : ClassId) (N K : Nat) : ∀ i : Nat, mwS (T.setTop f) cA comp N K i = (mwS T cA comp N K i).setTop f := by
  intro i
  induction i with
  | zero => rfl
  | succ i ih => simp only [mwS, ih, State.heap_setTop, State.pushCell_setTop, State.setCell_setTop]
theorem mw_one {E : CtlPost} {d : Bool} {acts : List Action} {S : State} {comp cI : ClassId} {kC : Class} {k : Int32} (hkC : S.vm.classes[comp]? = some kC) (hdC : kC.kind = .array cI .int) (hk : ¬ k < 0) (hl : ¬ k.toNatClampNeg > e.platform.arrayLengthLimit) (hh : ¬ k.toNatClampNeg * componentBytes .int > e.platform.maxHeapBytes) (h1 : S.heap.size < e.platform.maxCells) (h2 : S.slotsUsed + k.toNatClampNeg ≤ e.platform.maxSlots) {Q : Addr → Pre} (hq : ∀ acts', Q S.heap.size d acts' (S.pushCell { cls := comp, slots := Array.replicate k.toNatClampNeg (.int 0) })) : wp (multianewarray.make comp [k]) Q E e d acts S := by
  rw [multianewarray.make]
  simp only [wp_bind', W.ite, hk, if_false, wp_pure', W.theClass, hkC, hdC, Option.some.injEq, exists_eq_left']
  exact W.newArray_of hkC hdC hl hh h1 h2 rfl hq
theorem w_mnew {H : Heap} {locs : List Loc} {cells slots : Nat} {Q : State → Prop} {cc : ByteArray} (hexec : p.tables.exec = Jvm.exec) (hb : c.code = cc) {own : String} {index : Nat} (hown : s.vm.findClass own = some m.cls) (hcl : (Cond.classLink own index "[[I").before args s = true) {cA comp cI : ClassId} {kA kC : Class} (hfA : s.vm.findClass "[[I" = some cA) (hkA : s.vm.classes[cA]? = some kA) (hdA : kA.kind = .array comp (.array .int)) (hkC : s.vm.classes[comp]? = some kC) (hdC : kC.kind = .array cI .int) {g : JFrame} (hg : g.method = m) (hdg : decode cc g.pc = .ok (.multianewarray index 2, 4)) {n k : Int32} {rest : List Value} (hst : g.stack = .int k :: .int n :: rest) (hn : ¬ n < 0) (hk : ¬ k < 0) (hbd : n.toNatClampNeg ≤ 1000 ∧ k.toNatClampNeg ≤ 1000) (hc : cells + (1 + n.toNatClampNeg) ≤ R.cells) (hs : slots + (n.toNatClampNeg + n.toNatClampNeg * k.toNatClampNeg) ≤ R.slots)
    (kk : ∀ (H1 : Heap) (locs1 : List Loc), mwH H cA comp n.toNatClampNeg k.toNatClampNeg n.toNatClampNeg H1 → (∀ z ∈ locs1, z ∈ locs ∨ z.base = H.size) → W p l e R s m args below meth c H1 locs1 (cells + 1 + n.toNatClampNeg) (slots + n.toNatClampNeg + n.toNatClampNeg * k.toNatClampNeg) Q { g with pc := g.pc + 4, stack := .ref H.size :: rest }) : W p l e R s m args below meth c H locs cells slots Q g := by
  intro T hT X
  subst hT; subst hb; subst hg
  have hpl : e.platform.magicAccessors = ({} : Platform).magicAccessors := by rw [X.admits.platform]
  obtain ⟨c0, hf0, hcl0⟩ := Cond.classLink_spec hown hcl e.platform hpl
  cases hfA.symm.trans hf0
  obtain ⟨hg₁, hw₁, -⟩ := State.classEntry (e := e) X.warmed hcl0
  generalize T.vm.noted g.method.cls index (.cls cA) = vm₁ at hg₁ hw₁
  obtain ⟨kA₁, hkA₁, heA⟩ := hw₁.alike.2.2 _ _ hkA
  obtain ⟨kC₁, hkC₁, heC⟩ := hw₁.alike.2.2 _ _ hkC
  have hdA₁ : kA₁.kind = .array comp (.array .int) := by rw [heA]; exact hdA
  have hdC₁ : kC₁.kind = .array cI .int := by rw [heC]; exact hdC
  have X₁ := X.noted hw₁
  have hall := mw_all X₁ cA comp n.toNatClampNeg k.toNatClampNeg
  obtain ⟨r1, r2⟩ := X.roomAbove hc hs
  have l1 : ¬ n.toNatClampNeg > e.platform.arrayLengthLimit := by rw [Launch.admits_arrayLengthLimit X.admits]; omega
  have l2 : ¬ k.toNatClampNeg > e.platform.arrayLengthLimit := by rw [Launch.admits_arrayLengthLimit X.admits]; omega
  have b1 : ¬ n.toNatClampNeg * componentBytes (.array .int) > e.platform.maxHeapBytes := by rw [Launch.admits_maxHeapBytes X.admits]; show ¬ n.toNatClampNeg * 4 > _; omega
  have b2 : ¬ k.toNatClampNeg * componentBytes .int > e.platform.maxHeapBytes := by rw [Launch.admits_maxHeapBytes X.admits]; show ¬ k.toNatClampNeg * 4 > _; omega
  obtain ⟨-, -, -, locs1, hl1, XN⟩ := hall n.toNatClampNeg
  obtain ⟨t, a1, q1⟩ := kk _ locs1 (hall n.toNatClampNeg).1 hl1 (mwS (T.setVm vm₁) cA comp n.toNatClampNeg k.toNatClampNeg n.toNatClampNeg) rfl XN
  refine ⟨t, ?_, q1⟩
  have hfind : ([k].find? (· < 0)) = none := by simp [hk]
  have mulM : ∀ x, x < n.toNatClampNeg → x * k.toNatClampNeg + k.toNatClampNeg ≤ n.toNatClampNeg * k.toNatClampNeg := fun x hx => by
    have := Nat.mul_le_mul_right k.toNatClampNeg (show x + 1 ≤ n.toNatClampNeg from hx)
    rw [Nat.succ_mul] at this
    exact this
  jvm_step X.here [hexec, hdg]
  simp only [multianewarray.sem, wp_bind', W.resolveClassAt_links (State.method?_setTop g X.here.top) hg₁]
  rw [W.popN, if_neg (by decide)]
  refine ⟨g, State.topJava?_setTop' (s := T.setVm vm₁) g X.here.top, [.int n, .int k], rest, rfl, hst, ?_⟩
  simp only [List.mapM_cons, List.mapM_nil, wp_bind', wp_pure']
  have eS : ((T.setTop g).setVm vm₁).setTop { g with stack := rest } = (T.setVm vm₁).setTop { g with stack := rest } := by
    show ((T.setVm vm₁).setTop g).setTop _ = _
    rw [State.setTop_setTop]
  rw [eS, multianewarray.make]
  simp only [wp_bind', W.ite, hn, if_false, wp_pure', W.theClass, State.heap_setTop]
  refine ⟨kA₁, hkA₁, ?_⟩
  rw [hdA₁]
  dsimp only
  rw [wp_bind']
  refine W.newArray_of (s := (T.setVm vm₁).setTop { g with stack := rest }) (k := kA₁) (init := .null) hkA₁ hdA₁ l1 b1 (by show T.heap.size < _; omega) (by show T.slotsUsed + _ ≤ _; omega) rfl (fun acts1 => ?_)
  simp only [hfind, ite_self, wp_bind']
  rw [Std.Legacy.Range.forIn_eq_forIn_range']
  have hsz : ([:n.toNatClampNeg] : Std.Legacy.Range).size = n.toNatClampNeg := by simp [Std.Legacy.Range.size]
  rw [hsz]
  show wp (forIn (List.range' 0 n.toNatClampNeg 1) PUnit.unit _) _ _ e _ acts1 _
  refine wp_forIn_inv (fun rest' s' => ∃ i, i ≤ n.toNatClampNeg ∧ rest' = List.range' i (n.toNatClampNeg - i) ∧ s' = (mwS (T.setVm vm₁) cA comp n.toNatClampNeg k.toNatClampNeg i).setTop { g with stack := rest }) _ _ ⟨0, Nat.zero_le _, rfl, rfl⟩ ?_ ?_
  · rintro x rest' s' d' acts' Q' ⟨i, hi, hl, rfl⟩ hnext
    have hlt : i < n.toNatClampNeg := by
      rcases Nat.lt_or_ge i n.toNatClampNeg with h | h
      · exact h
      · rw [show n.toNatClampNeg - i = 0 by omega] at hl
        simp at hl
    rw [show n.toNatClampNeg - i = (n.toNatClampNeg - (i + 1)) + 1 by omega, List.range'_succ] at hl
    obtain ⟨rfl, hrest⟩ := List.cons.inj hl
    obtain ⟨⟨f1, f2, f3, f4⟩, f5, f6, -⟩ := hall x
    have hT0 : (T.setVm vm₁).heap.size = T.heap.size := rfl
    have hU0 : (T.setVm vm₁).slotsUsed = T.slotsUsed := rfl
    have hm := mulM x hlt
    simp only [wp_bind']
    refine mw_one (kC := kC₁) (cI := cI) (by show (mwS _ _ _ _ _ x).vm.classes[comp]? = _; rw [f5]; exact hkC₁) hdC₁ hk l2 b2 (by show (mwS _ _ _ _ _ x).heap.size < _; omega) (by show (mwS _ _ _ _ _ x).slotsUsed + _ ≤ _; omega) (fun acts2 => ?_)
    have hlt0 : T.heap.size < (mwS (T.setVm vm₁) cA comp n.toNatClampNeg k.toNatClampNeg x).heap.size := by omega
    simp only [wp_bind', W.writeLoc, wp_pure']
    refine ⟨arrV cA n.toNatClampNeg (mwF T.heap.size x), ?_, by simp [arrV], by rw [arrV_size]; exact hlt, ?_, hnext _ _ _ ⟨x + 1, hlt, hrest, ?_⟩⟩
    · rw [State.pushCell_setTop, State.heap_setTop]
      show ((mwS _ _ _ _ _ x).pushCell _).heap[T.heap.size]? = _
      rw [State.heap_pushCell_of_lt (h := hlt0)]
      exact f2
    · have e9 : ((mwS (T.setVm vm₁) cA comp n.toNatClampNeg k.toNatClampNeg x)).vm.classes[cA]? = some kA₁ := by rw [f5]; exact hkA₁
      simp [State.fitsSlot, State.slotType?, arrV, e9, hdA₁, fits]
    · rfl
  · rintro s' d' acts' ⟨i, hi, hl, rfl⟩
    have hiN : i = n.toNatClampNeg := by
      rcases Nat.lt_or_ge i n.toNatClampNeg with h | h
      · rw [show n.toNatClampNeg - i = (n.toNatClampNeg - (i + 1)) + 1 by omega, List.range'_succ] at hl
        cases hl
      · omega
    subst hiN
    simp only [wp_pure', wp_bind', W.mark, W.pushRef, State.topJava?_setTop' _ XN.here.top, Option.some.injEq, exists_eq_left', State.setTop_setTop, State.heap_setTop]
    intro acts
    simp [jvm, XN.here.top]
    exact a1
end MW
theorem n_mnew {lst : Lst} {own : String} {nL d pc pc' mc ms idx : Nat} {dA : Nat → ClassId} {ls : List (Option Value)} {st : List Value} {ws : va_W} {Post : va_W → Prop} {v w : Int32} (n kk : Nat) (i : Nat) (hi : lst[i]? = some (pc, .multianewarray idx 2, 4, pc')) (hcl : Cond.classLink own idx "[[I" ∈ gtb) (hv : v = nI n) (hw : w = nI kk) (hb : n ≤ 20 ∧ kk ≤ 100) (k : ∀ (q : Nat) (f : Nat → Nat), Nv lst own nL d dA pc' ls (.ref q :: st) (ws ++ ((q, .inl (dA 2, n, .inr (.inr (.inr (.inr (fun i => some (f i))))))) :: (List.range n).map (fun i => (f i, .inl (dA 0, kk, .inl (fun _ => 0)))))) mc ms Post) : Nv lst own nL d dA pc ls (.int w :: .int v :: st) ws (mc + (1 + n)) (ms + (n + n * kk)) Post := by
  intro p l e R s m args below meth c cells slots Q cc D H0 A hC hL hR hA hr H locs lv hlv hP hD hS
  obtain ⟨hd, hp⟩ := hL _ (List.mem_of_getElem? hi)
  dsimp only at hd hp
  subst hp
  obtain ⟨hfI, -, hfA, -, ⟨kA, hkA, hdA⟩, -⟩ := hC.2.2.2.2.2.2.1
  obtain ⟨-, kC, hkC, cI, hdC⟩ := (hC.2.2.2.2.2.1.2 0 (dA 0, .int) rfl).1 0 (fun _ => .null)
  have ev : v.toNatClampNeg = n := by subst hv; exact n_cl (by omega)
  have ew : w.toNatClampNeg = kk := by subst hw; exact n_cl (by omega)
  have nv : ¬ v < 0 := by subst hv; rw [show (0 : Int32) = nI 0 from rfl, n_lt (by omega) (by decide)]; omega
  have nw : ¬ w < 0 := by subst hw; rw [show (0 : Int32) = nI 0 from rfl, n_lt (by omega) (by decide)]; omega
  refine w_mnew hC.1 hC.2.1 hC.2.2.2.1 (hC.2.2.2.2.1 _ hcl) hfA hkA hdA hkC hdC rfl hd rfl nv nw (by omega) (by have := hR.2.2.1; omega) (by rw [ev, ew]; have := hR.2.2.2; omega) (fun H1 locs1 hH hl => ?_)
  rw [ev, ew] at hH ⊢
  obtain ⟨g1, g2, g3, g4⟩ := hH
  have hrow : arrV (dA 2) n (mwF H.size n) = arrV (dA 2) n (fun j => .ref (H.size + 1 + j)) := by
    unfold arrV
    have : (Array.ofFn (n := n) fun j => mwF H.size n j.val) = Array.ofFn (n := n) fun j => Value.ref (H.size + 1 + j.val) := by
      congr 1
      funext j
      simp [mwF, j.isLt]
    rw [this]
  have hP2 : va_P D vwCl ((H.size, .inl (dA 2, n, .inr (.inr (.inr (.inr (fun i => some (H.size + 1 + i))))))) :: (List.range n).map (fun i => (H.size + 1 + i, .inl (dA 0, kk, .inl (fun _ => 0))))) H1 := by
    intro k0 q hk
    cases k0 with
    | zero =>
      cases hk
      show H1[H.size]? = some (arrV (dA 2) n (fun j => va_rf (some (H.size + 1 + j))))
      rw [g2, hrow]
      rfl
    | succ k0 =>
      simp only [List.getElem?_cons_succ, List.getElem?_map] at hk
      by_cases hk0 : k0 < n
      · rw [List.getElem?_range hk0] at hk
        cases hk
        exact g4 k0 hk0
      · rw [List.getElem?_eq_none (by simpa using hk0)] at hk
        cases hk
  have ne2 : ∀ (j : Nat) (q : Nat × va_E), (((H.size, .inl (dA 2, n, .inr (.inr (.inr (.inr (fun i => some (H.size + 1 + i))))))) :: (List.range n).map (fun i => (H.size + 1 + i, .inl (dA 0, kk, .inl (fun _ => 0))))) : va_W)[j]? = some q → q.1 = H.size + j := by
    intro j q hk
    cases j with
    | zero => cases hk; rfl
    | succ j =>
      simp only [List.getElem?_cons_succ, List.getElem?_map] at hk
      by_cases hk0 : j < n
      · rw [List.getElem?_range hk0] at hk
        cases hk
        show H.size + 1 + j = _
        omega
      · rw [List.getElem?_eq_none (by simpa using hk0)] at hk
        cases hk
  have hS2 : va_S A H0 H1 locs1 := by
    refine ⟨by have := hS.1; omega, fun q q1 q2 => by rw [g3 q (by have := hS.1; omega)]; exact hS.2.1 q q1 q2, fun z hz => ?_⟩
    rcases hl z hz with h | h
    · exact hS.2.2 z h
    · rw [h]; exact hA _ hS.1
  have hD2 := va_D.app (A := A) hD (w2 := ((H.size, .inl (dA 2, n, .inr (.inr (.inr (.inr (fun i => some (H.size + 1 + i))))))) :: (List.range n).map (fun i => (H.size + 1 + i, .inl (dA 0, kk, .inl (fun _ => 0)))))) ⟨fun a b x y h1 h2 h3 => by have := ne2 a x h1; have := ne2 b y h2; omega, fun a x h1 => hA _ (by have := ne2 a x h1; have := hS.1; omega)⟩ (fun a b x y h1 h2 => by have := (hP a x h1).lt; have := ne2 b y h2; omega)
  exact k H.size (fun i => H.size + 1 + i) p l e R s m args below meth c (cells + 1 + n) (slots + n + n * kk) Q cc D H0 A hC hL ⟨hR.1, hR.2.1, by have := hR.2.2.1; omega, by have := hR.2.2.2; omega⟩ hA (fun pcr H2 locs2 lv2 ws2 a1 a2 a3 a4 a5 a6 => by
    have := hr pcr H2 locs2 lv2 ws2 a1 a2 a3 a4 a5 a6
    rw [show cells + 1 + n + mc = cells + (mc + (1 + n)) by omega, show slots + n + n * kk + ms = slots + (ms + (n + n * kk)) by omega]
    exact this) H1 locs1 lv hlv (va_P.app (hP.kept (fun k0 q hk => g3 _ (hP k0 q hk).lt)) hP2) hD2 hS2
