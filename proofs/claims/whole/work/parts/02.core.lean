/-! 02 core: the store, the shapes of the cells, the judgement Ev over abstract states, and Ok, a method's contract in these words -/
abbrev Sto : Type := Nat → Nat → Int32
def sr (h : Sto) (c : Nat) (f : Nat → Int32) : Sto := fun c' => if c' = c then f else h c'
def su (h : Sto) (c k : Nat) (v : Int32) : Sto := sr h c (upd (h c) k v)
abbrev Shp : Type := Nat × Nat × List (Option Nat)
def shpRows (n len : Nat) : List Shp := List.replicate n (0, len, [])
def shpScene (b : Nat) : List Shp :=
  [(13, 0, [some (b + 2), some (b + 10), some (b + 16), some (b + 25), none]),
   (11, 0, [none, none, none, some (b + 3)]), (2, 6, [some (b + 3)]), (0, 14, []), (0, 14, []), (0, 14, []), (0, 14, []), (0, 14, []), (0, 14, []),
   (10, 0, [none, none, none, some (b + 11), some (b + 12), some (b + 13), some (b + 14), some (b + 15)]), (0, 200, []), (0, 200, []), (0, 200, []), (0, 200, []), (1, 200, []),
   (16, 0, [none, some (b + 17), some (b + 24)]), (2, 6, [some (b + 17)]), (0, 80, []), (0, 80, []), (0, 80, []), (0, 80, []), (0, 80, []), (0, 80, []), (0, 6, []), (0, 10, [])]
def shpL : List Shp :=
  [(18, 0, [some 2, some 27, none, some 52, none, some 53, some 62, some 63, some 65, some 66, some 83])] ++ (shpScene 1 ++ (shpScene 26 ++
  ([(0, 80, []), (3, 4, [some 53]), (14, 0, [none, none, some 58]), (14, 0, [none, none, some 59]), (14, 0, [none, none, some 60]), (14, 0, [none, none, some 61]),
   (0, 40, []), (0, 40, []), (0, 40, []), (0, 40, []), (0, 7, []), (15, 0, [some 64]), (0, 8, []), (12, 0, [some 0, none, some 0, none, none, none, none, none]),
   (17, 0, [none, some 67, some 68]), (0, 14, []), (2, 14, [some 68]), (0, 14, []), (0, 14, []), (0, 14, []), (0, 14, []), (0, 14, []), (0, 14, []), (0, 14, []), (0, 14, []), (0, 14, []), (0, 14, []), (0, 14, []), (0, 14, []), (0, 14, []), (0, 14, []), (0, 14, []),
   (19, 0, [some 85, some 86, none, some 87, some 88, some 89, none, some 90, none, none, none, none, none, none, none, some 91, some 92, some 93, some 94, some 95, some 96]),
   (0, 1214, []), (0, 1214, []), (0, 7, []), (1, 200, []), (0, 80, []), (0, 80, []), (0, 80, []), (0, 14, []), (0, 14, []), (0, 4, []), (0, 4, []), (0, 160, [])])))
def shp (c : Nat) : Shp := shpL.getD c (9, 0, [])
theorem shpL_len : shpL.length = 96 := by decide +kernel
def cv (ad : Nat → Nat) : Value → Value
  | .ref k => .ref (ad k)
  | v => v
def fvl (ad : Nat → Nat) (f : Nat → Int32) (k : Nat) : Option Nat → Value
  | none => .int (f k)
  | some 0 => if f k = 0 then .null else .ref (ad (f k).toNatClampNeg)
  | some (j + 1) => .ref (ad j)
def bas (fs : List (Option Nat)) : Nat := (fs.headD none).getD 0
def cellE (dA : Nat → ClassId) (ad : Nat → Nat) (f : Nat → Int32) (q : Shp) : va_E :=
  match q.1 with
  | 0 => .inl (dA 0, q.2.1, .inl f)
  | 1 => .inl (dA 1, q.2.1, .inl f)
  | 2 => .inl (dA 2, q.2.1, .inr (.inr (.inr (.inr (fun i => some (ad (bas q.2.2 + i)))))))
  | 3 => .inl (dA 3, q.2.1, .inr (.inr (.inr (.inr (fun i => some (ad (bas q.2.2 + i)))))))
  | n + 4 => .inr (n - 6, q.2.2.mapIdx (fun a x => fvl ad f a x))
def wsl (dA : Nat → ClassId) (ad : Nat → Nat) (h : Sto) : va_W := (List.range 96).map (fun c => (ad c, cellE dA ad (h c) (shp c)))
theorem wsl_at {dA : Nat → ClassId} {ad : Nat → Nat} {h : Sto} {c : Nat} (hc : c < 96) : (wsl dA ad h)[c]? = some (ad c, cellE dA ad (h c) (shp c)) := by
  simp [wsl, hc]
theorem wsl_set {dA : Nat → ClassId} {ad : Nat → Nat} {h : Sto} {c : Nat} {f : Nat → Int32} : (wsl dA ad h).set c (ad c, cellE dA ad f (shp c)) = wsl dA ad (sr h c f) := by
  apply List.ext_getElem?
  intro j
  rw [List.getElem?_set]
  by_cases hj : j < 96
  · rw [wsl_at hj, wsl_at hj]
    by_cases e : c = j
    · subst e
      simp [wsl, sr, hj]
    · rw [if_neg e]
      have e' : ¬ j = c := fun q => e q.symm
      simp [sr, e']
  · have h1 : (wsl dA ad h)[j]? = none := by simp [wsl]; omega
    have h2 : (wsl dA ad (sr h c f))[j]? = none := by simp [wsl]; omega
    rw [h1, h2]
    by_cases e : c = j
    · subst e
      simp [wsl, hj]
    · rw [if_neg e]
abbrev tysA (dA : Nat → ClassId) : List (ClassId × FieldType) := [(dA 0, .int), (dA 1, .boolean), (dA 2, .array .int), (dA 3, .object "AwakeBoard$Sheet")]
def wrA (ad : Nat → Nat) (q : Nat) : Prop := ∃ c, c < 96 ∧ q = ad c
def injA (ad : Nat → Nat) : Prop := ∀ a b, a < 96 → b < 96 → ad a = ad b → a = b
theorem wsl_len {dA : Nat → ClassId} {ad : Nat → Nat} {h : Sto} : (wsl dA ad h).length = 96 := by simp [wsl]
theorem wsl_D {dA : Nat → ClassId} {ad : Nat → Nat} {h : Sto} (hi : injA ad) : va_D (wrA ad) (wsl dA ad h) := by
  have lt : ∀ {j : Nat} {q : Nat × va_E}, (wsl dA ad h)[j]? = some q → j < 96 := fun {j q} hq => by
    have := (List.getElem?_eq_some_iff.mp hq).1
    rw [wsl_len] at this; exact this
  refine ⟨fun i j a b ha hb hab => ?_, fun k q hq => ?_⟩
  · have l1 := lt ha
    have l2 := lt hb
    rw [wsl_at l1] at ha
    rw [wsl_at l2] at hb
    cases ha; cases hb
    exact hi i j l1 l2 hab
  · have l1 := lt hq
    rw [wsl_at l1] at hq
    cases hq
    exact ⟨k, l1, rfl⟩
-- the words
def gtb : List Cond := lw_tbl.filter goodWord
theorem gt_of {w : Cond} (i : Nat) (h : lw_tbl[i]? = some w) (g : goodWord w = true) : w ∈ gtb := List.mem_filter.mpr ⟨List.mem_of_getElem? h, g⟩
def isNst : Cond → Bool
  | .methodLinkNest .. => true
  | .fieldLinkNest .. => true
  | _ => false
def nst : List Cond := lw_tbl.filter isNst
theorem ns_of {w : Cond} (i : Nat) (h : lw_tbl[i]? = some w) (g : isNst w = true) : w ∈ nst := List.mem_filter.mpr ⟨List.mem_of_getElem? h, g⟩
theorem gt_good {y : Cond} {x : Cond} (hx : x ∈ gtb) : GoodIn (y :: gtb) (x :: gtb) := by
  intro w hw
  have hw : w ∈ gtb := by
    rcases List.mem_cons.mp hw with rfl | hw
    · exact hx
    · exact hw
  exact ⟨List.mem_cons_of_mem _ hw, good_of_word (List.mem_filter.mp hw).2⟩
theorem gt_goodL {x : Cond} (hx : x ∈ gtb) : GoodIn gtb (x :: gtb) := by
  intro w hw
  have hw : w ∈ gtb := by
    rcases List.mem_cons.mp hw with rfl | hw
    · exact hx
    · exact hw
  exact ⟨hw, good_of_word (List.mem_filter.mp hw).2⟩
theorem nst_warm {s U : State} (hW : s.WarmedH U.vm) (h : ∀ w ∈ nst, va_Nw w s) : ∀ w ∈ nst, va_Nw w U := by
  intro w hw
  have h1 := h w hw
  have h2 := (List.mem_filter.mp hw).2
  cases w <;> first | (exact absurd h2 (by decide)) | exact va_Nw.warmM hW h1 | exact va_Nw.warmF hW h1 | simp [isNst] at h2
theorem nst_same {s U : State} (hv : s.vm = U.vm) (h : ∀ w ∈ nst, va_Nw w s) : ∀ w ∈ nst, va_Nw w U := by
  intro w hw
  have h1 := h w hw
  have h2 := (List.mem_filter.mp hw).2
  cases w <;> first | exact va_Nw.same rfl hv h1 | simp [isNst] at h2
/-- what holds of the links of nest mates, and of the place of the text of signs -/
def NS (ad : Nat → Nat) (s : State) : Prop := (∀ w ∈ nst, va_Nw w s) ∧ vk_R "AwakeBoard$Reader" 75 "wglhfqtn" (ad 201) s
theorem ns_warm {ad : Nat → Nat} {s U : State} (hW : s.WarmedH U.vm) (h : NS ad s) : NS ad U := ⟨nst_warm hW h.1, h.2.warm hW⟩
theorem ns_same {ad : Nat → Nat} {s U : State} (hv : s.vm = U.vm) (h : NS ad s) : NS ad U := ⟨nst_same hv h.1, vk_R.same hv.symm h.2⟩
-- what is only read: the array KIND_ABOVE (ad 200), a script (ad 202; none where its length is 0)
abbrev Scr : Type := Nat × (Nat → Int32)
def nox : Scr := (0, fun _ => 0)
def kaF (j : Nat) : Int32 := ([-1, 0, 0, 1, 2, 0, 1, 4] : List Int32).getD j 0
-- the text of signs: its String (ad 201), its bytes (ad 203)
abbrev ltB : List (List Int32) := [[119, 103, 108, 104, 102, 113, 116, 110]]
def StrR (ad : Nat → Nat) (U : State) (H : Heap) : Prop := va_Z "java/lang/String" "COMPACT_STRINGS" "Z" (.int 1) (wrA ad) U H ∧ vk_S 1 [8] ltB (fun _ => ad 201) (fun _ => ad 203) (wrA ad) U H
def Ro (ad : Nat → Nat) (x : Scr) (U : State) (H : Heap) : Prop := (va_Z "AwakeBoard" "KIND_ABOVE" "[I" (.ref (ad 200)) (wrA ad) U H ∧ va_T .int (ad 200) 8 (fun j => .int (kaF j)) (wrA ad) U H ∧ True ∧ StrR ad U H) ∧ (x.1 ≠ 0 → va_X (ad 202) x.1 x.2 U H ∧ ¬ wrA ad (ad 202))
theorem Ro.kept {ad : Nat → Nat} {x : Scr} {U : State} {H H1 : Heap} (h : Ro ad x U H) (hz : ∀ q : Nat, q < H.size → ¬ wrA ad q → H1[q]? = H[q]?) : Ro ad x U H1 := by
  obtain ⟨⟨h1, h2, h3, h5⟩, h4⟩ := h
  have hk : ∀ {a L : Nat} {f : Nat → Int32}, va_X a L f U H → ¬ wrA ad a → va_X a L f U H1 := fun {a L f} h n => h.kept (by obtain ⟨scr, e, -⟩ := h; exact hz a (Array.getElem?_eq_some_iff.mp e).1 n)
  exact ⟨⟨h1.kept hz, h2.kept hz, h3, h5.1.kept hz, h5.2.kept hz⟩, fun hx => ⟨hk (h4 hx).1 (h4 hx).2, (h4 hx).2⟩⟩
theorem Ro.moved {ad : Nat → Nat} {x : Scr} {u U : State} {H : Heap} (hvm : u.vm.Alike U.vm) (h : Ro ad x u H) : Ro ad x U H := ⟨⟨h.1.1.moved hvm, h.1.2.1.moved hvm, h.1.2.2.1, h.1.2.2.2.1.moved hvm, h.1.2.2.2.2.moved hvm⟩, fun hx => ⟨(h.2 hx).1.moved hvm, (h.2 hx).2⟩⟩
theorem Ro.no {ad : Nat → Nat} {x : Scr} {U : State} {H : Heap} (h : Ro ad x U H) : Ro ad nox U H := ⟨h.1, fun e => absurd rfl e⟩
-- locals
def LH (ad : Nat → Nat) (lv : Array Slot) (nL : Nat) (ls : List (Option Value)) : Prop := lv.size = nL ∧ lv_wf lv ∧ ∀ (i : Nat) (v : Value), ls[i]? = some (some v) → lv[i]? = some (.val (cv ad v))
def asc (ad : Nat → Nat) (ls : List (Option Value)) : List (Nat × Value) := ls.zipIdx.filterMap fun q => q.1.map fun v => (q.2, cv ad v)
theorem asc_mem {ad : Nat → Nat} {ls : List (Option Value)} {q : Nat × Value} : q ∈ asc ad ls ↔ ∃ v, ls[q.1]? = some (some v) ∧ q.2 = cv ad v := by
  unfold asc
  rw [List.mem_filterMap]
  constructor
  · rintro ⟨⟨o, i⟩, hm, he⟩
    rw [List.mem_zipIdx_iff_getElem?] at hm
    cases o with
    | none => simp at he
    | some v =>
      simp at he
      obtain rfl := he
      exact ⟨v, hm, rfl⟩
  · rintro ⟨v, hv, he⟩
    refine ⟨(some v, q.1), ?_, ?_⟩
    · rw [List.mem_zipIdx_iff_getElem?]; exact hv
    · simp [← he]
theorem LH.has {ad : Nat → Nat} {lv : Array Slot} {nL : Nat} {ls : List (Option Value)} (h : LH ad lv nL ls) : lv_has lv nL (asc ad ls) := by
  refine ⟨h.1, h.2.1, fun q hq => ?_⟩
  obtain ⟨v, hv, he⟩ := asc_mem.mp hq
  rw [he]
  exact h.2.2 q.1 v hv
def drL : Option Value → Option Value
  | some (.long _) => none
  | some (.double _) => none
  | o => o
def st1 : List (Option Value) → Nat → Value → List (Option Value)
  | [], _, _ => []
  | _ :: t, 0, v => some v :: t
  | o :: t, 1, v => drL o :: st1 t 0 v
  | o :: t, n + 2, v => o :: st1 t (n + 1) v
def st2 : List (Option Value) → Nat → Value → List (Option Value)
  | [], _, _ => []
  | _ :: [], 0, v => some v :: []
  | _ :: _ :: t, 0, v => some v :: none :: t
  | o :: t, 1, v => drL o :: st2 t 0 v
  | o :: t, n + 2, v => o :: st2 t (n + 1) v
theorem drL_some {o : Option Value} {v : Value} (h : drL o = some v) : o = some v ∧ v.category = 1 := by
  cases o with
  | none => simp [drL] at h
  | some w => cases w <;> simp [drL] at h <;> subst h <;> simp [Value.category]
theorem st1_get (ls : List (Option Value)) : ∀ (i : Nat) (v : Value) (j : Nat) (w : Value), (st1 ls i v)[j]? = some (some w) → (j = i ∧ w = v) ∨ (j ≠ i ∧ ls[j]? = some (some w) ∧ ¬ (j + 1 = i ∧ w.category = 2)) := by
  induction ls with
  | nil => intro i v j w h; simp [st1] at h
  | cons o t ih =>
    intro i v j w h
    match i with
    | 0 =>
      cases j with
      | zero => simp [st1] at h; exact Or.inl ⟨rfl, h.symm⟩
      | succ j => simp [st1] at h; exact Or.inr ⟨by omega, by simpa using h, by omega⟩
    | 1 =>
      cases j with
      | zero =>
        simp [st1] at h
        obtain ⟨h1, h2⟩ := drL_some h
        exact Or.inr ⟨by omega, by simp [h1], by omega⟩
      | succ j =>
        simp [st1] at h
        rcases ih 0 v j w h with ⟨a, b⟩ | ⟨a, b, c⟩
        · exact Or.inl ⟨by omega, b⟩
        · exact Or.inr ⟨by omega, by simpa using b, by omega⟩
    | i + 2 =>
      cases j with
      | zero => simp [st1] at h; exact Or.inr ⟨by omega, by simp [h], by omega⟩
      | succ j =>
        simp [st1] at h
        rcases ih (i + 1) v j w h with ⟨a, b⟩ | ⟨a, b, c⟩
        · exact Or.inl ⟨by omega, b⟩
        · exact Or.inr ⟨by omega, by simpa using b, fun z => c ⟨by omega, z.2⟩⟩
theorem st2_get (ls : List (Option Value)) : ∀ (i : Nat) (v : Value) (j : Nat) (w : Value), (st2 ls i v)[j]? = some (some w) → (j = i ∧ w = v) ∨ (j ≠ i ∧ j ≠ i + 1 ∧ ls[j]? = some (some w) ∧ ¬ (j + 1 = i ∧ w.category = 2)) := by
  induction ls with
  | nil => intro i v j w h; simp [st2] at h
  | cons o t ih =>
    intro i v j w h
    match i with
    | 0 =>
      cases t with
      | nil =>
        cases j with
        | zero => simp [st2] at h; exact Or.inl ⟨rfl, h.symm⟩
        | succ j => simp [st2] at h
      | cons o2 t =>
        match j with
        | 0 => simp [st2] at h; exact Or.inl ⟨rfl, h.symm⟩
        | 1 => simp [st2] at h
        | j + 2 => simp [st2] at h; exact Or.inr ⟨by omega, by omega, by simpa using h, by omega⟩
    | 1 =>
      cases j with
      | zero =>
        simp [st2] at h
        obtain ⟨h1, h2⟩ := drL_some h
        exact Or.inr ⟨by omega, by omega, by simp [h1], by omega⟩
      | succ j =>
        simp [st2] at h
        rcases ih 0 v j w h with ⟨a, b⟩ | ⟨a, b, c, d⟩
        · exact Or.inl ⟨by omega, b⟩
        · exact Or.inr ⟨by omega, by omega, by simpa using c, by omega⟩
    | i + 2 =>
      cases j with
      | zero => simp [st2] at h; exact Or.inr ⟨by omega, by omega, by simp [h], by omega⟩
      | succ j =>
        simp [st2] at h
        rcases ih (i + 1) v j w h with ⟨a, b⟩ | ⟨a, b, c, d⟩
        · exact Or.inl ⟨by omega, b⟩
        · exact Or.inr ⟨by omega, by omega, by simpa using c, fun z => d ⟨by omega, z.2⟩⟩
theorem cv_cat (ad : Nat → Nat) (v : Value) : (cv ad v).category = v.category := by cases v <;> rfl
theorem LH.st1 {ad : Nat → Nat} {lv : Array Slot} {nL i : Nat} {ls : List (Option Value)} {v : Value} (h : lv_has lv nL ((i, cv ad v) :: (asc ad ls).filter (fun q => !(q.1 == i) && !(q.1 + 1 == i && q.2.category == 2)))) : LH ad lv nL (st1 ls i v) := by
  refine ⟨h.1, h.2.1, fun j w hj => ?_⟩
  rcases st1_get ls i v j w hj with ⟨rfl, rfl⟩ | ⟨a, b, c⟩
  · exact h.2.2 (j, cv ad w) List.mem_cons_self
  · refine h.2.2 (j, cv ad w) (List.mem_cons_of_mem _ (List.mem_filter.mpr ⟨asc_mem.mpr ⟨w, b, rfl⟩, ?_⟩))
    simp only [cv_cat]
    have e1 : (j == i) = false := by simpa using a
    rw [e1]
    by_cases e2 : j + 1 = i
    · have e3 : ¬ w.category = 2 := fun z => c ⟨e2, z⟩
      simp [e3]
    · simp [e2]
theorem LH.st2 {ad : Nat → Nat} {lv : Array Slot} {nL i : Nat} {ls : List (Option Value)} {v : Value} (h : lv_has lv nL ((i, cv ad v) :: (asc ad ls).filter (fun q => !(q.1 == i) && (!(q.1 == i + 1) && !(q.1 + 1 == i && q.2.category == 2))))) : LH ad lv nL (st2 ls i v) := by
  refine ⟨h.1, h.2.1, fun j w hj => ?_⟩
  rcases st2_get ls i v j w hj with ⟨rfl, rfl⟩ | ⟨a, a2, b, c⟩
  · exact h.2.2 (j, cv ad w) List.mem_cons_self
  · refine h.2.2 (j, cv ad w) (List.mem_cons_of_mem _ (List.mem_filter.mpr ⟨asc_mem.mpr ⟨w, b, rfl⟩, ?_⟩))
    simp only [cv_cat]
    have e1 : (j == i) = false := by simpa using a
    have e4 : (j == i + 1) = false := by simpa using a2
    rw [e1, e4]
    by_cases e2 : j + 1 = i
    · have e3 : ¬ w.category = 2 := fun z => c ⟨e2, z⟩
      simp [e3]
    · simp [e2]
/-- fewer values are held -/
def fgt : List Bool → List (Option Value) → List (Option Value)
  | true :: m, _ :: t => none :: fgt m t
  | false :: m, o :: t => o :: fgt m t
  | [], t => t
  | _, [] => []
theorem fgt_get : ∀ (m : List Bool) (ls : List (Option Value)) (j : Nat) (w : Value), (fgt m ls)[j]? = some (some w) → ls[j]? = some (some w) := by
  intro m
  induction m with
  | nil => intro ls j w h; cases ls <;> simpa [fgt] using h
  | cons b m ih =>
    intro ls j w h
    cases ls with
    | nil => cases b <;> simp [fgt] at h
    | cons o t =>
      cases b <;> cases j <;> simp [fgt] at h ⊢
      · exact h
      · exact ih t _ w h
      · exact ih t _ w h
theorem LH.fgt {ad : Nat → Nat} {lv : Array Slot} {nL : Nat} {ls : List (Option Value)} (m : List Bool) (h : LH ad lv nL ls) : LH ad lv nL (fgt m ls) := ⟨h.1, h.2.1, fun i v hi => h.2.2 i v (fgt_get m ls i v hi)⟩
-- the judgement
abbrev Lst : Type := List (Nat × Instr × Nat × Nat)
def Dc (cc : ByteArray) (q : Nat × Instr × Nat × Nat) : Prop := decode cc q.1 = .ok (q.2.1, q.2.2.1) ∧ q.2.2.2 = q.1 + q.2.2.1
def RmOk (d : Nat) (R : Room) (cells slots : Nat) : Prop := d ≤ R.frames ∧ 64 * d ≤ R.locals ∧ cells ≤ R.cells ∧ slots ≤ R.slots
def Cx (p : Program) (s : State) (m : MethodId) (args : Array Value) (c : Code) (cc : ByteArray) (own : String) (nL : Nat) (D : va_G) (dA : Nat → ClassId) (ad : Nat → Nat) : Prop :=
  p.tables.exec = Jvm.exec ∧ c.code = cc ∧ c.maxLocals = nL ∧ s.vm.findClass own = some m.cls ∧ (∀ w ∈ gtb, w.before args s = true) ∧ va_K D vwCl (tysA dA) s ∧ injA ad ∧ NS ad s
def Rt (cc : ByteArray) (pcr : Nat) : Option Value → Prop
  | none => decode cc pcr = .ok (.return_, 1)
  | some _ => decode cc pcr = .ok (.ireturn, 1)
def Ev (lst : Lst) (own : String) (nL d : Nat) (x : Scr) (pc : Nat) (ls : List (Option Value)) (st : List Value) (h : Sto) (r : Option Value) (h' : Sto) : Prop :=
  ∀ (p : Program) (l : Launch) (e : Env) (R : Room) (s : State) (m : MethodId) (args : Array Value) (below : List Frame) (meth : Method) (c : Code) (cells slots : Nat) (Q : State → Prop) (cc : ByteArray) (D : va_G) (dA : Nat → ClassId) (ad : Nat → Nat) (H0 : Heap),
    Cx p s m args c cc own nL D dA ad → (∀ q ∈ lst, Dc cc q) → RmOk d R cells slots → Ro ad x s H0 →
    (∀ (pcr : Nat) (H : Heap) (locs : List Loc) (lv : Array Slot), Rt cc pcr r → lv.size = nL → va_P D vwCl (wsl dA ad h') H → va_S (wrA ad) H0 H locs → W p l e R s m args below meth c H locs cells slots Q (F0 m pcr lv (r.toList.map (cv ad)))) →
    ∀ (H : Heap) (locs : List Loc) (lv : Array Slot), LH ad lv nL ls → va_P D vwCl (wsl dA ad h) H → va_S (wrA ad) H0 H locs → W p l e R s m args below meth c H locs cells slots Q (F0 m pc lv (st.map (cv ad)))
def PcA (D : va_G) (dA : Nat → ClassId) (ad : Nat → Nat) (av : List Value) (h : Sto) : Array Value → State → Prop := fun v U =>
  v = (av.map (cv ad)).toArray ∧ va_P D vwCl (wsl dA ad h) U.heap ∧ va_K D vwCl (tysA dA) U ∧ NS ad U ∧ Ro ad nox U U.heap
def QcA (D : va_G) (dA : Nat → ClassId) (ad : Nat → Nat) (r : Option Value) (h' : Sto) : Array Value → State → Outcome → State → Prop := fun _ st oc t =>
  oc = .returned (r.map (cv ad)) ∧ va_P D vwCl (wsl dA ad h') t.heap ∧ va_F (wrA ad) st t
def rmd (d : Nat) : Room := { frames := d, cells := 0, slots := 0, locals := 64 * d }
def Ok (y : MethodName) (cc : ByteArray) (nL : Nat) (rt : Option FieldType) (d : Nat) (av : List Value) (h : Sto) (r : Option Value) (h' : Sto) : Prop :=
  ∀ (l : Launch) (D : va_G) (dA : Nat → ClassId) (ad : Nat → Nat), injA ad → Met l y (.code y cc nL rt :: gtb) (rmd d) (PcA D dA ad av h) (QcA D dA ad r h') 0 0 (wrA ad)
theorem PcA_blind {D : va_G} {dA : Nat → ClassId} {ad : Nat → Nat} {av : List Value} {h : Sto} : FrameBlind (PcA D dA ad av h) := by
  intro a U g mk ⟨h1, h2, h3, h4, h5⟩
  exact ⟨h1, h2, va_K.moved (u := U) (U := U.calling g mk a) (Vm.Alike.refl U.vm) h3, ns_same (s := U) (U := U.calling g mk a) rfl h4, h5.moved (Vm.Alike.refl U.vm)⟩
