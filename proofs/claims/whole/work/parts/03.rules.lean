/-! 03 rules: a row an instruction over Ev (written by wip/whole/gen_rules.py) -/
def jrem (x y : Int32) : Int32 := x - x / y * y
def jshl (x y : Int32) : Int32 := x <<< (y &&& 31)
def jshr (x y : Int32) : Int32 := x >>> (y &&& 31)
def jush (x y : Int32) : Int32 := (x.toUInt32 >>> (y.toUInt32 &&& Int32.toUInt32 31)).toInt32
def b2i : Bool → Int32
  | true => 1
  | false => 0
theorem b2i_0 {b : Bool} : b2i b = 0 ↔ b = false := by cases b <;> decide
def nzb (v : Int32) : Int32 := vp_nar .boolean v
abbrev inb (x : Int32) (n : Nat) : Prop := ¬ (x < 0 ∨ n ≤ x.toNatClampNeg)
theorem inb_lt {x : Int32} {n : Nat} (h : inb x n) : x.toNatClampNeg < n := Nat.not_le.mp fun q => h (Or.inr q)
def grd {α : Type} (p : Prop) [Decidable p] (o : Option α) : Option α := if p then o else none
theorem grdS {α : Type} {p : Prop} [Decidable p] {o : Option α} {r : α} (e : grd p o = some r) : p ∧ o = some r := by
  unfold grd at e
  split at e
  · exact ⟨by assumption, e⟩
  · cases e
theorem iteS {α : Type} {c : Prop} [Decidable c] {a b : Option α} {r : α} (e : (if c then a else b) = some r) : (c ∧ a = some r) ∨ (¬ c ∧ b = some r) := by
  split at e
  · exact Or.inl ⟨by assumption, e⟩
  · exact Or.inr ⟨by assumption, e⟩
theorem bndS {α β : Type} {o : Option α} {f : α → Option β} {r : β} (e : o.bind f = some r) : ∃ a, o = some a ∧ f a = some r := by
  cases o with
  | none => cases e
  | some a => exact ⟨a, rfl, e⟩
def FUEL : Nat := 100000
def lp {S X : Type} (f : S → Option (S ⊕ X)) : Nat → S → Option X
  | 0, _ => none
  | n + 1, s => match f s with
    | none => none
    | some (.inl s') => lp f n s'
    | some (.inr x) => some x
theorem lpS {S X : Type} {f : S → Option (S ⊕ X)} {P : S → Prop} {x : X} (hb : ∀ (s : S) (o : S ⊕ X), f s = some o → (∀ s', o = .inl s' → P s') → (∀ x', o = .inr x' → x' = x) → P s) : ∀ (n : Nat) (s : S), lp f n s = some x → P s := by
  intro n
  induction n with
  | zero => intro s e; cases e
  | succ n ih =>
    intro s e
    unfold lp at e
    cases hf : f s with
    | none => rw [hf] at e; cases e
    | some o =>
      rw [hf] at e
      cases o with
      | inl s' => exact hb s _ hf (fun s2 h2 => by cases h2; exact ih _ e) (fun x2 h2 => by cases h2)
      | inr x' => exact hb s _ hf (fun s2 h2 => by cases h2) (fun x2 h2 => by cases h2; cases e; rfl)
theorem shp_lt {c : Nat} {q : Shp} (h : shp c = q) (hq : q.1 ≠ 9) : c < 96 := by
  rcases Nat.lt_or_ge c 96 with z | z
  · exact z
  · exfalso
    apply hq
    rw [← h]
    show (shpL.getD c (9, 0, [])).1 = 9
    rw [List.getD_eq_getElem?_getD, List.getElem?_eq_none (by rw [shpL_len]; exact z)]
    rfl
section RULES
variable {lst : Lst} {own : String} {nL d pc pc' : Nat} {x : Scr} {ls : List (Option Value)} {st : List Value} {h h' : Sto} {r : Option Value}
theorem s_iconst {n : Int} (v : Int32) (i : Nat) (hi : lst[i]? = some (pc, .iconst n, 1, pc')) (hv : Int32.ofInt n = v) (k : Ev lst own nL d x pc' ls (.int v :: st) h r h') : Ev lst own nL d x pc ls st h r h' := by
  intro p l e R s m args below meth cd0 cells slots Q cc D dA ad H0 hC hL hR hO hr H locs lv hl hP hS
  obtain ⟨hd, hp⟩ := hL _ (List.mem_of_getElem? hi)
  dsimp only at hd hp
  subst hp
  exact lv_iconst hC.1 hC.2.1 hd hv (k p l e R s m args below meth cd0 cells slots Q cc D dA ad H0 hC hL hR hO hr H locs lv hl hP hS)
theorem s_bipush {n : Int} (v : Int32) (i : Nat) (hi : lst[i]? = some (pc, .bipush n, 2, pc')) (hv : (Int8.ofInt n).toInt32 = v) (k : Ev lst own nL d x pc' ls (.int v :: st) h r h') : Ev lst own nL d x pc ls st h r h' := by
  intro p l e R s m args below meth cd0 cells slots Q cc D dA ad H0 hC hL hR hO hr H locs lv hl hP hS
  obtain ⟨hd, hp⟩ := hL _ (List.mem_of_getElem? hi)
  dsimp only at hd hp
  subst hp
  exact lv_bipush hC.1 hC.2.1 hd hv (k p l e R s m args below meth cd0 cells slots Q cc D dA ad H0 hC hL hR hO hr H locs lv hl hP hS)
theorem s_sipush {n : Int} (v : Int32) (i : Nat) (hi : lst[i]? = some (pc, .sipush n, 3, pc')) (hv : (Int16.ofInt n).toInt32 = v) (k : Ev lst own nL d x pc' ls (.int v :: st) h r h') : Ev lst own nL d x pc ls st h r h' := by
  intro p l e R s m args below meth cd0 cells slots Q cc D dA ad H0 hC hL hR hO hr H locs lv hl hP hS
  obtain ⟨hd, hp⟩ := hL _ (List.mem_of_getElem? hi)
  dsimp only at hd hp
  subst hp
  exact lv_sipush hC.1 hC.2.1 hd hv (k p l e R s m args below meth cd0 cells slots Q cc D dA ad H0 hC hL hR hO hr H locs lv hl hP hS)
theorem s_lconst {n : Fin 2} (v : Int64) (i : Nat) (hi : lst[i]? = some (pc, .lconst n, 1, pc')) (hv : Int64.ofNat (n : Nat) = v) (k : Ev lst own nL d x pc' ls (.long v :: st) h r h') : Ev lst own nL d x pc ls st h r h' := by
  intro p l e R s m args below meth cd0 cells slots Q cc D dA ad H0 hC hL hR hO hr H locs lv hl hP hS
  obtain ⟨hd, hp⟩ := hL _ (List.mem_of_getElem? hi)
  dsimp only at hd hp
  subst hp
  exact lv_lconst hC.1 hC.2.1 hd hv (k p l e R s m args below meth cd0 cells slots Q cc D dA ad H0 hC hL hR hO hr H locs lv hl hP hS)
theorem s_ldc {idx : Nat} {v : Int32} (i : Nat) (hi : lst[i]? = some (pc, .ldc idx, 2, pc')) (hw : Cond.constant own idx v ∈ gtb) (k : Ev lst own nL d x pc' ls (.int v :: st) h r h') : Ev lst own nL d x pc ls st h r h' := by
  intro p l e R s m args below meth cd0 cells slots Q cc D dA ad H0 hC hL hR hO hr H locs lv hl hP hS
  obtain ⟨hd, hp⟩ := hL _ (List.mem_of_getElem? hi)
  dsimp only at hd hp
  subst hp
  exact lv_ldc hC.1 hC.2.1 hC.2.2.2.1 (hC.2.2.2.2.1 _ hw) hd (k p l e R s m args below meth cd0 cells slots Q cc D dA ad H0 hC hL hR hO hr H locs lv hl hP hS)
theorem s_ldc_w {idx : Nat} {v : Int32} (i : Nat) (hi : lst[i]? = some (pc, .ldc_w idx, 3, pc')) (hw : Cond.constant own idx v ∈ gtb) (k : Ev lst own nL d x pc' ls (.int v :: st) h r h') : Ev lst own nL d x pc ls st h r h' := by
  intro p l e R s m args below meth cd0 cells slots Q cc D dA ad H0 hC hL hR hO hr H locs lv hl hP hS
  obtain ⟨hd, hp⟩ := hL _ (List.mem_of_getElem? hi)
  dsimp only at hd hp
  subst hp
  exact lv_ldcw hC.1 hC.2.1 hC.2.2.2.1 (hC.2.2.2.2.1 _ hw) hd (k p l e R s m args below meth cd0 cells slots Q cc D dA ad H0 hC hL hR hO hr H locs lv hl hP hS)
theorem s_ldc2_w {idx : Nat} {v : Int64} (i : Nat) (hi : lst[i]? = some (pc, .ldc2_w idx, 3, pc')) (hw : Cond.constantLong own idx v ∈ gtb) (k : Ev lst own nL d x pc' ls (.long v :: st) h r h') : Ev lst own nL d x pc ls st h r h' := by
  intro p l e R s m args below meth cd0 cells slots Q cc D dA ad H0 hC hL hR hO hr H locs lv hl hP hS
  obtain ⟨hd, hp⟩ := hL _ (List.mem_of_getElem? hi)
  dsimp only at hd hp
  subst hp
  exact lv_ldc2 hC.1 hC.2.1 hC.2.2.2.1 (hC.2.2.2.2.1 _ hw) hd (k p l e R s m args below meth cd0 cells slots Q cc D dA ad H0 hC hL hR hO hr H locs lv hl hP hS)
theorem s_iload_n {n : Fin 4} {v : Int32} (i : Nat) (hi : lst[i]? = some (pc, .iload_n n, 1, pc')) (hv : ls[(n : Nat)]? = some (some (.int v))) (k : Ev lst own nL d x pc' ls (.int v :: st) h r h') : Ev lst own nL d x pc ls st h r h' := by
  intro p l e R s m args below meth cd0 cells slots Q cc D dA ad H0 hC hL hR hO hr H locs lv hl hP hS
  obtain ⟨hd, hp⟩ := hL _ (List.mem_of_getElem? hi)
  dsimp only at hd hp
  subst hp
  exact lv_iload_n hC.1 hC.2.1 hd rfl (hl.2.2 _ (.int v) hv) (k p l e R s m args below meth cd0 cells slots Q cc D dA ad H0 hC hL hR hO hr H locs lv hl hP hS)
theorem s_iload {n : Nat} {v : Int32} (i : Nat) (hi : lst[i]? = some (pc, .iload n, 2, pc')) (hv : ls[n]? = some (some (.int v))) (k : Ev lst own nL d x pc' ls (.int v :: st) h r h') : Ev lst own nL d x pc ls st h r h' := by
  intro p l e R s m args below meth cd0 cells slots Q cc D dA ad H0 hC hL hR hO hr H locs lv hl hP hS
  obtain ⟨hd, hp⟩ := hL _ (List.mem_of_getElem? hi)
  dsimp only at hd hp
  subst hp
  exact lv_iload hC.1 hC.2.1 hd (hl.2.2 _ (.int v) hv) (k p l e R s m args below meth cd0 cells slots Q cc D dA ad H0 hC hL hR hO hr H locs lv hl hP hS)
theorem s_lload_n {n : Fin 4} {v : Int64} (i : Nat) (hi : lst[i]? = some (pc, .lload_n n, 1, pc')) (hv : ls[(n : Nat)]? = some (some (.long v))) (k : Ev lst own nL d x pc' ls (.long v :: st) h r h') : Ev lst own nL d x pc ls st h r h' := by
  intro p l e R s m args below meth cd0 cells slots Q cc D dA ad H0 hC hL hR hO hr H locs lv hl hP hS
  obtain ⟨hd, hp⟩ := hL _ (List.mem_of_getElem? hi)
  dsimp only at hd hp
  subst hp
  exact lv_lload_n hC.1 hC.2.1 hd rfl (hl.2.2 _ (.long v) hv) (k p l e R s m args below meth cd0 cells slots Q cc D dA ad H0 hC hL hR hO hr H locs lv hl hP hS)
theorem s_lload {n : Nat} {v : Int64} (i : Nat) (hi : lst[i]? = some (pc, .lload n, 2, pc')) (hv : ls[n]? = some (some (.long v))) (k : Ev lst own nL d x pc' ls (.long v :: st) h r h') : Ev lst own nL d x pc ls st h r h' := by
  intro p l e R s m args below meth cd0 cells slots Q cc D dA ad H0 hC hL hR hO hr H locs lv hl hP hS
  obtain ⟨hd, hp⟩ := hL _ (List.mem_of_getElem? hi)
  dsimp only at hd hp
  subst hp
  exact lv_lload hC.1 hC.2.1 hd (hl.2.2 _ (.long v) hv) (k p l e R s m args below meth cd0 cells slots Q cc D dA ad H0 hC hL hR hO hr H locs lv hl hP hS)
theorem s_aload_n {n : Fin 4} {v : Nat} (i : Nat) (hi : lst[i]? = some (pc, .aload_n n, 1, pc')) (hv : ls[(n : Nat)]? = some (some (.ref v))) (k : Ev lst own nL d x pc' ls (.ref v :: st) h r h') : Ev lst own nL d x pc ls st h r h' := by
  intro p l e R s m args below meth cd0 cells slots Q cc D dA ad H0 hC hL hR hO hr H locs lv hl hP hS
  obtain ⟨hd, hp⟩ := hL _ (List.mem_of_getElem? hi)
  dsimp only at hd hp
  subst hp
  exact lv_aload_n hC.1 hC.2.1 hd rfl (hl.2.2 _ (.ref v) hv) (k p l e R s m args below meth cd0 cells slots Q cc D dA ad H0 hC hL hR hO hr H locs lv hl hP hS)
theorem s_aload {n : Nat} {v : Nat} (i : Nat) (hi : lst[i]? = some (pc, .aload n, 2, pc')) (hv : ls[n]? = some (some (.ref v))) (k : Ev lst own nL d x pc' ls (.ref v :: st) h r h') : Ev lst own nL d x pc ls st h r h' := by
  intro p l e R s m args below meth cd0 cells slots Q cc D dA ad H0 hC hL hR hO hr H locs lv hl hP hS
  obtain ⟨hd, hp⟩ := hL _ (List.mem_of_getElem? hi)
  dsimp only at hd hp
  subst hp
  exact lv_aload hC.1 hC.2.1 hd (hl.2.2 _ (.ref v) hv) (k p l e R s m args below meth cd0 cells slots Q cc D dA ad H0 hC hL hR hO hr H locs lv hl hP hS)
theorem s_istore_n {n : Fin 4} {v : Int32} (ls' : List (Option Value)) (i : Nat) (hi : lst[i]? = some (pc, .istore_n n, 1, pc')) (hn : (n : Nat) < nL) (hls : st1 ls (n : Nat) (.int v) = ls') (k : Ev lst own nL d x pc' ls' st h r h') : Ev lst own nL d x pc ls (.int v :: st) h r h' := by
  intro p l e R s m args below meth cd0 cells slots Q cc D dA ad H0 hC hL hR hO hr H locs lv hl hP hS
  obtain ⟨hd, hp⟩ := hL _ (List.mem_of_getElem? hi)
  dsimp only at hd hp
  subst hp
  exact lv_istore_n hC.1 hC.2.1 hd rfl hl.has hn rfl (fun lv' hl' => k p l e R s m args below meth cd0 cells slots Q cc D dA ad H0 hC hL hR hO hr H locs lv' (hls ▸ LH.st1 (v := .int v) hl') hP hS)
theorem s_istore {n : Nat} {v : Int32} (ls' : List (Option Value)) (i : Nat) (hi : lst[i]? = some (pc, .istore n, 2, pc')) (hn : n < nL) (hls : st1 ls n (.int v) = ls') (k : Ev lst own nL d x pc' ls' st h r h') : Ev lst own nL d x pc ls (.int v :: st) h r h' := by
  intro p l e R s m args below meth cd0 cells slots Q cc D dA ad H0 hC hL hR hO hr H locs lv hl hP hS
  obtain ⟨hd, hp⟩ := hL _ (List.mem_of_getElem? hi)
  dsimp only at hd hp
  subst hp
  exact lv_istore hC.1 hC.2.1 hd hl.has hn rfl (fun lv' hl' => k p l e R s m args below meth cd0 cells slots Q cc D dA ad H0 hC hL hR hO hr H locs lv' (hls ▸ LH.st1 (v := .int v) hl') hP hS)
theorem s_lstore_n {n : Fin 4} {v : Int64} (ls' : List (Option Value)) (i : Nat) (hi : lst[i]? = some (pc, .lstore_n n, 1, pc')) (hn : (n : Nat) + 1 < nL) (hls : st2 ls (n : Nat) (.long v) = ls') (k : Ev lst own nL d x pc' ls' st h r h') : Ev lst own nL d x pc ls (.long v :: st) h r h' := by
  intro p l e R s m args below meth cd0 cells slots Q cc D dA ad H0 hC hL hR hO hr H locs lv hl hP hS
  obtain ⟨hd, hp⟩ := hL _ (List.mem_of_getElem? hi)
  dsimp only at hd hp
  subst hp
  exact lv_lstore_n hC.1 hC.2.1 hd rfl hl.has hn rfl (fun lv' hl' => k p l e R s m args below meth cd0 cells slots Q cc D dA ad H0 hC hL hR hO hr H locs lv' (hls ▸ LH.st2 (v := .long v) hl') hP hS)
theorem s_lstore {n : Nat} {v : Int64} (ls' : List (Option Value)) (i : Nat) (hi : lst[i]? = some (pc, .lstore n, 2, pc')) (hn : n + 1 < nL) (hls : st2 ls n (.long v) = ls') (k : Ev lst own nL d x pc' ls' st h r h') : Ev lst own nL d x pc ls (.long v :: st) h r h' := by
  intro p l e R s m args below meth cd0 cells slots Q cc D dA ad H0 hC hL hR hO hr H locs lv hl hP hS
  obtain ⟨hd, hp⟩ := hL _ (List.mem_of_getElem? hi)
  dsimp only at hd hp
  subst hp
  exact lv_lstore hC.1 hC.2.1 hd hl.has hn rfl (fun lv' hl' => k p l e R s m args below meth cd0 cells slots Q cc D dA ad H0 hC hL hR hO hr H locs lv' (hls ▸ LH.st2 (v := .long v) hl') hP hS)
theorem s_astore_n {n : Fin 4} {v : Nat} (ls' : List (Option Value)) (i : Nat) (hi : lst[i]? = some (pc, .astore_n n, 1, pc')) (hn : (n : Nat) < nL) (hls : st1 ls (n : Nat) (.ref v) = ls') (k : Ev lst own nL d x pc' ls' st h r h') : Ev lst own nL d x pc ls (.ref v :: st) h r h' := by
  intro p l e R s m args below meth cd0 cells slots Q cc D dA ad H0 hC hL hR hO hr H locs lv hl hP hS
  obtain ⟨hd, hp⟩ := hL _ (List.mem_of_getElem? hi)
  dsimp only at hd hp
  subst hp
  exact lv_astore_n hC.1 hC.2.1 hd rfl hl.has hn rfl (fun lv' hl' => k p l e R s m args below meth cd0 cells slots Q cc D dA ad H0 hC hL hR hO hr H locs lv' (hls ▸ LH.st1 (v := .ref v) hl') hP hS)
theorem s_astore {n : Nat} {v : Nat} (ls' : List (Option Value)) (i : Nat) (hi : lst[i]? = some (pc, .astore n, 2, pc')) (hn : n < nL) (hls : st1 ls n (.ref v) = ls') (k : Ev lst own nL d x pc' ls' st h r h') : Ev lst own nL d x pc ls (.ref v :: st) h r h' := by
  intro p l e R s m args below meth cd0 cells slots Q cc D dA ad H0 hC hL hR hO hr H locs lv hl hP hS
  obtain ⟨hd, hp⟩ := hL _ (List.mem_of_getElem? hi)
  dsimp only at hd hp
  subst hp
  exact lv_astore hC.1 hC.2.1 hd hl.has hn rfl (fun lv' hl' => k p l e R s m args below meth cd0 cells slots Q cc D dA ad H0 hC hL hR hO hr H locs lv' (hls ▸ LH.st1 (v := .ref v) hl') hP hS)
theorem s_iinc {n : Nat} {z : Int} {v : Int32} (w : Int32) (ls' : List (Option Value)) (i : Nat) (hi : lst[i]? = some (pc, .iinc n z, 3, pc')) (hw : Int32.ofInt z = w) (hv : ls[n]? = some (some (.int v))) (hn : n < nL) (hls : st1 ls n (.int (v + w)) = ls') (k : Ev lst own nL d x pc' ls' st h r h') : Ev lst own nL d x pc ls st h r h' := by
  intro p l e R s m args below meth cd0 cells slots Q cc D dA ad H0 hC hL hR hO hr H locs lv hl hP hS
  obtain ⟨hd, hp⟩ := hL _ (List.mem_of_getElem? hi)
  dsimp only at hd hp
  subst hp
  have hm : (n, Value.int v) ∈ asc ad ls := asc_mem.mpr ⟨_, hv, rfl⟩
  obtain ⟨k0, hk0⟩ := List.getElem?_of_mem hm
  exact lv_iinc hC.1 hC.2.1 hd hl.has hk0 (by rw [hw]) hn rfl (fun lv' hl' => k p l e R s m args below meth cd0 cells slots Q cc D dA ad H0 hC hL hR hO hr H locs lv' (hls ▸ LH.st1 (v := .int (v + w)) hl') hP hS)
theorem s_iadd {v w : Int32} (i : Nat) (hi : lst[i]? = some (pc, .iadd, 1, pc')) (k : Ev lst own nL d x pc' ls (.int (v + w) :: st) h r h') : Ev lst own nL d x pc ls (.int w :: .int v :: st) h r h' := by
  intro p l e R s m args below meth cd0 cells slots Q cc D dA ad H0 hC hL hR hO hr H locs lv hl hP hS
  obtain ⟨hd, hp⟩ := hL _ (List.mem_of_getElem? hi)
  dsimp only at hd hp
  subst hp
  exact lv_iadd hC.1 hC.2.1 hd (k p l e R s m args below meth cd0 cells slots Q cc D dA ad H0 hC hL hR hO hr H locs lv hl hP hS)
theorem s_isub {v w : Int32} (i : Nat) (hi : lst[i]? = some (pc, .isub, 1, pc')) (k : Ev lst own nL d x pc' ls (.int (v - w) :: st) h r h') : Ev lst own nL d x pc ls (.int w :: .int v :: st) h r h' := by
  intro p l e R s m args below meth cd0 cells slots Q cc D dA ad H0 hC hL hR hO hr H locs lv hl hP hS
  obtain ⟨hd, hp⟩ := hL _ (List.mem_of_getElem? hi)
  dsimp only at hd hp
  subst hp
  exact lv_isub hC.1 hC.2.1 hd (k p l e R s m args below meth cd0 cells slots Q cc D dA ad H0 hC hL hR hO hr H locs lv hl hP hS)
theorem s_imul {v w : Int32} (i : Nat) (hi : lst[i]? = some (pc, .imul, 1, pc')) (k : Ev lst own nL d x pc' ls (.int (v * w) :: st) h r h') : Ev lst own nL d x pc ls (.int w :: .int v :: st) h r h' := by
  intro p l e R s m args below meth cd0 cells slots Q cc D dA ad H0 hC hL hR hO hr H locs lv hl hP hS
  obtain ⟨hd, hp⟩ := hL _ (List.mem_of_getElem? hi)
  dsimp only at hd hp
  subst hp
  exact lv_imul hC.1 hC.2.1 hd (k p l e R s m args below meth cd0 cells slots Q cc D dA ad H0 hC hL hR hO hr H locs lv hl hP hS)
theorem s_iand {v w : Int32} (i : Nat) (hi : lst[i]? = some (pc, .iand, 1, pc')) (k : Ev lst own nL d x pc' ls (.int (v &&& w) :: st) h r h') : Ev lst own nL d x pc ls (.int w :: .int v :: st) h r h' := by
  intro p l e R s m args below meth cd0 cells slots Q cc D dA ad H0 hC hL hR hO hr H locs lv hl hP hS
  obtain ⟨hd, hp⟩ := hL _ (List.mem_of_getElem? hi)
  dsimp only at hd hp
  subst hp
  exact lv_iand hC.1 hC.2.1 hd (k p l e R s m args below meth cd0 cells slots Q cc D dA ad H0 hC hL hR hO hr H locs lv hl hP hS)
theorem s_ior {v w : Int32} (i : Nat) (hi : lst[i]? = some (pc, .ior, 1, pc')) (k : Ev lst own nL d x pc' ls (.int (v ||| w) :: st) h r h') : Ev lst own nL d x pc ls (.int w :: .int v :: st) h r h' := by
  intro p l e R s m args below meth cd0 cells slots Q cc D dA ad H0 hC hL hR hO hr H locs lv hl hP hS
  obtain ⟨hd, hp⟩ := hL _ (List.mem_of_getElem? hi)
  dsimp only at hd hp
  subst hp
  exact lv_ior hC.1 hC.2.1 hd (k p l e R s m args below meth cd0 cells slots Q cc D dA ad H0 hC hL hR hO hr H locs lv hl hP hS)
theorem s_ixor {v w : Int32} (i : Nat) (hi : lst[i]? = some (pc, .ixor, 1, pc')) (k : Ev lst own nL d x pc' ls (.int (v ^^^ w) :: st) h r h') : Ev lst own nL d x pc ls (.int w :: .int v :: st) h r h' := by
  intro p l e R s m args below meth cd0 cells slots Q cc D dA ad H0 hC hL hR hO hr H locs lv hl hP hS
  obtain ⟨hd, hp⟩ := hL _ (List.mem_of_getElem? hi)
  dsimp only at hd hp
  subst hp
  exact lv_ixor hC.1 hC.2.1 hd (k p l e R s m args below meth cd0 cells slots Q cc D dA ad H0 hC hL hR hO hr H locs lv hl hP hS)
theorem s_ishl {v w : Int32} (i : Nat) (hi : lst[i]? = some (pc, .ishl, 1, pc')) (k : Ev lst own nL d x pc' ls (.int (jshl v w) :: st) h r h') : Ev lst own nL d x pc ls (.int w :: .int v :: st) h r h' := by
  intro p l e R s m args below meth cd0 cells slots Q cc D dA ad H0 hC hL hR hO hr H locs lv hl hP hS
  obtain ⟨hd, hp⟩ := hL _ (List.mem_of_getElem? hi)
  dsimp only at hd hp
  subst hp
  exact lv_ishl hC.1 hC.2.1 hd (k p l e R s m args below meth cd0 cells slots Q cc D dA ad H0 hC hL hR hO hr H locs lv hl hP hS)
theorem s_ishr {v w : Int32} (i : Nat) (hi : lst[i]? = some (pc, .ishr, 1, pc')) (k : Ev lst own nL d x pc' ls (.int (jshr v w) :: st) h r h') : Ev lst own nL d x pc ls (.int w :: .int v :: st) h r h' := by
  intro p l e R s m args below meth cd0 cells slots Q cc D dA ad H0 hC hL hR hO hr H locs lv hl hP hS
  obtain ⟨hd, hp⟩ := hL _ (List.mem_of_getElem? hi)
  dsimp only at hd hp
  subst hp
  exact lv_ishr hC.1 hC.2.1 hd (k p l e R s m args below meth cd0 cells slots Q cc D dA ad H0 hC hL hR hO hr H locs lv hl hP hS)
theorem s_iushr {v w : Int32} (i : Nat) (hi : lst[i]? = some (pc, .iushr, 1, pc')) (k : Ev lst own nL d x pc' ls (.int (jush v w) :: st) h r h') : Ev lst own nL d x pc ls (.int w :: .int v :: st) h r h' := by
  intro p l e R s m args below meth cd0 cells slots Q cc D dA ad H0 hC hL hR hO hr H locs lv hl hP hS
  obtain ⟨hd, hp⟩ := hL _ (List.mem_of_getElem? hi)
  dsimp only at hd hp
  subst hp
  exact lv_iushr hC.1 hC.2.1 hd rfl (k p l e R s m args below meth cd0 cells slots Q cc D dA ad H0 hC hL hR hO hr H locs lv hl hP hS)
theorem s_idiv {v w : Int32} (i : Nat) (hi : lst[i]? = some (pc, .idiv, 1, pc')) (hw : ¬ w = 0) (k : Ev lst own nL d x pc' ls (.int (v / w) :: st) h r h') : Ev lst own nL d x pc ls (.int w :: .int v :: st) h r h' := by
  intro p l e R s m args below meth cd0 cells slots Q cc D dA ad H0 hC hL hR hO hr H locs lv hl hP hS
  obtain ⟨hd, hp⟩ := hL _ (List.mem_of_getElem? hi)
  dsimp only at hd hp
  subst hp
  exact lv_idiv hC.1 hC.2.1 hd hw (k p l e R s m args below meth cd0 cells slots Q cc D dA ad H0 hC hL hR hO hr H locs lv hl hP hS)
theorem s_irem {v w : Int32} (i : Nat) (hi : lst[i]? = some (pc, .irem, 1, pc')) (hw : ¬ w = 0) (k : Ev lst own nL d x pc' ls (.int (jrem v w) :: st) h r h') : Ev lst own nL d x pc ls (.int w :: .int v :: st) h r h' := by
  intro p l e R s m args below meth cd0 cells slots Q cc D dA ad H0 hC hL hR hO hr H locs lv hl hP hS
  obtain ⟨hd, hp⟩ := hL _ (List.mem_of_getElem? hi)
  dsimp only at hd hp
  subst hp
  exact lv_irem hC.1 hC.2.1 hd hw (k p l e R s m args below meth cd0 cells slots Q cc D dA ad H0 hC hL hR hO hr H locs lv hl hP hS)
theorem s_ineg {v : Int32} (i : Nat) (hi : lst[i]? = some (pc, .ineg, 1, pc')) (k : Ev lst own nL d x pc' ls (.int (-v) :: st) h r h') : Ev lst own nL d x pc ls (.int v :: st) h r h' := by
  intro p l e R s m args below meth cd0 cells slots Q cc D dA ad H0 hC hL hR hO hr H locs lv hl hP hS
  obtain ⟨hd, hp⟩ := hL _ (List.mem_of_getElem? hi)
  dsimp only at hd hp
  subst hp
  exact lv_ineg hC.1 hC.2.1 hd (k p l e R s m args below meth cd0 cells slots Q cc D dA ad H0 hC hL hR hO hr H locs lv hl hP hS)
theorem s_ladd {v w : Int64} (i : Nat) (hi : lst[i]? = some (pc, .ladd, 1, pc')) (k : Ev lst own nL d x pc' ls (.long (v + w) :: st) h r h') : Ev lst own nL d x pc ls (.long w :: .long v :: st) h r h' := by
  intro p l e R s m args below meth cd0 cells slots Q cc D dA ad H0 hC hL hR hO hr H locs lv hl hP hS
  obtain ⟨hd, hp⟩ := hL _ (List.mem_of_getElem? hi)
  dsimp only at hd hp
  subst hp
  exact lv_ladd hC.1 hC.2.1 hd (k p l e R s m args below meth cd0 cells slots Q cc D dA ad H0 hC hL hR hO hr H locs lv hl hP hS)
theorem s_lsub {v w : Int64} (i : Nat) (hi : lst[i]? = some (pc, .lsub, 1, pc')) (k : Ev lst own nL d x pc' ls (.long (v - w) :: st) h r h') : Ev lst own nL d x pc ls (.long w :: .long v :: st) h r h' := by
  intro p l e R s m args below meth cd0 cells slots Q cc D dA ad H0 hC hL hR hO hr H locs lv hl hP hS
  obtain ⟨hd, hp⟩ := hL _ (List.mem_of_getElem? hi)
  dsimp only at hd hp
  subst hp
  exact lv_lsub hC.1 hC.2.1 hd (k p l e R s m args below meth cd0 cells slots Q cc D dA ad H0 hC hL hR hO hr H locs lv hl hP hS)
theorem s_lmul {v w : Int64} (i : Nat) (hi : lst[i]? = some (pc, .lmul, 1, pc')) (k : Ev lst own nL d x pc' ls (.long (v * w) :: st) h r h') : Ev lst own nL d x pc ls (.long w :: .long v :: st) h r h' := by
  intro p l e R s m args below meth cd0 cells slots Q cc D dA ad H0 hC hL hR hO hr H locs lv hl hP hS
  obtain ⟨hd, hp⟩ := hL _ (List.mem_of_getElem? hi)
  dsimp only at hd hp
  subst hp
  exact lv_lmul hC.1 hC.2.1 hd (k p l e R s m args below meth cd0 cells slots Q cc D dA ad H0 hC hL hR hO hr H locs lv hl hP hS)
theorem s_lneg {v : Int64} (i : Nat) (hi : lst[i]? = some (pc, .lneg, 1, pc')) (k : Ev lst own nL d x pc' ls (.long (-v) :: st) h r h') : Ev lst own nL d x pc ls (.long v :: st) h r h' := by
  intro p l e R s m args below meth cd0 cells slots Q cc D dA ad H0 hC hL hR hO hr H locs lv hl hP hS
  obtain ⟨hd, hp⟩ := hL _ (List.mem_of_getElem? hi)
  dsimp only at hd hp
  subst hp
  exact lv_lneg hC.1 hC.2.1 hd (k p l e R s m args below meth cd0 cells slots Q cc D dA ad H0 hC hL hR hO hr H locs lv hl hP hS)
theorem s_lcmp {v w : Int64} (i : Nat) (hi : lst[i]? = some (pc, .lcmp, 1, pc')) (k : Ev lst own nL d x pc' ls (.int (lg_cmp v w) :: st) h r h') : Ev lst own nL d x pc ls (.long w :: .long v :: st) h r h' := by
  intro p l e R s m args below meth cd0 cells slots Q cc D dA ad H0 hC hL hR hO hr H locs lv hl hP hS
  obtain ⟨hd, hp⟩ := hL _ (List.mem_of_getElem? hi)
  dsimp only at hd hp
  subst hp
  exact W.lcmp hC.1 hC.2.1 hd (k p l e R s m args below meth cd0 cells slots Q cc D dA ad H0 hC hL hR hO hr H locs lv hl hP hS)
theorem s_i2l {v : Int32} (i : Nat) (hi : lst[i]? = some (pc, .i2l, 1, pc')) (k : Ev lst own nL d x pc' ls (.long v.toInt64 :: st) h r h') : Ev lst own nL d x pc ls (.int v :: st) h r h' := by
  intro p l e R s m args below meth cd0 cells slots Q cc D dA ad H0 hC hL hR hO hr H locs lv hl hP hS
  obtain ⟨hd, hp⟩ := hL _ (List.mem_of_getElem? hi)
  dsimp only at hd hp
  subst hp
  exact lv_i2l hC.1 hC.2.1 hd rfl (k p l e R s m args below meth cd0 cells slots Q cc D dA ad H0 hC hL hR hO hr H locs lv hl hP hS)
theorem s_i2b {v : Int32} (i : Nat) (hi : lst[i]? = some (pc, .i2b, 1, pc')) (k : Ev lst own nL d x pc' ls (.int v.toInt8.toInt32 :: st) h r h') : Ev lst own nL d x pc ls (.int v :: st) h r h' := by
  intro p l e R s m args below meth cd0 cells slots Q cc D dA ad H0 hC hL hR hO hr H locs lv hl hP hS
  obtain ⟨hd, hp⟩ := hL _ (List.mem_of_getElem? hi)
  dsimp only at hd hp
  subst hp
  exact lv_i2b hC.1 hC.2.1 hd rfl (k p l e R s m args below meth cd0 cells slots Q cc D dA ad H0 hC hL hR hO hr H locs lv hl hP hS)
theorem s_i2s {v : Int32} (i : Nat) (hi : lst[i]? = some (pc, .i2s, 1, pc')) (k : Ev lst own nL d x pc' ls (.int v.toInt16.toInt32 :: st) h r h') : Ev lst own nL d x pc ls (.int v :: st) h r h' := by
  intro p l e R s m args below meth cd0 cells slots Q cc D dA ad H0 hC hL hR hO hr H locs lv hl hP hS
  obtain ⟨hd, hp⟩ := hL _ (List.mem_of_getElem? hi)
  dsimp only at hd hp
  subst hp
  exact lv_i2s hC.1 hC.2.1 hd rfl (k p l e R s m args below meth cd0 cells slots Q cc D dA ad H0 hC hL hR hO hr H locs lv hl hP hS)
theorem s_i2c {v : Int32} (i : Nat) (hi : lst[i]? = some (pc, .i2c, 1, pc')) (k : Ev lst own nL d x pc' ls (.int (v.toUInt32 % 65536).toInt32 :: st) h r h') : Ev lst own nL d x pc ls (.int v :: st) h r h' := by
  intro p l e R s m args below meth cd0 cells slots Q cc D dA ad H0 hC hL hR hO hr H locs lv hl hP hS
  obtain ⟨hd, hp⟩ := hL _ (List.mem_of_getElem? hi)
  dsimp only at hd hp
  subst hp
  exact lv_i2c hC.1 hC.2.1 hd rfl (k p l e R s m args below meth cd0 cells slots Q cc D dA ad H0 hC hL hR hO hr H locs lv hl hP hS)
theorem s_dup {v : Value} (i : Nat) (hi : lst[i]? = some (pc, .dup, 1, pc')) (hv : v.category = 1) (k : Ev lst own nL d x pc' ls (v :: v :: st) h r h') : Ev lst own nL d x pc ls (v :: st) h r h' := by
  intro p l e R s m args below meth cd0 cells slots Q cc D dA ad H0 hC hL hR hO hr H locs lv hl hP hS
  obtain ⟨hd, hp⟩ := hL _ (List.mem_of_getElem? hi)
  dsimp only at hd hp
  subst hp
  exact lv_dup hC.1 hC.2.1 hd (by rw [cv_cat]; exact hv) (k p l e R s m args below meth cd0 cells slots Q cc D dA ad H0 hC hL hR hO hr H locs lv hl hP hS)
theorem s_pop {v : Value} (i : Nat) (hi : lst[i]? = some (pc, .pop, 1, pc')) (hv : v.category = 1) (k : Ev lst own nL d x pc' ls st h r h') : Ev lst own nL d x pc ls (v :: st) h r h' := by
  intro p l e R s m args below meth cd0 cells slots Q cc D dA ad H0 hC hL hR hO hr H locs lv hl hP hS
  obtain ⟨hd, hp⟩ := hL _ (List.mem_of_getElem? hi)
  dsimp only at hd hp
  subst hp
  exact lv_pop hC.1 hC.2.1 hd (by rw [cv_cat]; exact hv) (k p l e R s m args below meth cd0 cells slots Q cc D dA ad H0 hC hL hR hO hr H locs lv hl hP hS)
theorem s_dup2 {v w : Value} (i : Nat) (hi : lst[i]? = some (pc, .dup2, 1, pc')) (hv : v.category = 1) (hw : w.category = 1) (k : Ev lst own nL d x pc' ls (v :: w :: v :: w :: st) h r h') : Ev lst own nL d x pc ls (v :: w :: st) h r h' := by
  intro p l e R s m args below meth cd0 cells slots Q cc D dA ad H0 hC hL hR hO hr H locs lv hl hP hS
  obtain ⟨hd, hp⟩ := hL _ (List.mem_of_getElem? hi)
  dsimp only at hd hp
  subst hp
  exact lv_dup2_11 hC.1 hC.2.1 hd (by rw [cv_cat]; exact hv) (by rw [cv_cat]; exact hw) (k p l e R s m args below meth cd0 cells slots Q cc D dA ad H0 hC hL hR hO hr H locs lv hl hP hS)
theorem s_icmp_eq_T {v w : Int32} {off : Int} (i tgt : Nat) (hi : lst[i]? = some (pc, .if_icmp .eq off, 3, pc')) (ht : (pc : Int) + off = (tgt : Int)) (g : v = w) (k : Ev lst own nL d x tgt ls st h r h') : Ev lst own nL d x pc ls (.int w :: .int v :: st) h r h' := by
  intro p l e R s m args below meth cd0 cells slots Q cc D dA ad H0 hC hL hR hO hr H locs lv hl hP hS
  obtain ⟨hd, hp⟩ := hL _ (List.mem_of_getElem? hi)
  dsimp only at hd hp
  subst hp
  exact lv_icmp_eq hC.1 hC.2.1 hd ht (fun _ => k p l e R s m args below meth cd0 cells slots Q cc D dA ad H0 hC hL hR hO hr H locs lv hl hP hS) (fun q => absurd g q)
theorem s_icmp_eq_F {v w : Int32} {off : Int} (i tgt : Nat) (hi : lst[i]? = some (pc, .if_icmp .eq off, 3, pc')) (ht : (pc : Int) + off = (tgt : Int)) (g : ¬ v = w) (k : Ev lst own nL d x pc' ls st h r h') : Ev lst own nL d x pc ls (.int w :: .int v :: st) h r h' := by
  intro p l e R s m args below meth cd0 cells slots Q cc D dA ad H0 hC hL hR hO hr H locs lv hl hP hS
  obtain ⟨hd, hp⟩ := hL _ (List.mem_of_getElem? hi)
  dsimp only at hd hp
  subst hp
  exact lv_icmp_eq hC.1 hC.2.1 hd ht (fun q => absurd q g) (fun _ => k p l e R s m args below meth cd0 cells slots Q cc D dA ad H0 hC hL hR hO hr H locs lv hl hP hS)
theorem s_if_eq_T {v : Int32} {off : Int} (i tgt : Nat) (hi : lst[i]? = some (pc, .ifCond .eq off, 3, pc')) (ht : (pc : Int) + off = (tgt : Int)) (g : v = 0) (k : Ev lst own nL d x tgt ls st h r h') : Ev lst own nL d x pc ls (.int v :: st) h r h' := by
  intro p l e R s m args below meth cd0 cells slots Q cc D dA ad H0 hC hL hR hO hr H locs lv hl hP hS
  obtain ⟨hd, hp⟩ := hL _ (List.mem_of_getElem? hi)
  dsimp only at hd hp
  subst hp
  exact lv_if_eq hC.1 hC.2.1 hd ht (fun _ => k p l e R s m args below meth cd0 cells slots Q cc D dA ad H0 hC hL hR hO hr H locs lv hl hP hS) (fun q => absurd g q)
theorem s_if_eq_F {v : Int32} {off : Int} (i tgt : Nat) (hi : lst[i]? = some (pc, .ifCond .eq off, 3, pc')) (ht : (pc : Int) + off = (tgt : Int)) (g : ¬ v = 0) (k : Ev lst own nL d x pc' ls st h r h') : Ev lst own nL d x pc ls (.int v :: st) h r h' := by
  intro p l e R s m args below meth cd0 cells slots Q cc D dA ad H0 hC hL hR hO hr H locs lv hl hP hS
  obtain ⟨hd, hp⟩ := hL _ (List.mem_of_getElem? hi)
  dsimp only at hd hp
  subst hp
  exact lv_if_eq hC.1 hC.2.1 hd ht (fun q => absurd q g) (fun _ => k p l e R s m args below meth cd0 cells slots Q cc D dA ad H0 hC hL hR hO hr H locs lv hl hP hS)
theorem s_icmp_ne_T {v w : Int32} {off : Int} (i tgt : Nat) (hi : lst[i]? = some (pc, .if_icmp .ne off, 3, pc')) (ht : (pc : Int) + off = (tgt : Int)) (g : ¬ v = w) (k : Ev lst own nL d x tgt ls st h r h') : Ev lst own nL d x pc ls (.int w :: .int v :: st) h r h' := by
  intro p l e R s m args below meth cd0 cells slots Q cc D dA ad H0 hC hL hR hO hr H locs lv hl hP hS
  obtain ⟨hd, hp⟩ := hL _ (List.mem_of_getElem? hi)
  dsimp only at hd hp
  subst hp
  exact lv_icmp_ne hC.1 hC.2.1 hd ht (fun _ => k p l e R s m args below meth cd0 cells slots Q cc D dA ad H0 hC hL hR hO hr H locs lv hl hP hS) (fun q => absurd q g)
theorem s_icmp_ne_F {v w : Int32} {off : Int} (i tgt : Nat) (hi : lst[i]? = some (pc, .if_icmp .ne off, 3, pc')) (ht : (pc : Int) + off = (tgt : Int)) (g : v = w) (k : Ev lst own nL d x pc' ls st h r h') : Ev lst own nL d x pc ls (.int w :: .int v :: st) h r h' := by
  intro p l e R s m args below meth cd0 cells slots Q cc D dA ad H0 hC hL hR hO hr H locs lv hl hP hS
  obtain ⟨hd, hp⟩ := hL _ (List.mem_of_getElem? hi)
  dsimp only at hd hp
  subst hp
  exact lv_icmp_ne hC.1 hC.2.1 hd ht (fun q => absurd g q) (fun _ => k p l e R s m args below meth cd0 cells slots Q cc D dA ad H0 hC hL hR hO hr H locs lv hl hP hS)
theorem s_if_ne_T {v : Int32} {off : Int} (i tgt : Nat) (hi : lst[i]? = some (pc, .ifCond .ne off, 3, pc')) (ht : (pc : Int) + off = (tgt : Int)) (g : ¬ v = 0) (k : Ev lst own nL d x tgt ls st h r h') : Ev lst own nL d x pc ls (.int v :: st) h r h' := by
  intro p l e R s m args below meth cd0 cells slots Q cc D dA ad H0 hC hL hR hO hr H locs lv hl hP hS
  obtain ⟨hd, hp⟩ := hL _ (List.mem_of_getElem? hi)
  dsimp only at hd hp
  subst hp
  exact lv_if_ne hC.1 hC.2.1 hd ht (fun _ => k p l e R s m args below meth cd0 cells slots Q cc D dA ad H0 hC hL hR hO hr H locs lv hl hP hS) (fun q => absurd q g)
theorem s_if_ne_F {v : Int32} {off : Int} (i tgt : Nat) (hi : lst[i]? = some (pc, .ifCond .ne off, 3, pc')) (ht : (pc : Int) + off = (tgt : Int)) (g : v = 0) (k : Ev lst own nL d x pc' ls st h r h') : Ev lst own nL d x pc ls (.int v :: st) h r h' := by
  intro p l e R s m args below meth cd0 cells slots Q cc D dA ad H0 hC hL hR hO hr H locs lv hl hP hS
  obtain ⟨hd, hp⟩ := hL _ (List.mem_of_getElem? hi)
  dsimp only at hd hp
  subst hp
  exact lv_if_ne hC.1 hC.2.1 hd ht (fun q => absurd g q) (fun _ => k p l e R s m args below meth cd0 cells slots Q cc D dA ad H0 hC hL hR hO hr H locs lv hl hP hS)
theorem s_icmp_lt_T {v w : Int32} {off : Int} (i tgt : Nat) (hi : lst[i]? = some (pc, .if_icmp .lt off, 3, pc')) (ht : (pc : Int) + off = (tgt : Int)) (g : v < w) (k : Ev lst own nL d x tgt ls st h r h') : Ev lst own nL d x pc ls (.int w :: .int v :: st) h r h' := by
  intro p l e R s m args below meth cd0 cells slots Q cc D dA ad H0 hC hL hR hO hr H locs lv hl hP hS
  obtain ⟨hd, hp⟩ := hL _ (List.mem_of_getElem? hi)
  dsimp only at hd hp
  subst hp
  exact lv_icmp_lt hC.1 hC.2.1 hd ht (fun _ => k p l e R s m args below meth cd0 cells slots Q cc D dA ad H0 hC hL hR hO hr H locs lv hl hP hS) (fun q => absurd g q)
theorem s_icmp_lt_F {v w : Int32} {off : Int} (i tgt : Nat) (hi : lst[i]? = some (pc, .if_icmp .lt off, 3, pc')) (ht : (pc : Int) + off = (tgt : Int)) (g : ¬ v < w) (k : Ev lst own nL d x pc' ls st h r h') : Ev lst own nL d x pc ls (.int w :: .int v :: st) h r h' := by
  intro p l e R s m args below meth cd0 cells slots Q cc D dA ad H0 hC hL hR hO hr H locs lv hl hP hS
  obtain ⟨hd, hp⟩ := hL _ (List.mem_of_getElem? hi)
  dsimp only at hd hp
  subst hp
  exact lv_icmp_lt hC.1 hC.2.1 hd ht (fun q => absurd q g) (fun _ => k p l e R s m args below meth cd0 cells slots Q cc D dA ad H0 hC hL hR hO hr H locs lv hl hP hS)
theorem s_if_lt_T {v : Int32} {off : Int} (i tgt : Nat) (hi : lst[i]? = some (pc, .ifCond .lt off, 3, pc')) (ht : (pc : Int) + off = (tgt : Int)) (g : v < 0) (k : Ev lst own nL d x tgt ls st h r h') : Ev lst own nL d x pc ls (.int v :: st) h r h' := by
  intro p l e R s m args below meth cd0 cells slots Q cc D dA ad H0 hC hL hR hO hr H locs lv hl hP hS
  obtain ⟨hd, hp⟩ := hL _ (List.mem_of_getElem? hi)
  dsimp only at hd hp
  subst hp
  exact lv_if_lt hC.1 hC.2.1 hd ht (fun _ => k p l e R s m args below meth cd0 cells slots Q cc D dA ad H0 hC hL hR hO hr H locs lv hl hP hS) (fun q => absurd g q)
theorem s_if_lt_F {v : Int32} {off : Int} (i tgt : Nat) (hi : lst[i]? = some (pc, .ifCond .lt off, 3, pc')) (ht : (pc : Int) + off = (tgt : Int)) (g : ¬ v < 0) (k : Ev lst own nL d x pc' ls st h r h') : Ev lst own nL d x pc ls (.int v :: st) h r h' := by
  intro p l e R s m args below meth cd0 cells slots Q cc D dA ad H0 hC hL hR hO hr H locs lv hl hP hS
  obtain ⟨hd, hp⟩ := hL _ (List.mem_of_getElem? hi)
  dsimp only at hd hp
  subst hp
  exact lv_if_lt hC.1 hC.2.1 hd ht (fun q => absurd q g) (fun _ => k p l e R s m args below meth cd0 cells slots Q cc D dA ad H0 hC hL hR hO hr H locs lv hl hP hS)
theorem s_icmp_ge_T {v w : Int32} {off : Int} (i tgt : Nat) (hi : lst[i]? = some (pc, .if_icmp .ge off, 3, pc')) (ht : (pc : Int) + off = (tgt : Int)) (g : w ≤ v) (k : Ev lst own nL d x tgt ls st h r h') : Ev lst own nL d x pc ls (.int w :: .int v :: st) h r h' := by
  intro p l e R s m args below meth cd0 cells slots Q cc D dA ad H0 hC hL hR hO hr H locs lv hl hP hS
  obtain ⟨hd, hp⟩ := hL _ (List.mem_of_getElem? hi)
  dsimp only at hd hp
  subst hp
  exact lv_icmp_ge hC.1 hC.2.1 hd ht (fun _ => k p l e R s m args below meth cd0 cells slots Q cc D dA ad H0 hC hL hR hO hr H locs lv hl hP hS) (fun q => absurd g q)
theorem s_icmp_ge_F {v w : Int32} {off : Int} (i tgt : Nat) (hi : lst[i]? = some (pc, .if_icmp .ge off, 3, pc')) (ht : (pc : Int) + off = (tgt : Int)) (g : ¬ w ≤ v) (k : Ev lst own nL d x pc' ls st h r h') : Ev lst own nL d x pc ls (.int w :: .int v :: st) h r h' := by
  intro p l e R s m args below meth cd0 cells slots Q cc D dA ad H0 hC hL hR hO hr H locs lv hl hP hS
  obtain ⟨hd, hp⟩ := hL _ (List.mem_of_getElem? hi)
  dsimp only at hd hp
  subst hp
  exact lv_icmp_ge hC.1 hC.2.1 hd ht (fun q => absurd q g) (fun _ => k p l e R s m args below meth cd0 cells slots Q cc D dA ad H0 hC hL hR hO hr H locs lv hl hP hS)
theorem s_if_ge_T {v : Int32} {off : Int} (i tgt : Nat) (hi : lst[i]? = some (pc, .ifCond .ge off, 3, pc')) (ht : (pc : Int) + off = (tgt : Int)) (g : 0 ≤ v) (k : Ev lst own nL d x tgt ls st h r h') : Ev lst own nL d x pc ls (.int v :: st) h r h' := by
  intro p l e R s m args below meth cd0 cells slots Q cc D dA ad H0 hC hL hR hO hr H locs lv hl hP hS
  obtain ⟨hd, hp⟩ := hL _ (List.mem_of_getElem? hi)
  dsimp only at hd hp
  subst hp
  exact lv_if_ge hC.1 hC.2.1 hd ht (fun _ => k p l e R s m args below meth cd0 cells slots Q cc D dA ad H0 hC hL hR hO hr H locs lv hl hP hS) (fun q => absurd g q)
theorem s_if_ge_F {v : Int32} {off : Int} (i tgt : Nat) (hi : lst[i]? = some (pc, .ifCond .ge off, 3, pc')) (ht : (pc : Int) + off = (tgt : Int)) (g : ¬ 0 ≤ v) (k : Ev lst own nL d x pc' ls st h r h') : Ev lst own nL d x pc ls (.int v :: st) h r h' := by
  intro p l e R s m args below meth cd0 cells slots Q cc D dA ad H0 hC hL hR hO hr H locs lv hl hP hS
  obtain ⟨hd, hp⟩ := hL _ (List.mem_of_getElem? hi)
  dsimp only at hd hp
  subst hp
  exact lv_if_ge hC.1 hC.2.1 hd ht (fun q => absurd q g) (fun _ => k p l e R s m args below meth cd0 cells slots Q cc D dA ad H0 hC hL hR hO hr H locs lv hl hP hS)
theorem s_icmp_gt_T {v w : Int32} {off : Int} (i tgt : Nat) (hi : lst[i]? = some (pc, .if_icmp .gt off, 3, pc')) (ht : (pc : Int) + off = (tgt : Int)) (g : w < v) (k : Ev lst own nL d x tgt ls st h r h') : Ev lst own nL d x pc ls (.int w :: .int v :: st) h r h' := by
  intro p l e R s m args below meth cd0 cells slots Q cc D dA ad H0 hC hL hR hO hr H locs lv hl hP hS
  obtain ⟨hd, hp⟩ := hL _ (List.mem_of_getElem? hi)
  dsimp only at hd hp
  subst hp
  exact lv_icmp_gt hC.1 hC.2.1 hd ht (fun _ => k p l e R s m args below meth cd0 cells slots Q cc D dA ad H0 hC hL hR hO hr H locs lv hl hP hS) (fun q => absurd g q)
theorem s_icmp_gt_F {v w : Int32} {off : Int} (i tgt : Nat) (hi : lst[i]? = some (pc, .if_icmp .gt off, 3, pc')) (ht : (pc : Int) + off = (tgt : Int)) (g : ¬ w < v) (k : Ev lst own nL d x pc' ls st h r h') : Ev lst own nL d x pc ls (.int w :: .int v :: st) h r h' := by
  intro p l e R s m args below meth cd0 cells slots Q cc D dA ad H0 hC hL hR hO hr H locs lv hl hP hS
  obtain ⟨hd, hp⟩ := hL _ (List.mem_of_getElem? hi)
  dsimp only at hd hp
  subst hp
  exact lv_icmp_gt hC.1 hC.2.1 hd ht (fun q => absurd q g) (fun _ => k p l e R s m args below meth cd0 cells slots Q cc D dA ad H0 hC hL hR hO hr H locs lv hl hP hS)
theorem s_if_gt_T {v : Int32} {off : Int} (i tgt : Nat) (hi : lst[i]? = some (pc, .ifCond .gt off, 3, pc')) (ht : (pc : Int) + off = (tgt : Int)) (g : 0 < v) (k : Ev lst own nL d x tgt ls st h r h') : Ev lst own nL d x pc ls (.int v :: st) h r h' := by
  intro p l e R s m args below meth cd0 cells slots Q cc D dA ad H0 hC hL hR hO hr H locs lv hl hP hS
  obtain ⟨hd, hp⟩ := hL _ (List.mem_of_getElem? hi)
  dsimp only at hd hp
  subst hp
  exact lv_if_gt hC.1 hC.2.1 hd ht (fun _ => k p l e R s m args below meth cd0 cells slots Q cc D dA ad H0 hC hL hR hO hr H locs lv hl hP hS) (fun q => absurd g q)
theorem s_if_gt_F {v : Int32} {off : Int} (i tgt : Nat) (hi : lst[i]? = some (pc, .ifCond .gt off, 3, pc')) (ht : (pc : Int) + off = (tgt : Int)) (g : ¬ 0 < v) (k : Ev lst own nL d x pc' ls st h r h') : Ev lst own nL d x pc ls (.int v :: st) h r h' := by
  intro p l e R s m args below meth cd0 cells slots Q cc D dA ad H0 hC hL hR hO hr H locs lv hl hP hS
  obtain ⟨hd, hp⟩ := hL _ (List.mem_of_getElem? hi)
  dsimp only at hd hp
  subst hp
  exact lv_if_gt hC.1 hC.2.1 hd ht (fun q => absurd q g) (fun _ => k p l e R s m args below meth cd0 cells slots Q cc D dA ad H0 hC hL hR hO hr H locs lv hl hP hS)
theorem s_icmp_le_T {v w : Int32} {off : Int} (i tgt : Nat) (hi : lst[i]? = some (pc, .if_icmp .le off, 3, pc')) (ht : (pc : Int) + off = (tgt : Int)) (g : v ≤ w) (k : Ev lst own nL d x tgt ls st h r h') : Ev lst own nL d x pc ls (.int w :: .int v :: st) h r h' := by
  intro p l e R s m args below meth cd0 cells slots Q cc D dA ad H0 hC hL hR hO hr H locs lv hl hP hS
  obtain ⟨hd, hp⟩ := hL _ (List.mem_of_getElem? hi)
  dsimp only at hd hp
  subst hp
  exact lv_icmp_le hC.1 hC.2.1 hd ht (fun _ => k p l e R s m args below meth cd0 cells slots Q cc D dA ad H0 hC hL hR hO hr H locs lv hl hP hS) (fun q => absurd g q)
theorem s_icmp_le_F {v w : Int32} {off : Int} (i tgt : Nat) (hi : lst[i]? = some (pc, .if_icmp .le off, 3, pc')) (ht : (pc : Int) + off = (tgt : Int)) (g : ¬ v ≤ w) (k : Ev lst own nL d x pc' ls st h r h') : Ev lst own nL d x pc ls (.int w :: .int v :: st) h r h' := by
  intro p l e R s m args below meth cd0 cells slots Q cc D dA ad H0 hC hL hR hO hr H locs lv hl hP hS
  obtain ⟨hd, hp⟩ := hL _ (List.mem_of_getElem? hi)
  dsimp only at hd hp
  subst hp
  exact lv_icmp_le hC.1 hC.2.1 hd ht (fun q => absurd q g) (fun _ => k p l e R s m args below meth cd0 cells slots Q cc D dA ad H0 hC hL hR hO hr H locs lv hl hP hS)
theorem s_if_le_T {v : Int32} {off : Int} (i tgt : Nat) (hi : lst[i]? = some (pc, .ifCond .le off, 3, pc')) (ht : (pc : Int) + off = (tgt : Int)) (g : v ≤ 0) (k : Ev lst own nL d x tgt ls st h r h') : Ev lst own nL d x pc ls (.int v :: st) h r h' := by
  intro p l e R s m args below meth cd0 cells slots Q cc D dA ad H0 hC hL hR hO hr H locs lv hl hP hS
  obtain ⟨hd, hp⟩ := hL _ (List.mem_of_getElem? hi)
  dsimp only at hd hp
  subst hp
  exact lv_if_le hC.1 hC.2.1 hd ht (fun _ => k p l e R s m args below meth cd0 cells slots Q cc D dA ad H0 hC hL hR hO hr H locs lv hl hP hS) (fun q => absurd g q)
theorem s_if_le_F {v : Int32} {off : Int} (i tgt : Nat) (hi : lst[i]? = some (pc, .ifCond .le off, 3, pc')) (ht : (pc : Int) + off = (tgt : Int)) (g : ¬ v ≤ 0) (k : Ev lst own nL d x pc' ls st h r h') : Ev lst own nL d x pc ls (.int v :: st) h r h' := by
  intro p l e R s m args below meth cd0 cells slots Q cc D dA ad H0 hC hL hR hO hr H locs lv hl hP hS
  obtain ⟨hd, hp⟩ := hL _ (List.mem_of_getElem? hi)
  dsimp only at hd hp
  subst hp
  exact lv_if_le hC.1 hC.2.1 hd ht (fun q => absurd q g) (fun _ => k p l e R s m args below meth cd0 cells slots Q cc D dA ad H0 hC hL hR hO hr H locs lv hl hP hS)
theorem s_goto {off : Int} (i tgt : Nat) (hi : lst[i]? = some (pc, .goto off, 3, pc')) (ht : (pc : Int) + off = (tgt : Int)) (k : Ev lst own nL d x tgt ls st h r h') : Ev lst own nL d x pc ls st h r h' := by
  intro p l e R s m args below meth cd0 cells slots Q cc D dA ad H0 hC hL hR hO hr H locs lv hl hP hS
  obtain ⟨hd, hp⟩ := hL _ (List.mem_of_getElem? hi)
  dsimp only at hd hp
  subst hp
  exact lv_goto hC.1 hC.2.1 hd ht (k p l e R s m args below meth cd0 cells slots Q cc D dA ad H0 hC hL hR hO hr H locs lv hl hP hS)
theorem b2i_T {b : Bool} (g : b = true) : ¬ b2i b = 0 := by subst g; decide
theorem b2i_F {b : Bool} (g : ¬ b = true) : b2i b = 0 := by cases b <;> first | rfl | exact absurd rfl g
theorem nzOk (b : Bool) : narrow .boolean (.int (b2i b)) = .int (b2i b) ∧ fits .boolean (.int (b2i b)) = true := by cases b <;> decide
theorem b2i_01 (b : Bool) : b2i b = 0 ∨ b2i b = 1 := by cases b <;> decide
theorem s_nmI {v w : Int32} (g : v = w) (k : Ev lst own nL d x pc ls (.int w :: st) h r h') : Ev lst own nL d x pc ls (.int v :: st) h r h' := g ▸ k
theorem s_nmL {v w : Int64} (g : v = w) (k : Ev lst own nL d x pc ls (.long w :: st) h r h') : Ev lst own nL d x pc ls (.long v :: st) h r h' := g ▸ k
theorem s_nmH {h0 : Sto} (g : h0 = h) (k : Ev lst own nL d x pc ls st h r h') : Ev lst own nL d x pc ls st h0 r h' := g ▸ k
theorem ck_of {cc : ByteArray} {lst : Lst} (g : lst.all (fun q => decide (decode cc q.1 = .ok (q.2.1, q.2.2.1)) && (q.2.2.2 == q.1 + q.2.2.1)) = true) : ∀ q ∈ lst, Dc cc q := by
  intro q hq
  have := List.all_eq_true.mp g q hq
  simp only [Bool.and_eq_true, decide_eq_true_eq, beq_iff_eq] at this
  exact this
theorem s_iret {v : Int32} (i : Nat) (hi : lst[i]? = some (pc, .ireturn, 1, pc')) : Ev lst own nL d x pc ls [.int v] h (some (.int v)) h := by
  intro p l e R s m args below meth cd0 cells slots Q cc D dA ad H0 hC hL hR hO hr H locs lv hl hP hS
  obtain ⟨hd, hp⟩ := hL _ (List.mem_of_getElem? hi)
  dsimp only at hd hp
  subst hp
  exact hr pc H locs lv hd hl.1 hP hS
theorem s_vret (i : Nat) (hi : lst[i]? = some (pc, .return_, 1, pc')) : Ev lst own nL d x pc ls [] h none h := by
  intro p l e R s m args below meth cd0 cells slots Q cc D dA ad H0 hC hL hR hO hr H locs lv hl hP hS
  obtain ⟨hd, hp⟩ := hL _ (List.mem_of_getElem? hi)
  dsimp only at hd hp
  subst hp
  exact hr pc H locs lv hd hl.1 hP hS
theorem s_fgt (m : List Bool) {ls' : List (Option Value)} (hm : fgt m ls = ls') (k : Ev lst own nL d x pc ls' st h r h') : Ev lst own nL d x pc ls st h r h' := by
  intro p l e R s m' args below meth cd0 cells slots Q cc D dA ad H0 hC hL hR hO hr H locs lv hl hP hS
  exact k p l e R s m' args below meth cd0 cells slots Q cc D dA ad H0 hC hL hR hO hr H locs lv (hm ▸ hl.fgt m) hP hS
/-- a class of the world: its words, its fields' types -/
def KL (ci : Nat) (C : String) (T : u_T) (N : Nat) (ty0 : Nat → FieldType) : Prop := vwCl[ci]? = some (C, T, N) ∧ (∀ w ∈ u_ws C T N, w ∈ gtb) ∧ (∀ k, k < N → parseFieldDescriptor (T k).2.2.1 = some (ty0 k)) ∧ (∀ a, a < N → ∀ b, b < N → a ≠ b → (T a).2.1 ≠ (T b).2.1)
/-- a field's link -/
def FL (own : String) (idx ci k : Nat) (ty : FieldType) (fin nest : Bool) : Prop := ∃ (C : String) (T : u_T) (N : Nat) (ty0 : Nat → FieldType), KL ci C T N ty0 ∧ k < N ∧ ty0 k = ty ∧ (T k).2.2.2 = fin ∧ (nest = false → Cond.fieldLink own idx (T k).1 (T k).2.1 (T k).2.2.1 ∈ gtb) ∧ (nest = true → ∃ host, Cond.fieldLinkNest own idx (T k).1 (T k).2.1 (T k).2.2.1 host ∈ nst)
theorem flds_at {ad : Nat → Nat} {f : Nat → Int32} {fs : List (Option Nat)} {k : Nat} {y : Option Nat} (h : fs[k]? = some y) : (fs.mapIdx (fun a x => fvl ad f a x))[k]? = some (fvl ad f k y) := by
  rw [List.getElem?_mapIdx, h]; rfl
theorem flds_set {ad : Nat → Nat} {f : Nat → Int32} {fs : List (Option Nat)} {k : Nat} {y : Option Nat} {v : Int32} (h : fs[k]? = some y) : (fs.mapIdx (fun a x => fvl ad f a x)).set k (fvl ad (upd f k v) k y) = fs.mapIdx (fun a x => fvl ad (upd f k v) a x) := by
  apply List.ext_getElem?
  intro j
  rw [List.getElem?_set]
  by_cases e : k = j
  · subst e
    have hl : k < fs.length := (List.getElem?_eq_some_iff.mp h).1
    rw [if_pos rfl, List.getElem?_mapIdx, h]
    simp [hl]
  · rw [if_neg e, List.getElem?_mapIdx, List.getElem?_mapIdx]
    cases hj : fs[j]? with
    | none => rfl
    | some z =>
      have e' : ¬ j = k := fun q => e q.symm
      cases z with
      | none => simp [fvl, upd, e']
      | some n => cases n <;> simp [fvl, upd, e']
theorem cellE_obj {dA : Nat → ClassId} {ad : Nat → Nat} {f : Nat → Int32} {c ci z : Nat} {fs : List (Option Nat)} (hs : shp c = (ci + 10, z, fs)) : cellE dA ad f (shp c) = .inr (ci, fs.mapIdx (fun a x => fvl ad f a x)) := by
  rw [hs]
  show Sum.inr (ci + 6 - 6, _) = _
  rw [Nat.add_sub_cancel]
theorem s_geti {idx ci k c z : Nat} {fs : List (Option Nat)} {ty : FieldType} {fin : Bool} (i : Nat) (hi : lst[i]? = some (pc, .getfield idx, 3, pc')) (hf : FL own idx ci k ty fin false) (hs : shp c = (ci + 10, z, fs)) (hx : fs[k]? = some (none)) (kk : Ev lst own nL d x pc' ls (.int (h c k) :: st) h r h') : Ev lst own nL d x pc ls (.ref c :: st) h r h' := by
  intro p l e R s m args below meth cd0 cells slots Q cc D dA ad H0 hC hL hR hO hr H locs lv hl hP hS
  obtain ⟨hd, hp⟩ := hL _ (List.mem_of_getElem? hi)
  dsimp only at hd hp
  subst hp
  obtain ⟨C, T, N, ty0, ⟨k1, k2, k3, k4⟩, f1, f2, f3, hG, hN⟩ := hf
  have hlk := hG rfl
  have hc : c < 96 := shp_lt hs (by show ci + 10 ≠ 9; omega)
  have ha : (wsl dA ad h)[c]? = some (ad c, .inr (ci, fs.mapIdx (fun a x => fvl ad (h c) a x))) := by rw [wsl_at hc, cellE_obj hs]
  refine va_get hC.1 hC.2.1 hC.2.2.2.2.1 k2 hC.2.2.2.1 hC.2.2.2.2.2.1 hP c ha k1 k f1 (hC.2.2.2.2.1 _ hlk) (fun _ q => q) (flds_at hx) hd ?_
  show W p l e R s m args below meth cd0 H locs cells slots Q (F0 m (pc + 3) lv (List.map (cv ad) (.int (h c k) :: st)))
  exact kk p l e R s m args below meth cd0 cells slots Q cc D dA ad H0 hC hL hR hO hr H locs lv hl hP hS
theorem s_getiN {idx ci k c z : Nat} {fs : List (Option Nat)} {ty : FieldType} {fin : Bool} (i : Nat) (hi : lst[i]? = some (pc, .getfield idx, 3, pc')) (hf : FL own idx ci k ty fin true) (hs : shp c = (ci + 10, z, fs)) (hx : fs[k]? = some (none)) (kk : Ev lst own nL d x pc' ls (.int (h c k) :: st) h r h') : Ev lst own nL d x pc ls (.ref c :: st) h r h' := by
  intro p l e R s m args below meth cd0 cells slots Q cc D dA ad H0 hC hL hR hO hr H locs lv hl hP hS
  obtain ⟨hd, hp⟩ := hL _ (List.mem_of_getElem? hi)
  dsimp only at hd hp
  subst hp
  obtain ⟨C, T, N, ty0, ⟨k1, k2, k3, k4⟩, f1, f2, f3, hG, hN⟩ := hf
  obtain ⟨host, hlk⟩ := hN rfl
  have hc : c < 96 := shp_lt hs (by show ci + 10 ≠ 9; omega)
  have ha : (wsl dA ad h)[c]? = some (ad c, .inr (ci, fs.mapIdx (fun a x => fvl ad (h c) a x))) := by rw [wsl_at hc, cellE_obj hs]
  refine va_getN hC.1 hC.2.1 hC.2.2.2.2.1 k2 hC.2.2.2.1 hC.2.2.2.2.2.1 hP c ha k1 k f1 (va_Nw.use rfl (hC.2.2.2.2.2.2.2.1 _ hlk)) (fun _ q => q) (flds_at hx) hd ?_
  show W p l e R s m args below meth cd0 H locs cells slots Q (F0 m (pc + 3) lv (List.map (cv ad) (.int (h c k) :: st)))
  exact kk p l e R s m args below meth cd0 cells slots Q cc D dA ad H0 hC hL hR hO hr H locs lv hl hP hS
theorem s_getr {idx ci k c z : Nat} {fs : List (Option Nat)} {ty : FieldType} {fin : Bool} {j : Nat} (i : Nat) (hi : lst[i]? = some (pc, .getfield idx, 3, pc')) (hf : FL own idx ci k ty fin false) (hs : shp c = (ci + 10, z, fs)) (hx : fs[k]? = some (some (j + 1))) (kk : Ev lst own nL d x pc' ls (.ref j :: st) h r h') : Ev lst own nL d x pc ls (.ref c :: st) h r h' := by
  intro p l e R s m args below meth cd0 cells slots Q cc D dA ad H0 hC hL hR hO hr H locs lv hl hP hS
  obtain ⟨hd, hp⟩ := hL _ (List.mem_of_getElem? hi)
  dsimp only at hd hp
  subst hp
  obtain ⟨C, T, N, ty0, ⟨k1, k2, k3, k4⟩, f1, f2, f3, hG, hN⟩ := hf
  have hlk := hG rfl
  have hc : c < 96 := shp_lt hs (by show ci + 10 ≠ 9; omega)
  have ha : (wsl dA ad h)[c]? = some (ad c, .inr (ci, fs.mapIdx (fun a x => fvl ad (h c) a x))) := by rw [wsl_at hc, cellE_obj hs]
  refine va_get hC.1 hC.2.1 hC.2.2.2.2.1 k2 hC.2.2.2.1 hC.2.2.2.2.2.1 hP c ha k1 k f1 (hC.2.2.2.2.1 _ hlk) (fun _ q => q) (flds_at hx) hd ?_
  show W p l e R s m args below meth cd0 H locs cells slots Q (F0 m (pc + 3) lv (List.map (cv ad) (.ref j :: st)))
  exact kk p l e R s m args below meth cd0 cells slots Q cc D dA ad H0 hC hL hR hO hr H locs lv hl hP hS
theorem s_getrN {idx ci k c z : Nat} {fs : List (Option Nat)} {ty : FieldType} {fin : Bool} {j : Nat} (i : Nat) (hi : lst[i]? = some (pc, .getfield idx, 3, pc')) (hf : FL own idx ci k ty fin true) (hs : shp c = (ci + 10, z, fs)) (hx : fs[k]? = some (some (j + 1))) (kk : Ev lst own nL d x pc' ls (.ref j :: st) h r h') : Ev lst own nL d x pc ls (.ref c :: st) h r h' := by
  intro p l e R s m args below meth cd0 cells slots Q cc D dA ad H0 hC hL hR hO hr H locs lv hl hP hS
  obtain ⟨hd, hp⟩ := hL _ (List.mem_of_getElem? hi)
  dsimp only at hd hp
  subst hp
  obtain ⟨C, T, N, ty0, ⟨k1, k2, k3, k4⟩, f1, f2, f3, hG, hN⟩ := hf
  obtain ⟨host, hlk⟩ := hN rfl
  have hc : c < 96 := shp_lt hs (by show ci + 10 ≠ 9; omega)
  have ha : (wsl dA ad h)[c]? = some (ad c, .inr (ci, fs.mapIdx (fun a x => fvl ad (h c) a x))) := by rw [wsl_at hc, cellE_obj hs]
  refine va_getN hC.1 hC.2.1 hC.2.2.2.2.1 k2 hC.2.2.2.1 hC.2.2.2.2.2.1 hP c ha k1 k f1 (va_Nw.use rfl (hC.2.2.2.2.2.2.2.1 _ hlk)) (fun _ q => q) (flds_at hx) hd ?_
  show W p l e R s m args below meth cd0 H locs cells slots Q (F0 m (pc + 3) lv (List.map (cv ad) (.ref j :: st)))
  exact kk p l e R s m args below meth cd0 cells slots Q cc D dA ad H0 hC hL hR hO hr H locs lv hl hP hS
theorem s_getv {idx ci k c z : Nat} {fs : List (Option Nat)} {ty : FieldType} {fin : Bool} (i : Nat) (hi : lst[i]? = some (pc, .getfield idx, 3, pc')) (hf : FL own idx ci k ty fin false) (hs : shp c = (ci + 10, z, fs)) (hx : fs[k]? = some (some 0)) (hne : ¬ h c k = 0) (kk : Ev lst own nL d x pc' ls (.ref (h c k).toNatClampNeg :: st) h r h') : Ev lst own nL d x pc ls (.ref c :: st) h r h' := by
  intro p l e R s m args below meth cd0 cells slots Q cc D dA ad H0 hC hL hR hO hr H locs lv hl hP hS
  obtain ⟨hd, hp⟩ := hL _ (List.mem_of_getElem? hi)
  dsimp only at hd hp
  subst hp
  obtain ⟨C, T, N, ty0, ⟨k1, k2, k3, k4⟩, f1, f2, f3, hG, hN⟩ := hf
  have hlk := hG rfl
  have hc : c < 96 := shp_lt hs (by show ci + 10 ≠ 9; omega)
  have ha : (wsl dA ad h)[c]? = some (ad c, .inr (ci, fs.mapIdx (fun a x => fvl ad (h c) a x))) := by rw [wsl_at hc, cellE_obj hs]
  refine va_get hC.1 hC.2.1 hC.2.2.2.2.1 k2 hC.2.2.2.1 hC.2.2.2.2.2.1 hP c ha k1 k f1 (hC.2.2.2.2.1 _ hlk) (fun _ q => q) (flds_at hx) hd ?_
  rw [show fvl ad (h c) k (some 0) = cv ad (.ref (h c k).toNatClampNeg) by simp [fvl, hne, cv]]
  exact kk p l e R s m args below meth cd0 cells slots Q cc D dA ad H0 hC hL hR hO hr H locs lv hl hP hS
theorem s_getvN {idx ci k c z : Nat} {fs : List (Option Nat)} {ty : FieldType} {fin : Bool} (i : Nat) (hi : lst[i]? = some (pc, .getfield idx, 3, pc')) (hf : FL own idx ci k ty fin true) (hs : shp c = (ci + 10, z, fs)) (hx : fs[k]? = some (some 0)) (hne : ¬ h c k = 0) (kk : Ev lst own nL d x pc' ls (.ref (h c k).toNatClampNeg :: st) h r h') : Ev lst own nL d x pc ls (.ref c :: st) h r h' := by
  intro p l e R s m args below meth cd0 cells slots Q cc D dA ad H0 hC hL hR hO hr H locs lv hl hP hS
  obtain ⟨hd, hp⟩ := hL _ (List.mem_of_getElem? hi)
  dsimp only at hd hp
  subst hp
  obtain ⟨C, T, N, ty0, ⟨k1, k2, k3, k4⟩, f1, f2, f3, hG, hN⟩ := hf
  obtain ⟨host, hlk⟩ := hN rfl
  have hc : c < 96 := shp_lt hs (by show ci + 10 ≠ 9; omega)
  have ha : (wsl dA ad h)[c]? = some (ad c, .inr (ci, fs.mapIdx (fun a x => fvl ad (h c) a x))) := by rw [wsl_at hc, cellE_obj hs]
  refine va_getN hC.1 hC.2.1 hC.2.2.2.2.1 k2 hC.2.2.2.1 hC.2.2.2.2.2.1 hP c ha k1 k f1 (va_Nw.use rfl (hC.2.2.2.2.2.2.2.1 _ hlk)) (fun _ q => q) (flds_at hx) hd ?_
  rw [show fvl ad (h c) k (some 0) = cv ad (.ref (h c k).toNatClampNeg) by simp [fvl, hne, cv]]
  exact kk p l e R s m args below meth cd0 cells slots Q cc D dA ad H0 hC hL hR hO hr H locs lv hl hP hS
theorem s_puti {idx ci k c z : Nat} {fs : List (Option Nat)} {v : Int32} (i : Nat) (hi : lst[i]? = some (pc, .putfield idx, 3, pc')) (hf : FL own idx ci k .int false false) (hs : shp c = (ci + 10, z, fs)) (hx : fs[k]? = some (none)) (kk : Ev lst own nL d x pc' ls st (su h c k v) r h') : Ev lst own nL d x pc ls (.int v :: .ref c :: st) h r h' := by
  intro p l e R s m args below meth cd0 cells slots Q cc D dA ad H0 hC hL hR hO hr H locs lv hl hP hS
  obtain ⟨hd, hp⟩ := hL _ (List.mem_of_getElem? hi)
  dsimp only at hd hp
  subst hp
  obtain ⟨C, T, N, ty0, ⟨k1, k2, k3, k4⟩, f1, f2, f3, hG, hN⟩ := hf
  have hlk := hG rfl
  have hc : c < 96 := shp_lt hs (by show ci + 10 ≠ 9; omega)
  have ha : (wsl dA ad h)[c]? = some (ad c, .inr (ci, fs.mapIdx (fun a x => fvl ad (h c) a x))) := by rw [wsl_at hc, cellE_obj hs]
  have hlen : k < (fs.mapIdx (fun a x => fvl ad (h c) a x)).length := by simp; exact (List.getElem?_eq_some_iff.mp hx).1
  refine va_put (ty := .int) hC.1 hC.2.1 hC.2.2.2.2.1 k2 ty0 k3 k4 hC.2.2.2.1 hC.2.2.2.2.2.1 hP (wsl_D hC.2.2.2.2.2.2.1) hS c ha k1 k f1 (hC.2.2.2.2.1 _ hlk) (fun _ q => q) f3 (by rw [← f2]; exact k3 k f1) rfl rfl hlen hd (fun H1 locs1 hP1 hD1 hS1 => ?_)
  have hP2 : va_P D vwCl (wsl dA ad (su h c k v)) H1 := by
    unfold su
    rw [← wsl_set, cellE_obj hs, ← flds_set hx]
    rw [show fvl ad (upd (h c) k v) k none = Value.int v by simp [fvl, upd]]
    exact hP1
  exact kk p l e R s m args below meth cd0 cells slots Q cc D dA ad H0 hC hL hR hO hr H1 locs1 lv hl hP2 hS1
theorem s_putiN {idx ci k c z : Nat} {fs : List (Option Nat)} {v : Int32} (i : Nat) (hi : lst[i]? = some (pc, .putfield idx, 3, pc')) (hf : FL own idx ci k .int false true) (hs : shp c = (ci + 10, z, fs)) (hx : fs[k]? = some (none)) (kk : Ev lst own nL d x pc' ls st (su h c k v) r h') : Ev lst own nL d x pc ls (.int v :: .ref c :: st) h r h' := by
  intro p l e R s m args below meth cd0 cells slots Q cc D dA ad H0 hC hL hR hO hr H locs lv hl hP hS
  obtain ⟨hd, hp⟩ := hL _ (List.mem_of_getElem? hi)
  dsimp only at hd hp
  subst hp
  obtain ⟨C, T, N, ty0, ⟨k1, k2, k3, k4⟩, f1, f2, f3, hG, hN⟩ := hf
  obtain ⟨host, hlk⟩ := hN rfl
  have hc : c < 96 := shp_lt hs (by show ci + 10 ≠ 9; omega)
  have ha : (wsl dA ad h)[c]? = some (ad c, .inr (ci, fs.mapIdx (fun a x => fvl ad (h c) a x))) := by rw [wsl_at hc, cellE_obj hs]
  have hlen : k < (fs.mapIdx (fun a x => fvl ad (h c) a x)).length := by simp; exact (List.getElem?_eq_some_iff.mp hx).1
  refine va_putN (ty := .int) hC.1 hC.2.1 hC.2.2.2.2.1 k2 ty0 k3 k4 hC.2.2.2.1 hC.2.2.2.2.2.1 hP (wsl_D hC.2.2.2.2.2.2.1) hS c ha k1 k f1 (va_Nw.use rfl (hC.2.2.2.2.2.2.2.1 _ hlk)) (fun _ q => q) f3 (by rw [← f2]; exact k3 k f1) rfl rfl hlen hd (fun H1 locs1 hP1 hD1 hS1 => ?_)
  have hP2 : va_P D vwCl (wsl dA ad (su h c k v)) H1 := by
    unfold su
    rw [← wsl_set, cellE_obj hs, ← flds_set hx]
    rw [show fvl ad (upd (h c) k v) k none = Value.int v by simp [fvl, upd]]
    exact hP1
  exact kk p l e R s m args below meth cd0 cells slots Q cc D dA ad H0 hC hL hR hO hr H1 locs1 lv hl hP2 hS1
theorem s_putz {idx ci k c z : Nat} {fs : List (Option Nat)} {v : Int32} (i : Nat) (hi : lst[i]? = some (pc, .putfield idx, 3, pc')) (hf : FL own idx ci k .boolean false false) (hs : shp c = (ci + 10, z, fs)) (hx : fs[k]? = some (none)) (hz : narrow .boolean (.int v) = .int v ∧ fits .boolean (.int v) = true) (kk : Ev lst own nL d x pc' ls st (su h c k v) r h') : Ev lst own nL d x pc ls (.int v :: .ref c :: st) h r h' := by
  intro p l e R s m args below meth cd0 cells slots Q cc D dA ad H0 hC hL hR hO hr H locs lv hl hP hS
  obtain ⟨hd, hp⟩ := hL _ (List.mem_of_getElem? hi)
  dsimp only at hd hp
  subst hp
  obtain ⟨C, T, N, ty0, ⟨k1, k2, k3, k4⟩, f1, f2, f3, hG, hN⟩ := hf
  have hlk := hG rfl
  have hc : c < 96 := shp_lt hs (by show ci + 10 ≠ 9; omega)
  have ha : (wsl dA ad h)[c]? = some (ad c, .inr (ci, fs.mapIdx (fun a x => fvl ad (h c) a x))) := by rw [wsl_at hc, cellE_obj hs]
  have hlen : k < (fs.mapIdx (fun a x => fvl ad (h c) a x)).length := by simp; exact (List.getElem?_eq_some_iff.mp hx).1
  refine va_put (ty := .boolean) hC.1 hC.2.1 hC.2.2.2.2.1 k2 ty0 k3 k4 hC.2.2.2.1 hC.2.2.2.2.2.1 hP (wsl_D hC.2.2.2.2.2.2.1) hS c ha k1 k f1 (hC.2.2.2.2.1 _ hlk) (fun _ q => q) f3 (by rw [← f2]; exact k3 k f1) hz.1 hz.2 hlen hd (fun H1 locs1 hP1 hD1 hS1 => ?_)
  have hP2 : va_P D vwCl (wsl dA ad (su h c k v)) H1 := by
    unfold su
    rw [← wsl_set, cellE_obj hs, ← flds_set hx]
    rw [show fvl ad (upd (h c) k v) k none = Value.int v by simp [fvl, upd]]
    exact hP1
  exact kk p l e R s m args below meth cd0 cells slots Q cc D dA ad H0 hC hL hR hO hr H1 locs1 lv hl hP2 hS1
theorem s_putzN {idx ci k c z : Nat} {fs : List (Option Nat)} {v : Int32} (i : Nat) (hi : lst[i]? = some (pc, .putfield idx, 3, pc')) (hf : FL own idx ci k .boolean false true) (hs : shp c = (ci + 10, z, fs)) (hx : fs[k]? = some (none)) (hz : narrow .boolean (.int v) = .int v ∧ fits .boolean (.int v) = true) (kk : Ev lst own nL d x pc' ls st (su h c k v) r h') : Ev lst own nL d x pc ls (.int v :: .ref c :: st) h r h' := by
  intro p l e R s m args below meth cd0 cells slots Q cc D dA ad H0 hC hL hR hO hr H locs lv hl hP hS
  obtain ⟨hd, hp⟩ := hL _ (List.mem_of_getElem? hi)
  dsimp only at hd hp
  subst hp
  obtain ⟨C, T, N, ty0, ⟨k1, k2, k3, k4⟩, f1, f2, f3, hG, hN⟩ := hf
  obtain ⟨host, hlk⟩ := hN rfl
  have hc : c < 96 := shp_lt hs (by show ci + 10 ≠ 9; omega)
  have ha : (wsl dA ad h)[c]? = some (ad c, .inr (ci, fs.mapIdx (fun a x => fvl ad (h c) a x))) := by rw [wsl_at hc, cellE_obj hs]
  have hlen : k < (fs.mapIdx (fun a x => fvl ad (h c) a x)).length := by simp; exact (List.getElem?_eq_some_iff.mp hx).1
  refine va_putN (ty := .boolean) hC.1 hC.2.1 hC.2.2.2.2.1 k2 ty0 k3 k4 hC.2.2.2.1 hC.2.2.2.2.2.1 hP (wsl_D hC.2.2.2.2.2.2.1) hS c ha k1 k f1 (va_Nw.use rfl (hC.2.2.2.2.2.2.2.1 _ hlk)) (fun _ q => q) f3 (by rw [← f2]; exact k3 k f1) hz.1 hz.2 hlen hd (fun H1 locs1 hP1 hD1 hS1 => ?_)
  have hP2 : va_P D vwCl (wsl dA ad (su h c k v)) H1 := by
    unfold su
    rw [← wsl_set, cellE_obj hs, ← flds_set hx]
    rw [show fvl ad (upd (h c) k v) k none = Value.int v by simp [fvl, upd]]
    exact hP1
  exact kk p l e R s m args below meth cd0 cells slots Q cc D dA ad H0 hC hL hR hO hr H1 locs1 lv hl hP2 hS1
theorem s_putv {idx ci k c z : Nat} {fs : List (Option Nat)} {j : Nat} (i : Nat) (hi : lst[i]? = some (pc, .putfield idx, 3, pc')) (hf : FL own idx ci k (.array .int) false false) (hs : shp c = (ci + 10, z, fs)) (hx : fs[k]? = some (some 0)) (hj : 0 < j ∧ j < 1000) (kk : Ev lst own nL d x pc' ls st (su h c k (nI j)) r h') : Ev lst own nL d x pc ls (.ref j :: .ref c :: st) h r h' := by
  intro p l e R s m args below meth cd0 cells slots Q cc D dA ad H0 hC hL hR hO hr H locs lv hl hP hS
  obtain ⟨hd, hp⟩ := hL _ (List.mem_of_getElem? hi)
  dsimp only at hd hp
  subst hp
  obtain ⟨C, T, N, ty0, ⟨k1, k2, k3, k4⟩, f1, f2, f3, hG, hN⟩ := hf
  have hlk := hG rfl
  have hc : c < 96 := shp_lt hs (by show ci + 10 ≠ 9; omega)
  have ha : (wsl dA ad h)[c]? = some (ad c, .inr (ci, fs.mapIdx (fun a x => fvl ad (h c) a x))) := by rw [wsl_at hc, cellE_obj hs]
  have hlen : k < (fs.mapIdx (fun a x => fvl ad (h c) a x)).length := by simp; exact (List.getElem?_eq_some_iff.mp hx).1
  refine va_put (ty := (.array .int)) hC.1 hC.2.1 hC.2.2.2.2.1 k2 ty0 k3 k4 hC.2.2.2.1 hC.2.2.2.2.2.1 hP (wsl_D hC.2.2.2.2.2.2.1) hS c ha k1 k f1 (hC.2.2.2.2.1 _ hlk) (fun _ q => q) f3 (by rw [← f2]; exact k3 k f1) rfl rfl hlen hd (fun H1 locs1 hP1 hD1 hS1 => ?_)
  have hP2 : va_P D vwCl (wsl dA ad (su h c k (nI j))) H1 := by
    unfold su
    rw [← wsl_set, cellE_obj hs, ← flds_set hx]
    rw [show fvl ad (upd (h c) k (nI j)) k (some 0) = Value.ref (ad j) by simp [fvl, upd, nI_ne0 hj.1 (Nat.lt_trans hj.2 (by decide)), nI_clamp (Nat.lt_trans hj.2 (by decide))]]
    exact hP1
  exact kk p l e R s m args below meth cd0 cells slots Q cc D dA ad H0 hC hL hR hO hr H1 locs1 lv hl hP2 hS1
theorem s_putvN {idx ci k c z : Nat} {fs : List (Option Nat)} {j : Nat} (i : Nat) (hi : lst[i]? = some (pc, .putfield idx, 3, pc')) (hf : FL own idx ci k (.array .int) false true) (hs : shp c = (ci + 10, z, fs)) (hx : fs[k]? = some (some 0)) (hj : 0 < j ∧ j < 1000) (kk : Ev lst own nL d x pc' ls st (su h c k (nI j)) r h') : Ev lst own nL d x pc ls (.ref j :: .ref c :: st) h r h' := by
  intro p l e R s m args below meth cd0 cells slots Q cc D dA ad H0 hC hL hR hO hr H locs lv hl hP hS
  obtain ⟨hd, hp⟩ := hL _ (List.mem_of_getElem? hi)
  dsimp only at hd hp
  subst hp
  obtain ⟨C, T, N, ty0, ⟨k1, k2, k3, k4⟩, f1, f2, f3, hG, hN⟩ := hf
  obtain ⟨host, hlk⟩ := hN rfl
  have hc : c < 96 := shp_lt hs (by show ci + 10 ≠ 9; omega)
  have ha : (wsl dA ad h)[c]? = some (ad c, .inr (ci, fs.mapIdx (fun a x => fvl ad (h c) a x))) := by rw [wsl_at hc, cellE_obj hs]
  have hlen : k < (fs.mapIdx (fun a x => fvl ad (h c) a x)).length := by simp; exact (List.getElem?_eq_some_iff.mp hx).1
  refine va_putN (ty := (.array .int)) hC.1 hC.2.1 hC.2.2.2.2.1 k2 ty0 k3 k4 hC.2.2.2.1 hC.2.2.2.2.2.1 hP (wsl_D hC.2.2.2.2.2.2.1) hS c ha k1 k f1 (va_Nw.use rfl (hC.2.2.2.2.2.2.2.1 _ hlk)) (fun _ q => q) f3 (by rw [← f2]; exact k3 k f1) rfl rfl hlen hd (fun H1 locs1 hP1 hD1 hS1 => ?_)
  have hP2 : va_P D vwCl (wsl dA ad (su h c k (nI j))) H1 := by
    unfold su
    rw [← wsl_set, cellE_obj hs, ← flds_set hx]
    rw [show fvl ad (upd (h c) k (nI j)) k (some 0) = Value.ref (ad j) by simp [fvl, upd, nI_ne0 hj.1 (Nat.lt_trans hj.2 (by decide)), nI_clamp (Nat.lt_trans hj.2 (by decide))]]
    exact hP1
  exact kk p l e R s m args below meth cd0 cells slots Q cc D dA ad H0 hC hL hR hO hr H1 locs1 lv hl hP2 hS1
theorem s_iald {c n : Nat} {fs : List (Option Nat)} {v : Int32} (j i : Nat) (hi : lst[i]? = some (pc, .iaload, 1, pc')) (hs : shp c = (0, n, fs)) (hin : inb v n) (hj : v.toNatClampNeg = j) (k : Ev lst own nL d x pc' ls (.int (h c j) :: st) h r h') : Ev lst own nL d x pc ls (.int v :: .ref c :: st) h r h' := by
  intro p l e R s m args below meth cd0 cells slots Q cc D dA ad H0 hC hL hR hO hr H locs lv hl hP hS
  obtain ⟨hd, hp⟩ := hL _ (List.mem_of_getElem? hi)
  dsimp only at hd hp
  subst hp
  subst hj
  have hc : c < 96 := shp_lt hs (by show (0 : Nat) ≠ 9; decide)
  have ha : (wsl dA ad h)[c]? = some (ad c, .inl (dA 0, n, .inl (h c))) := by rw [wsl_at hc, hs]; rfl
  exact va_iald hC.1 hC.2.1 hC.2.2.2.2.2.1 hP c 0 ha rfl hin hd (k p l e R s m args below meth cd0 cells slots Q cc D dA ad H0 hC hL hR hO hr H locs lv hl hP hS)
theorem s_iast {c n : Nat} {fs : List (Option Nat)} {v w : Int32} (j i : Nat) (hi : lst[i]? = some (pc, .iastore, 1, pc')) (hs : shp c = (0, n, fs)) (hin : inb w n) (hj : w.toNatClampNeg = j) (k : Ev lst own nL d x pc' ls st (su h c j v) r h') : Ev lst own nL d x pc ls (.int v :: .int w :: .ref c :: st) h r h' := by
  intro p l e R s m args below meth cd0 cells slots Q cc D dA ad H0 hC hL hR hO hr H locs lv hl hP hS
  obtain ⟨hd, hp⟩ := hL _ (List.mem_of_getElem? hi)
  dsimp only at hd hp
  subst hp
  subst hj
  have hc : c < 96 := shp_lt hs (by show (0 : Nat) ≠ 9; decide)
  have ha : (wsl dA ad h)[c]? = some (ad c, .inl (dA 0, n, .inl (h c))) := by rw [wsl_at hc, hs]; rfl
  refine va_iast hC.1 hC.2.1 hC.2.2.2.2.2.1 hP (wsl_D hC.2.2.2.2.2.2.1) hS c 0 ha rfl hin hd (fun H1 locs1 hP1 hD1 hS1 => ?_)
  have hP2 : va_P D vwCl (wsl dA ad (su h c w.toNatClampNeg v)) H1 := by
    unfold su
    rw [← wsl_set, hs]
    exact hP1
  exact k p l e R s m args below meth cd0 cells slots Q cc D dA ad H0 hC hL hR hO hr H1 locs1 lv hl hP2 hS1
theorem s_zald {c n : Nat} {fs : List (Option Nat)} {v : Int32} (j i : Nat) (hi : lst[i]? = some (pc, .baload, 1, pc')) (hs : shp c = (1, n, fs)) (hin : inb v n) (hj : v.toNatClampNeg = j) (k : Ev lst own nL d x pc' ls (.int (h c j) :: st) h r h') : Ev lst own nL d x pc ls (.int v :: .ref c :: st) h r h' := by
  intro p l e R s m args below meth cd0 cells slots Q cc D dA ad H0 hC hL hR hO hr H locs lv hl hP hS
  obtain ⟨hd, hp⟩ := hL _ (List.mem_of_getElem? hi)
  dsimp only at hd hp
  subst hp
  subst hj
  have hc : c < 96 := shp_lt hs (by show (1 : Nat) ≠ 9; decide)
  have ha : (wsl dA ad h)[c]? = some (ad c, .inl (dA 1, n, .inl (h c))) := by rw [wsl_at hc, hs]; rfl
  exact va_zald hC.1 hC.2.1 hC.2.2.2.2.2.1 hP c 1 ha rfl hin hd (k p l e R s m args below meth cd0 cells slots Q cc D dA ad H0 hC hL hR hO hr H locs lv hl hP hS)
theorem s_zast {c n : Nat} {fs : List (Option Nat)} {v w : Int32} (j i : Nat) (hi : lst[i]? = some (pc, .bastore, 1, pc')) (hs : shp c = (1, n, fs)) (hin : inb w n) (hj : w.toNatClampNeg = j) (k : Ev lst own nL d x pc' ls st (su h c j (nzb v)) r h') : Ev lst own nL d x pc ls (.int v :: .int w :: .ref c :: st) h r h' := by
  intro p l e R s m args below meth cd0 cells slots Q cc D dA ad H0 hC hL hR hO hr H locs lv hl hP hS
  obtain ⟨hd, hp⟩ := hL _ (List.mem_of_getElem? hi)
  dsimp only at hd hp
  subst hp
  subst hj
  have hc : c < 96 := shp_lt hs (by show (1 : Nat) ≠ 9; decide)
  have ha : (wsl dA ad h)[c]? = some (ad c, .inl (dA 1, n, .inl (h c))) := by rw [wsl_at hc, hs]; rfl
  refine va_zast hC.1 hC.2.1 hC.2.2.2.2.2.1 hP (wsl_D hC.2.2.2.2.2.2.1) hS c 1 ha rfl hin hd (fun H1 locs1 hP1 hD1 hS1 => ?_)
  have hP2 : va_P D vwCl (wsl dA ad (su h c w.toNatClampNeg (nzb v))) H1 := by
    unfold su
    rw [← wsl_set, hs]
    exact hP1
  exact k p l e R s m args below meth cd0 cells slots Q cc D dA ad H0 hC hL hR hO hr H1 locs1 lv hl hP2 hS1
theorem s_aald2 {c n : Nat} {fs : List (Option Nat)} {v : Int32} (j : Nat) (i : Nat) (hi : lst[i]? = some (pc, .aaload, 1, pc')) (hs : shp c = (2, n, fs)) (hj : bas fs + v.toNatClampNeg = j) (hin : inb v n) (k : Ev lst own nL d x pc' ls (.ref j :: st) h r h') : Ev lst own nL d x pc ls (.int v :: .ref c :: st) h r h' := by
  intro p l e R s m args below meth cd0 cells slots Q cc D dA ad H0 hC hL hR hO hr H locs lv hl hP hS
  obtain ⟨hd, hp⟩ := hL _ (List.mem_of_getElem? hi)
  dsimp only at hd hp
  subst hp
  have hc : c < 96 := shp_lt hs (by show (2 : Nat) ≠ 9; decide)
  have ha : (wsl dA ad h)[c]? = some (ad c, .inl (dA 2, n, .inr (.inr (.inr (.inr (fun q => some (ad (bas fs + q)))))))) := by rw [wsl_at hc, hs]; rfl
  have hlt := inb_lt hin
  refine W.aald (v := .ref (ad j)) hC.1 hC.2.1 (hP c _ ha) ((hC.2.2.2.2.2.1.2 2 _ rfl).1 n (fun q => va_rf (some (ad (bas fs + q))))) rfl (fun q => by cases q) (by show ¬ (v < 0 ∨ (arrV _ _ _).slots.size ≤ _); rw [arrV_size]; exact hin) (by show (arrV _ _ _).slots[_]? = _; rw [arrV_read _ _ hlt, ← hj]; rfl) rfl rfl hd ?_
  exact k p l e R s m args below meth cd0 cells slots Q cc D dA ad H0 hC hL hR hO hr H locs lv hl hP hS
theorem s_aald3 {c n : Nat} {fs : List (Option Nat)} {v : Int32} (j : Nat) (i : Nat) (hi : lst[i]? = some (pc, .aaload, 1, pc')) (hs : shp c = (3, n, fs)) (hj : bas fs + v.toNatClampNeg = j) (hin : inb v n) (k : Ev lst own nL d x pc' ls (.ref j :: st) h r h') : Ev lst own nL d x pc ls (.int v :: .ref c :: st) h r h' := by
  intro p l e R s m args below meth cd0 cells slots Q cc D dA ad H0 hC hL hR hO hr H locs lv hl hP hS
  obtain ⟨hd, hp⟩ := hL _ (List.mem_of_getElem? hi)
  dsimp only at hd hp
  subst hp
  have hc : c < 96 := shp_lt hs (by show (3 : Nat) ≠ 9; decide)
  have ha : (wsl dA ad h)[c]? = some (ad c, .inl (dA 3, n, .inr (.inr (.inr (.inr (fun q => some (ad (bas fs + q)))))))) := by rw [wsl_at hc, hs]; rfl
  have hlt := inb_lt hin
  refine W.aald (v := .ref (ad j)) hC.1 hC.2.1 (hP c _ ha) ((hC.2.2.2.2.2.1.2 3 _ rfl).1 n (fun q => va_rf (some (ad (bas fs + q))))) rfl (fun q => by cases q) (by show ¬ (v < 0 ∨ (arrV _ _ _).slots.size ≤ _); rw [arrV_size]; exact hin) (by show (arrV _ _ _).slots[_]? = _; rw [arrV_read _ _ hlt, ← hj]; rfl) rfl rfl hd ?_
  exact k p l e R s m args below meth cd0 cells slots Q cc D dA ad H0 hC hL hR hO hr H locs lv hl hP hS
theorem s_getka {idx : Nat} (i : Nat) (hi : lst[i]? = some (pc, .getstatic idx, 3, pc')) (hw : Cond.fieldLinkNest own idx "AwakeBoard" "KIND_ABOVE" "[I" "AwakeBoard" ∈ nst) (k : Ev lst own nL d x pc' ls (.ref 200 :: st) h r h') : Ev lst own nL d x pc ls st h r h' := by
  intro p l e R s m args below meth cd0 cells slots Q cc D dA ad H0 hC hL hR hO hr H locs lv hl hP hS
  obtain ⟨hd, hp⟩ := hL _ (List.mem_of_getElem? hi)
  dsimp only at hd hp
  subst hp
  obtain ⟨cf, kf, fi, f, a, cell, h1, h2, h3, h4, h5, h6, h7, h8⟩ := hO.1.1
  exact va_WgetsN hC.1 hC.2.1 hC.2.2.2.1 (va_Nw.use rfl (hC.2.2.2.2.2.2.2.1 _ hw)) h1 h2 h3 h4 (by rw [hS.2.1 a (Array.getElem?_eq_some_iff.mp h5).1 h8]; exact h5) (fun e => by rw [e] at h6; cases h6) h7 rfl hd (k p l e R s m args below meth cd0 cells slots Q cc D dA ad H0 hC hL hR hO hr H locs lv hl hP hS)
theorem s_iaka {v : Int32} (i : Nat) (hi : lst[i]? = some (pc, .iaload, 1, pc')) (hin : inb v 8) (k : Ev lst own nL d x pc' ls (.int (kaF v.toNatClampNeg) :: st) h r h') : Ev lst own nL d x pc ls (.int v :: .ref 200 :: st) h r h' := by
  intro p l e R s m args below meth cd0 cells slots Q cc D dA ad H0 hC hL hR hO hr H locs lv hl hP hS
  obtain ⟨hd, hp⟩ := hL _ (List.mem_of_getElem? hi)
  dsimp only at hd hp
  subst hp
  obtain ⟨cell, h1, h2, h3, h4, h5, h6, h7⟩ := hO.1.2.1.kept hS.2.1
  have hlt := inb_lt hin
  have hin' : ¬ (v < 0 ∨ cell.slots.size ≤ v.toNatClampNeg) := by
    intro q
    rcases q with q | q
    · exact hin (Or.inl q)
    · omega
  exact W.iald (v := .int (kaF v.toNatClampNeg)) hC.1 hC.2.1 h1 h2 h3 hin' (h6 _ hlt) rfl rfl hd (k p l e R s m args below meth cd0 cells slots Q cc D dA ad H0 hC hL hR hO hr H locs lv hl hP hS)
theorem s_iascr {v : Int32} (i : Nat) (hi : lst[i]? = some (pc, .iaload, 1, pc')) (hx : x.1 ≠ 0) (hin : inb v x.1) (k : Ev lst own nL d x pc' ls (.int (x.2 v.toNatClampNeg) :: st) h r h') : Ev lst own nL d x pc ls (.int v :: .ref 202 :: st) h r h' := by
  intro p l e R s m args below meth cd0 cells slots Q cc D dA ad H0 hC hL hR hO hr H locs lv hl hP hS
  obtain ⟨hd, hp⟩ := hL _ (List.mem_of_getElem? hi)
  dsimp only at hd hp
  subst hp
  have hX := (hO.2 hx).1
  exact va_sld hC.1 hC.2.1 hX (by obtain ⟨scr, e, -⟩ := hX; exact (Array.getElem?_eq_some_iff.mp e).1) (hO.2 hx).2 hS hin hd (k p l e R s m args below meth cd0 cells slots Q cc D dA ad H0 hC hL hR hO hr H locs lv hl hP hS)
theorem s_alscr (i : Nat) (hi : lst[i]? = some (pc, .arraylength, 1, pc')) (hx : x.1 ≠ 0) (k : Ev lst own nL d x pc' ls (.int (Int32.ofNat x.1) :: st) h r h') : Ev lst own nL d x pc ls (.ref 202 :: st) h r h' := by
  intro p l e R s m args below meth cd0 cells slots Q cc D dA ad H0 hC hL hR hO hr H locs lv hl hP hS
  obtain ⟨hd, hp⟩ := hL _ (List.mem_of_getElem? hi)
  dsimp only at hd hp
  subst hp
  have hX := (hO.2 hx).1
  exact va_slen hC.1 hC.2.1 hX (by obtain ⟨scr, e, -⟩ := hX; exact (Array.getElem?_eq_some_iff.mp e).1) (hO.2 hx).2 hS hd (k p l e R s m args below meth cd0 cells slots Q cc D dA ad H0 hC hL hR hO hr H locs lv hl hP hS)
end RULES
