/-! 70: making objects: a judgement over explicit worlds (written by wip/whole/gen_new.py) -/
def ArrC (dA : Nat → ClassId) (s : State) : Prop := s.vm.findClass "[I" = some (dA 0) ∧ s.vm.findClass "[Z" = some (dA 1) ∧ s.vm.findClass "[[I" = some (dA 2) ∧ s.vm.findClass "[LAwakeBoard$Sheet;" = some (dA 3) ∧ (∃ k : Class, s.vm.classes[dA 2]? = some k ∧ k.kind = .array (dA 0) (.array .int)) ∧ va_AO "AwakeBoard$Sheet" s
theorem ArrC.moved {dA : Nat → ClassId} {u U : State} (hvm : u.vm.Alike U.vm) (h : ArrC dA u) : ArrC dA U :=
  ⟨(hvm.findClass _ _).trans h.1, (hvm.findClass _ _).trans h.2.1, (hvm.findClass _ _).trans h.2.2.1, (hvm.findClass _ _).trans h.2.2.2.1, by
    obtain ⟨k, h1, h2⟩ := h.2.2.2.2.1
    obtain ⟨k1, g1, g2⟩ := hvm.2.2 _ _ h1
    exact ⟨k1, g1, by rw [g2]; exact h2⟩, h.2.2.2.2.2.moved hvm⟩
def CxC (p : Program) (s : State) (m : MethodId) (args : Array Value) (meth : Method) (c : Code) (cc : ByteArray) (own : String) (nL : Nat) (D : va_G) (dA : Nat → ClassId) : Prop :=
  p.tables.exec = Jvm.exec ∧ c.code = cc ∧ c.maxLocals = nL ∧ s.vm.findClass own = some m.cls ∧ (∀ w ∈ gtb, w.before args s = true) ∧ va_K D vwCl (tysA dA) s ∧ ArrC dA s ∧ (∀ w ∈ nst, va_Nw w s) ∧ meth.name = "<init>"
def RmN (d mc ms : Nat) (R : Room) (cells slots : Nat) : Prop := d ≤ R.frames ∧ 64 * d ≤ R.locals ∧ cells + mc ≤ R.cells ∧ slots + ms ≤ R.slots
def Nv (lst : Lst) (own : String) (nL d : Nat) (dA : Nat → ClassId) (pc : Nat) (ls : List (Option Value)) (st : List Value) (ws : va_W) (mc ms : Nat) (Post : va_W → Prop) : Prop :=
  ∀ (p : Program) (l : Launch) (e : Env) (R : Room) (s : State) (m : MethodId) (args : Array Value) (below : List Frame) (meth : Method) (c : Code) (cells slots : Nat) (Q : State → Prop) (cc : ByteArray) (D : va_G) (H0 : Heap) (A : Nat → Prop),
    CxC p s m args meth c cc own nL D dA → (∀ q ∈ lst, Dc cc q) → RmN d mc ms R cells slots → (∀ q, H0.size ≤ q → A q) →
    (∀ (pcr : Nat) (H : Heap) (locs : List Loc) (lv : Array Slot) (ws' : va_W), decode cc pcr = .ok (.return_, 1) → lv.size = nL → Post ws' → va_P D vwCl ws' H → va_D A ws' → va_S A H0 H locs → W p l e R s m args below meth c H locs (cells + mc) (slots + ms) Q (F0 m pcr lv [])) →
    ∀ (H : Heap) (locs : List Loc) (lv : Array Slot), LH id lv nL ls → va_P D vwCl ws H → va_D A ws → va_S A H0 H locs → W p l e R s m args below meth c H locs cells slots Q (F0 m pc lv st)
section NEW
variable {lst : Lst} {own : String} {nL d pc pc' mc ms : Nat} {dA : Nat → ClassId} {ls : List (Option Value)} {st : List Value} {ws : va_W} {Post : va_W → Prop}
theorem n_aload_n {n : Fin 4} {a : Nat} (i : Nat) (hi : lst[i]? = some (pc, .aload_n n, 1, pc')) (hv : ls[(n : Nat)]? = some (some (.ref a))) (k : Nv lst own nL d dA pc' ls (.ref a :: st) ws mc ms Post) : Nv lst own nL d dA pc ls st ws mc ms Post := by
  intro p l e R s m args below meth c cells slots Q cc D H0 A hC hL hR hA hr H locs lv hlv hP hD hS
  obtain ⟨hd, hp⟩ := hL _ (List.mem_of_getElem? hi)
  dsimp only at hd hp
  subst hp
  exact lv_aload_n hC.1 hC.2.1 hd rfl (hlv.2.2 _ (.ref a) hv) (k p l e R s m args below meth c cells slots Q cc D H0 A hC hL hR hA hr H locs lv hlv hP hD hS)
theorem n_iload_n {n : Fin 4} {v : Int32} (i : Nat) (hi : lst[i]? = some (pc, .iload_n n, 1, pc')) (hv : ls[(n : Nat)]? = some (some (.int v))) (k : Nv lst own nL d dA pc' ls (.int v :: st) ws mc ms Post) : Nv lst own nL d dA pc ls st ws mc ms Post := by
  intro p l e R s m args below meth c cells slots Q cc D H0 A hC hL hR hA hr H locs lv hlv hP hD hS
  obtain ⟨hd, hp⟩ := hL _ (List.mem_of_getElem? hi)
  dsimp only at hd hp
  subst hp
  exact lv_iload_n hC.1 hC.2.1 hd rfl (hlv.2.2 _ (.int v) hv) (k p l e R s m args below meth c cells slots Q cc D H0 A hC hL hR hA hr H locs lv hlv hP hD hS)
theorem n_iconst {n : Int} (v : Int32) (i : Nat) (hi : lst[i]? = some (pc, .iconst n, 1, pc')) (hv : Int32.ofInt n = v) (k : Nv lst own nL d dA pc' ls (.int v :: st) ws mc ms Post) : Nv lst own nL d dA pc ls st ws mc ms Post := by
  intro p l e R s m args below meth c cells slots Q cc D H0 A hC hL hR hA hr H locs lv hlv hP hD hS
  obtain ⟨hd, hp⟩ := hL _ (List.mem_of_getElem? hi)
  dsimp only at hd hp
  subst hp
  exact lv_iconst hC.1 hC.2.1 hd hv (k p l e R s m args below meth c cells slots Q cc D H0 A hC hL hR hA hr H locs lv hlv hP hD hS)
theorem n_bipush {n : Int} (v : Int32) (i : Nat) (hi : lst[i]? = some (pc, .bipush n, 2, pc')) (hv : (Int8.ofInt n).toInt32 = v) (k : Nv lst own nL d dA pc' ls (.int v :: st) ws mc ms Post) : Nv lst own nL d dA pc ls st ws mc ms Post := by
  intro p l e R s m args below meth c cells slots Q cc D H0 A hC hL hR hA hr H locs lv hlv hP hD hS
  obtain ⟨hd, hp⟩ := hL _ (List.mem_of_getElem? hi)
  dsimp only at hd hp
  subst hp
  exact lv_bipush hC.1 hC.2.1 hd hv (k p l e R s m args below meth c cells slots Q cc D H0 A hC hL hR hA hr H locs lv hlv hP hD hS)
theorem n_sipush {n : Int} (v : Int32) (i : Nat) (hi : lst[i]? = some (pc, .sipush n, 3, pc')) (hv : (Int16.ofInt n).toInt32 = v) (k : Nv lst own nL d dA pc' ls (.int v :: st) ws mc ms Post) : Nv lst own nL d dA pc ls st ws mc ms Post := by
  intro p l e R s m args below meth c cells slots Q cc D H0 A hC hL hR hA hr H locs lv hlv hP hD hS
  obtain ⟨hd, hp⟩ := hL _ (List.mem_of_getElem? hi)
  dsimp only at hd hp
  subst hp
  exact lv_sipush hC.1 hC.2.1 hd hv (k p l e R s m args below meth c cells slots Q cc D H0 A hC hL hR hA hr H locs lv hlv hP hD hS)
theorem n_dup {v : Nat} (i : Nat) (hi : lst[i]? = some (pc, .dup, 1, pc')) (k : Nv lst own nL d dA pc' ls (.ref v :: .ref v :: st) ws mc ms Post) : Nv lst own nL d dA pc ls (.ref v :: st) ws mc ms Post := by
  intro p l e R s m args below meth c cells slots Q cc D H0 A hC hL hR hA hr H locs lv hlv hP hD hS
  obtain ⟨hd, hp⟩ := hL _ (List.mem_of_getElem? hi)
  dsimp only at hd hp
  subst hp
  exact lv_dup hC.1 hC.2.1 hd rfl (k p l e R s m args below meth c cells slots Q cc D H0 A hC hL hR hA hr H locs lv hlv hP hD hS)
theorem n_iadd {v w : Int32} (i : Nat) (hi : lst[i]? = some (pc, .iadd, 1, pc')) (k : Nv lst own nL d dA pc' ls (.int (v + w) :: st) ws mc ms Post) : Nv lst own nL d dA pc ls (.int w :: .int v :: st) ws mc ms Post := by
  intro p l e R s m args below meth c cells slots Q cc D H0 A hC hL hR hA hr H locs lv hlv hP hD hS
  obtain ⟨hd, hp⟩ := hL _ (List.mem_of_getElem? hi)
  dsimp only at hd hp
  subst hp
  exact lv_iadd hC.1 hC.2.1 hd (k p l e R s m args below meth c cells slots Q cc D H0 A hC hL hR hA hr H locs lv hlv hP hD hS)
theorem n_istore_n {n : Fin 4} {v : Int32} (ls' : List (Option Value)) (i : Nat) (hi : lst[i]? = some (pc, .istore_n n, 1, pc')) (hn : (n : Nat) < nL) (hls : st1 ls (n : Nat) (.int v) = ls') (k : Nv lst own nL d dA pc' ls' st ws mc ms Post) : Nv lst own nL d dA pc ls (.int v :: st) ws mc ms Post := by
  intro p l e R s m args below meth c cells slots Q cc D H0 A hC hL hR hA hr H locs lv hlv hP hD hS
  obtain ⟨hd, hp⟩ := hL _ (List.mem_of_getElem? hi)
  dsimp only at hd hp
  subst hp
  exact lv_istore_n hC.1 hC.2.1 hd rfl hlv.has hn rfl (fun lv' hl' => k p l e R s m args below meth c cells slots Q cc D H0 A hC hL hR hA hr H locs lv' (hls ▸ LH.st1 (v := .int v) hl') hP hD hS)
theorem n_iinc {n : Nat} {z : Int} {v : Int32} (w : Int32) (ls' : List (Option Value)) (i : Nat) (hi : lst[i]? = some (pc, .iinc n z, 3, pc')) (hw : v + Int32.ofInt z = w) (hv : ls[n]? = some (some (.int v))) (hn : n < nL) (hls : st1 ls n (.int w) = ls') (k : Nv lst own nL d dA pc' ls' st ws mc ms Post) : Nv lst own nL d dA pc ls st ws mc ms Post := by
  intro p l e R s m args below meth c cells slots Q cc D H0 A hC hL hR hA hr H locs lv hlv hP hD hS
  obtain ⟨hd, hp⟩ := hL _ (List.mem_of_getElem? hi)
  dsimp only at hd hp
  subst hp
  have hm : (n, Value.int v) ∈ asc id ls := asc_mem.mpr ⟨_, hv, rfl⟩
  obtain ⟨k0, hk0⟩ := List.getElem?_of_mem hm
  exact lv_iinc hC.1 hC.2.1 hd hlv.has hk0 hw hn rfl (fun lv' hl' => k p l e R s m args below meth c cells slots Q cc D H0 A hC hL hR hA hr H locs lv' (hls ▸ LH.st1 (v := .int w) hl') hP hD hS)
theorem n_ge_T {v w : Int32} {off : Int} (i tgt : Nat) (hi : lst[i]? = some (pc, .if_icmp .ge off, 3, pc')) (ht : (pc : Int) + off = (tgt : Int)) (g : w ≤ v) (k : Nv lst own nL d dA tgt ls st ws mc ms Post) : Nv lst own nL d dA pc ls (.int w :: .int v :: st) ws mc ms Post := by
  intro p l e R s m args below meth c cells slots Q cc D H0 A hC hL hR hA hr H locs lv hlv hP hD hS
  obtain ⟨hd, hp⟩ := hL _ (List.mem_of_getElem? hi)
  dsimp only at hd hp
  subst hp
  exact lv_icmp_ge hC.1 hC.2.1 hd ht (fun _ => k p l e R s m args below meth c cells slots Q cc D H0 A hC hL hR hA hr H locs lv hlv hP hD hS) (fun q => absurd g q)
theorem n_ge_F {v w : Int32} {off : Int} (i tgt : Nat) (hi : lst[i]? = some (pc, .if_icmp .ge off, 3, pc')) (ht : (pc : Int) + off = (tgt : Int)) (g : ¬ w ≤ v) (k : Nv lst own nL d dA pc' ls st ws mc ms Post) : Nv lst own nL d dA pc ls (.int w :: .int v :: st) ws mc ms Post := by
  intro p l e R s m args below meth c cells slots Q cc D H0 A hC hL hR hA hr H locs lv hlv hP hD hS
  obtain ⟨hd, hp⟩ := hL _ (List.mem_of_getElem? hi)
  dsimp only at hd hp
  subst hp
  exact lv_icmp_ge hC.1 hC.2.1 hd ht (fun q => absurd q g) (fun _ => k p l e R s m args below meth c cells slots Q cc D H0 A hC hL hR hA hr H locs lv hlv hP hD hS)
theorem n_goto {off : Int} (i tgt : Nat) (hi : lst[i]? = some (pc, .goto off, 3, pc')) (ht : (pc : Int) + off = (tgt : Int)) (k : Nv lst own nL d dA tgt ls st ws mc ms Post) : Nv lst own nL d dA pc ls st ws mc ms Post := by
  intro p l e R s m args below meth c cells slots Q cc D H0 A hC hL hR hA hr H locs lv hlv hP hD hS
  obtain ⟨hd, hp⟩ := hL _ (List.mem_of_getElem? hi)
  dsimp only at hd hp
  subst hp
  exact lv_goto hC.1 hC.2.1 hd ht (k p l e R s m args below meth c cells slots Q cc D H0 A hC hL hR hA hr H locs lv hlv hP hD hS)
/-- a field of an own object: its class's number, its place, its type -/
def FO (own : String) (idx ci k : Nat) (ty : FieldType) (fin : Bool) : Prop := ∃ (C : String) (T : u_T) (N : Nat) (ty0 : Nat → FieldType), KL ci C T N ty0 ∧ k < N ∧ ty0 k = ty ∧ (T k).2.2.2 = fin ∧ (T k).1 = own ∧ Cond.fieldLink own idx (T k).1 (T k).2.1 (T k).2.2.1 ∈ gtb
theorem n_put {idx ci k0 a : Nat} {ty : FieldType} {fin : Bool} {fs : List Value} {v : Value} (q0 : Nat) (i : Nat) (hi : lst[i]? = some (pc, .putfield idx, 3, pc')) (hf : FO own idx ci k0 ty fin) (he : ws[q0]? = some (a, .inr (ci, fs))) (hn : narrow ty v = v ∧ fits ty v = true) (hlen : k0 < fs.length) (k : Nv lst own nL d dA pc' ls st (ws.set q0 (a, .inr (ci, fs.set k0 v))) mc ms Post) : Nv lst own nL d dA pc ls (v :: .ref a :: st) ws mc ms Post := by
  intro p l e R s m args below meth c cells slots Q cc D H0 A hC hL hR hA hr H locs lv hlv hP hD hS
  obtain ⟨hd, hp⟩ := hL _ (List.mem_of_getElem? hi)
  dsimp only at hd hp
  subst hp
  obtain ⟨C, T, N, ty0, ⟨k1, k2, k3, k4⟩, f1, f2, f3, f4, hlk⟩ := hf
  cases fin with
  | true => exact va_putF (ty := ty) hC.1 hC.2.1 hC.2.2.2.2.1 k2 ty0 k3 k4 hC.2.2.2.1 hC.2.2.2.2.2.1 hP hD hS q0 he k1 k0 f1 (hC.2.2.2.2.1 _ hlk) (fun _ q => q) f3 hC.2.2.2.2.2.2.2.2 f4 (by rw [← f2]; exact k3 k0 f1) hn.1 hn.2 hlen hd (fun H1 locs1 hP1 hD1 hS1 => k p l e R s m args below meth c cells slots Q cc D H0 A hC hL hR hA hr H1 locs1 lv hlv hP1 hD1 hS1)
  | false => exact va_put (ty := ty) hC.1 hC.2.1 hC.2.2.2.2.1 k2 ty0 k3 k4 hC.2.2.2.1 hC.2.2.2.2.2.1 hP hD hS q0 he k1 k0 f1 (hC.2.2.2.2.1 _ hlk) (fun _ q => q) f3 (by rw [← f2]; exact k3 k0 f1) hn.1 hn.2 hlen hd (fun H1 locs1 hP1 hD1 hS1 => k p l e R s m args below meth c cells slots Q cc D H0 A hC hL hR hA hr H1 locs1 lv hlv hP1 hD1 hS1)
theorem n_get {idx ci k0 a : Nat} {ty : FieldType} {fin : Bool} {fs : List Value} {v : Value} (q0 : Nat) (i : Nat) (hi : lst[i]? = some (pc, .getfield idx, 3, pc')) (hf : FO own idx ci k0 ty fin) (he : ws[q0]? = some (a, .inr (ci, fs))) (hv : fs[k0]? = some v) (k : Nv lst own nL d dA pc' ls (v :: st) ws mc ms Post) : Nv lst own nL d dA pc ls (.ref a :: st) ws mc ms Post := by
  intro p l e R s m args below meth c cells slots Q cc D H0 A hC hL hR hA hr H locs lv hlv hP hD hS
  obtain ⟨hd, hp⟩ := hL _ (List.mem_of_getElem? hi)
  dsimp only at hd hp
  subst hp
  obtain ⟨C, T, N, ty0, ⟨k1, k2, k3, k4⟩, f1, f2, f3, f4, hlk⟩ := hf
  exact va_get hC.1 hC.2.1 hC.2.2.2.2.1 k2 hC.2.2.2.1 hC.2.2.2.2.2.1 hP q0 he k1 k0 f1 (hC.2.2.2.2.1 _ hlk) (fun _ q => q) hv hd (k p l e R s m args below meth c cells slots Q cc D H0 A hC hL hR hA hr H locs lv hlv hP hD hS)
theorem n_iast {a n : Nat} {f : Nat → Int32} {x v : Int32} (q0 : Nat) (i : Nat) (hi : lst[i]? = some (pc, .iastore, 1, pc')) (he : ws[q0]? = some (a, .inl (dA 0, n, .inl f))) (hin : inb v n) (k : Nv lst own nL d dA pc' ls st (ws.set q0 (a, .inl (dA 0, n, .inl (upd f v.toNatClampNeg x)))) mc ms Post) : Nv lst own nL d dA pc ls (.int x :: .int v :: .ref a :: st) ws mc ms Post := by
  intro p l e R s m args below meth c cells slots Q cc D H0 A hC hL hR hA hr H locs lv hlv hP hD hS
  obtain ⟨hd, hp⟩ := hL _ (List.mem_of_getElem? hi)
  dsimp only at hd hp
  subst hp
  exact va_iast hC.1 hC.2.1 hC.2.2.2.2.2.1 hP hD hS q0 0 he rfl hin hd (fun H1 locs1 hP1 hD1 hS1 => k p l e R s m args below meth c cells slots Q cc D H0 A hC hL hR hA hr H1 locs1 lv hlv hP1 hD1 hS1)
theorem n_aast {a n v0 : Nat} {f : Nat → Option Nat} {fs : List Value} {v : Int32} (q0 qk : Nat) (i : Nat) (hi : lst[i]? = some (pc, .aastore, 1, pc')) (he : ws[q0]? = some (a, .inl (dA 3, n, .inr (.inr (.inr (.inr f)))))) (hv : ws[qk]? = some (v0, .inr (4, fs))) (hin : inb v n) (k : Nv lst own nL d dA pc' ls st (ws.set q0 (a, .inl (dA 3, n, .inr (.inr (.inr (.inr (va_up f v.toNatClampNeg (some v0)))))))) mc ms Post) : Nv lst own nL d dA pc ls (.ref v0 :: .int v :: .ref a :: st) ws mc ms Post := by
  intro p l e R s m args below meth c cells slots Q cc D H0 A hC hL hR hA hr H locs lv hlv hP hD hS
  obtain ⟨hd, hp⟩ := hL _ (List.mem_of_getElem? hi)
  dsimp only at hd hp
  subst hp
  exact va_astq (r := (RX4, TX4, 3)) hC.1 hC.2.1 hC.2.2.2.2.2.1 hP hD hS q0 3 qk 4 he rfl hv rfl hin hd (fun H1 locs1 hP1 hD1 hS1 => k p l e R s m args below meth c cells slots Q cc D H0 A hC hL hR hA hr H1 locs1 lv hlv hP1 hD1 hS1)
/-- the world with one more cell, at the heap's end -/
theorem push_w {D : va_G} {H H1 : Heap} {A : Nat → Prop} {H0 : Heap} {locs : List Loc} {e : va_E} (hP : va_P D vwCl ws H) (hD : va_D A ws) (hS : va_S A H0 H locs) (hA : ∀ q, H0.size ≤ q → A q) (h1 : va_at D vwCl (H.size, e) H1) (h2 : H1.size = H.size + 1) (h3 : ∀ q, q < H.size → H1[q]? = H[q]?) : va_P D vwCl (ws ++ [(H.size, e)]) H1 ∧ va_D A (ws ++ [(H.size, e)]) ∧ va_S A H0 H1 locs := by
  refine ⟨va_P.app (hP.kept (fun k q hk => h3 _ (hP k q hk).lt)) (fun k q hk => ?_), hD.push hP rfl (hA _ hS.1), ⟨by have := hS.1; omega, fun q q1 q2 => ?_, hS.2.2⟩⟩
  · cases k with
    | zero => cases hk; exact h1
    | succ k => simp at hk
  · rw [h3 q (by have := hS.1; omega)]; exact hS.2.1 q q1 q2
theorem ac_I : Cond.arrayClass .int ∈ gtb := gt_of 132 (by decide +kernel) rfl
theorem ac_Z : Cond.arrayClass .boolean ∈ gtb := gt_of 181 (by decide +kernel) rfl
theorem n_newI {v : Int32} (n : Nat) (i : Nat) (hi : lst[i]? = some (pc, .newarray .int, 2, pc')) (hv : ¬ v < 0 ∧ v.toNatClampNeg = n ∧ n ≤ 2000) (k : ∀ q, Nv lst own nL d dA pc' ls (.ref q :: st) (ws ++ [(q, .inl (dA 0, n, .inl (fun _ => 0)))]) mc ms Post) : Nv lst own nL d dA pc ls (.int v :: st) ws (mc + 1) (ms + n) Post := by
  intro p l e R s m args below meth c cells slots Q cc D H0 A hC hL hR hA hr H locs lv hlv hP hD hS
  obtain ⟨hd, hp⟩ := hL _ (List.mem_of_getElem? hi)
  dsimp only at hd hp
  subst hp
  refine va_newaK (atype := .int) hC.1 hC.2.1 (hC.2.2.2.2.1 _ ac_I) rfl hd rfl hv.1 hv.2.1 (by show n * 4 ≤ 536870912; have := hv.2.2; omega) (by have := hR.2.2.1; omega) (by have := hR.2.2.2; omega) rfl (fun H1 cA h1 h2 h3 h4 h5 => ?_)
  have h5 : s.vm.findClass "[I" = some cA := h5
  have e : cA = dA 0 := Option.some.inj (h5.symm.trans hC.2.2.2.2.2.2.1.1)
  subst e
  obtain ⟨g1, g2, g3⟩ := push_w (e := .inl (dA 0, n, .inl (fun _ => 0))) hP hD hS hA h1 h2 h3
  exact k H.size p l e R s m args below meth c (cells + 1) (slots + n) Q cc D H0 A hC hL ⟨hR.1, hR.2.1, by have := hR.2.2.1; omega, by have := hR.2.2.2; omega⟩ hA (fun pcr H2 locs2 lv2 ws2 a1 a2 a3 a4 a5 a6 => by
    have := hr pcr H2 locs2 lv2 ws2 a1 a2 a3 a4 a5 a6
    rw [show cells + 1 + mc = cells + (mc + 1) by omega, show slots + n + ms = slots + (ms + n) by omega]
    exact this) H1 locs lv hlv g1 g2 g3
theorem n_newZ {v : Int32} (n : Nat) (i : Nat) (hi : lst[i]? = some (pc, .newarray .boolean, 2, pc')) (hv : ¬ v < 0 ∧ v.toNatClampNeg = n ∧ n ≤ 2000) (k : ∀ q, Nv lst own nL d dA pc' ls (.ref q :: st) (ws ++ [(q, .inl (dA 1, n, .inl (fun _ => 0)))]) mc ms Post) : Nv lst own nL d dA pc ls (.int v :: st) ws (mc + 1) (ms + n) Post := by
  intro p l e R s m args below meth c cells slots Q cc D H0 A hC hL hR hA hr H locs lv hlv hP hD hS
  obtain ⟨hd, hp⟩ := hL _ (List.mem_of_getElem? hi)
  dsimp only at hd hp
  subst hp
  refine va_newaK (atype := .boolean) hC.1 hC.2.1 (hC.2.2.2.2.1 _ ac_Z) rfl hd rfl hv.1 hv.2.1 (by show n * 1 ≤ 536870912; have := hv.2.2; omega) (by have := hR.2.2.1; omega) (by have := hR.2.2.2; omega) rfl (fun H1 cA h1 h2 h3 h4 h5 => ?_)
  have h5 : s.vm.findClass "[Z" = some cA := h5
  have e : cA = dA 1 := Option.some.inj (h5.symm.trans hC.2.2.2.2.2.2.1.2.1)
  subst e
  obtain ⟨g1, g2, g3⟩ := push_w (e := .inl (dA 1, n, .inl (fun _ => 0))) hP hD hS hA h1 h2 h3
  exact k H.size p l e R s m args below meth c (cells + 1) (slots + n) Q cc D H0 A hC hL ⟨hR.1, hR.2.1, by have := hR.2.2.1; omega, by have := hR.2.2.2; omega⟩ hA (fun pcr H2 locs2 lv2 ws2 a1 a2 a3 a4 a5 a6 => by
    have := hr pcr H2 locs2 lv2 ws2 a1 a2 a3 a4 a5 a6
    rw [show cells + 1 + mc = cells + (mc + 1) by omega, show slots + n + ms = slots + (ms + n) by omega]
    exact this) H1 locs lv hlv g1 g2 g3
theorem cl_S : Cond.classLink RX8 31 "AwakeBoard$Sheet" ∈ gtb := gt_of 223 (by decide +kernel) rfl
theorem n_anew {v : Int32} (n : Nat) (i : Nat) (hi : lst[i]? = some (pc, .anewarray 31, 3, pc')) (hv : ¬ v < 0 ∧ v.toNatClampNeg = n ∧ n ≤ 2000) (k : ∀ q, Nv lst RX8 nL d dA pc' ls (.ref q :: st) (ws ++ [(q, .inl (dA 3, n, .inr (.inr (.inr (.inr (fun _ => none))))))]) mc ms Post) : Nv lst RX8 nL d dA pc ls (.int v :: st) ws (mc + 1) (ms + n) Post := by
  intro p l e R s m args below meth c cells slots Q cc D H0 A hC hL hR hA hr H locs lv hlv hP hD hS
  obtain ⟨hd, hp⟩ := hL _ (List.mem_of_getElem? hi)
  dsimp only at hd hp
  subst hp
  obtain ⟨hv1, rfl, hv3⟩ := hv
  refine W.anew hC.1 hC.2.1 hC.2.2.2.1 (hC.2.2.2.2.1 _ cl_S) hC.2.2.2.2.2.2.1.2.2.2.2.2.use rfl hd rfl hv1 (by omega) (by have := hR.2.2.1; omega) (by have := hR.2.2.2; omega) (fun cA kA comp f1 f2 f3 f4 => ?_)
  have f1 : s.vm.findClass "[LAwakeBoard$Sheet;" = some cA := f1
  have e : cA = dA 3 := Option.some.inj (f1.symm.trans hC.2.2.2.2.2.2.1.2.2.2.1)
  subst e
  generalize hH1 : H.push ({ cls := dA 3, slots := Array.replicate v.toNatClampNeg .null, vm := .none } : Cell) = H1
  have z1 : H1.size = H.size + 1 := by rw [← hH1, Array.size_push]
  have z2 : H1[H.size]? = some (arrV (dA 3) v.toNatClampNeg (fun _ => .null)) := by rw [← hH1, Array.getElem?_push_size, ← arrV_new]
  have z3 : ∀ q, q < H.size → H1[q]? = H[q]? := fun q hq => by rw [← hH1, Array.getElem?_push_lt hq, Array.getElem?_eq_getElem hq]
  obtain ⟨g1, g2, g3⟩ := push_w (e := .inl (dA 3, v.toNatClampNeg, .inr (.inr (.inr (.inr (fun _ => none)))))) hP hD hS hA z2 z1 z3
  exact k H.size p l e R s m args below meth c (cells + 1) (slots + v.toNatClampNeg) Q cc D H0 A hC hL ⟨hR.1, hR.2.1, by have := hR.2.2.1; omega, by have := hR.2.2.2; omega⟩ hA (fun pcr H2 locs2 lv2 ws2 a1 a2 a3 a4 a5 a6 => by
    have := hr pcr H2 locs2 lv2 ws2 a1 a2 a3 a4 a5 a6
    rw [show cells + 1 + mc = cells + (mc + 1) by omega, show slots + v.toNatClampNeg + ms = slots + (ms + v.toNatClampNeg) by omega]
    exact this) H1 locs lv hlv g1 g2 g3
/-- a class of which objects are made -/
def NW (own : String) (idx ci N : Nat) (fs : List Value) : Prop := ∃ (C : String) (T : u_T) (ty0 : Nat → FieldType), KL ci C T N ty0 ∧ Cond.classLink own idx C ∈ gtb ∧ Cond.instantiable C N ∈ gtb ∧ Cond.initialized C ∈ gtb ∧ ∀ j, j < N → defaultValue (ty0 j) = vp_V fs j
theorem n_new {idx ci N : Nat} {fs : List Value} (i : Nat) (hi : lst[i]? = some (pc, .new idx, 3, pc')) (hw : NW own idx ci N fs) (k : ∀ q, Nv lst own nL d dA pc' ls (.ref q :: st) (ws ++ [(q, .inr (ci, fs))]) mc ms Post) : Nv lst own nL d dA pc ls st ws (mc + 1) (ms + N) Post := by
  intro p l e R s m args below meth c cells slots Q cc D H0 A hC hL hR hA hr H locs lv hlv hP hD hS
  obtain ⟨hd, hp⟩ := hL _ (List.mem_of_getElem? hi)
  dsimp only at hd hp
  subst hp
  obtain ⟨C, T, ty0, ⟨k1, k2, k3, k4⟩, w1, w2, w3, w4⟩ := hw
  refine va_new (fs := fs) hC.1 hC.2.1 hC.2.2.2.2.1 k2 ty0 k3 hC.2.2.2.1 (hC.2.2.2.2.1 _ w1) (hC.2.2.2.2.1 _ w2) (hC.2.2.2.2.1 _ w3) hC.2.2.2.2.2.1 hP hD hS hA k1 w4 (by have := hR.2.2.1; omega) (by have := hR.2.2.2; omega) hd (fun q H1 hP1 hD1 hS1 => ?_)
  exact k q p l e R s m args below meth c (cells + 1) (slots + N) Q cc D H0 A hC hL ⟨hR.1, hR.2.1, by have := hR.2.2.1; omega, by have := hR.2.2.2; omega⟩ hA (fun pcr H2 locs2 lv2 ws2 a1 a2 a3 a4 a5 a6 => by
    have := hr pcr H2 locs2 lv2 ws2 a1 a2 a3 a4 a5 a6
    rw [show cells + 1 + mc = cells + (mc + 1) by omega, show slots + N + ms = slots + (ms + N) by omega]
    exact this) H1 locs lv hlv hP1 hD1 hS1
theorem n_obj {idx a : Nat} (i : Nat) (hi : lst[i]? = some (pc, .invokespecial idx, 3, pc')) (hw : Cond.methodLink own idx objectInit ∈ gtb ∧ Cond.instanceMethod objectInit ∈ gtb ∧ Cond.code objectInit ⟨#[0xb1]⟩ 1 none ∈ gtb) (hc : (st.map Value.category).sum ≤ 8) (k : Nv lst own nL (d + 1) dA pc' ls st ws mc ms Post) : Nv lst own nL (d + 1) dA pc ls (.ref a :: st) ws mc ms Post := by
  intro p l e R s m args below meth c cells slots Q cc D H0 A hC hL hR hA hr H locs lv hlv hP hD hS
  obtain ⟨hd, hp⟩ := hL _ (List.mem_of_getElem? hi)
  dsimp only at hd hp
  subst hp
  have hc2 : (st.map fun v => v.category).sum ≤ 8 := hc
  refine W.objInit hC.1 hC.2.1 hC.2.2.2.1 (hC.2.2.2.2.1 _ hw.1) (hC.2.2.2.2.1 _ hw.2.1) (hC.2.2.2.2.1 _ hw.2.2) rfl (by rw [hC.2.2.1]; exact hlv.1) rfl hd (by have := hR.1; omega) (by show 2 * 0 + _ + 12 ≤ _; have := hR.2.1; omega) ?_
  exact k p l e R s m args below meth c cells slots Q cc D H0 A hC hL hR hA hr H locs lv hlv hP hD hS
theorem n_ret (i : Nat) (hi : lst[i]? = some (pc, .return_, 1, pc')) (hpo : Post ws) : Nv lst own nL d dA pc ls [] ws 0 0 Post := by
  intro p l e R s m args below meth c cells slots Q cc D H0 A hC hL hR hA hr H locs lv hlv hP hD hS
  obtain ⟨hd, hp⟩ := hL _ (List.mem_of_getElem? hi)
  dsimp only at hd hp
  subst hp
  exact hr pc H locs lv ws hd hlv.1 hpo hP hD hS
end NEW
-- contracts
def rmN (d mc ms : Nat) : Room := { frames := d, cells := mc, slots := ms, locals := 64 * d }
def PcN (D : va_G) (dA : Nat → ClassId) (h0 ci : Nat) (fs0 : List Value) (sz : Nat) : Array Value → State → Prop := fun v U => v = ([.ref h0] : List Value).toArray ∧ U.heap.size = sz ∧ va_P D vwCl [(h0, .inr (ci, fs0))] U.heap ∧ va_K D vwCl (tysA dA) U ∧ ArrC dA U ∧ ∀ w ∈ nst, va_Nw w U
def OkC (y : MethodName) (cc : ByteArray) (nL d ci : Nat) (fs0 : List Value) (mc ms : Nat) (P1 : (Nat → ClassId) → Nat → va_W → Prop) : Prop :=
  ∀ (l : Launch) (D : va_G) (dA : Nat → ClassId) (h0 sz : Nat), Met l y (.code y cc nL none :: gtb) (rmN d mc ms) (PcN D dA h0 ci fs0 sz) (va_Qv (fun w : va_W => P1 dA h0 w) (fun w t => va_P D vwCl w t.heap ∧ va_D (va_A [(h0, .inr (ci, fs0))] sz) w) (va_A [(h0, .inr (ci, fs0))] sz)) mc ms (va_A [(h0, .inr (ci, fs0))] sz)
theorem PcN_blind {D : va_G} {dA : Nat → ClassId} {h0 ci sz : Nat} {fs0 : List Value} : FrameBlind (PcN D dA h0 ci fs0 sz) := by
  intro a U g mk ⟨h1, h2, h3, h4, h5, h6⟩
  exact ⟨h1, h2, h3, va_K.moved (u := U) (U := U.calling g mk a) (Vm.Alike.refl U.vm) h4, h5, nst_same (s := U) (U := U.calling g mk a) rfl h6⟩
theorem OkC_of {y : MethodName} {cc : ByteArray} {nL d ci mc ms : Nat} {fs0 : List Value} {P1 : (Nat → ClassId) → Nat → va_W → Prop} {lst : Lst} {own : String} (hy : plainName y.cls = true ∧ y.cls = own ∧ y.name = "<init>") (hl : ∀ q ∈ lst, Dc cc q) (hlen : 1 ≤ nL) (he : ∀ dA h0, Nv lst own nL d dA 0 (entL [.ref h0] nL) [] [(h0, .inr (ci, fs0))] mc ms (P1 dA h0)) : OkC y cc nL d ci fs0 mc ms P1 := by
  intro l D dA h0 sz
  refine Met.ofW (cc := cc) (maxL := nL) (ret := none) hy.1 rfl ?_
  intro p e s m args below meth c s₁ B hml hv
  obtain ⟨rfl, hsz, hP, hK, hAC, hN⟩ := hv
  have hx := B.exec
  have hb := B.bytes
  have hr := B.returns
  have hts := atoms_spec (ws := .code y cc nL none :: gtb) B.pre
  have hown : s.vm.findClass own = some m.cls := hy.2.1 ▸ findClass_of_methodNamed B.named
  have hin : meth.name = "<init>" := (name_of_methodNamed B.named B.method).1.trans hy.2.2
  subst hsz
  have hA : ∀ q : Nat, s.heap.size ≤ q → va_A [(h0, .inr (ci, fs0))] s.heap.size q := fun q h => Or.inr h
  have hD : va_D (va_A [(h0, .inr (ci, fs0))] s.heap.size) [(h0, .inr (ci, fs0))] := by
    refine ⟨fun i j a b ha hb _ => ?_, fun k q hk => Or.inl ⟨k, q.2, hk⟩⟩
    have h1 := (List.getElem?_eq_some_iff.mp ha).1
    have h2 := (List.getElem?_eq_some_iff.mp hb).1
    simp at h1 h2
    omega
  have hl0 := lv_entry (([.ref h0] : List Value).map (cv id)) (n := nL) (by rw [sl_len]; exact hlen)
  rw [lg_entry_eq]
  change W p l e _ s m _ below meth c s.heap [] 0 0 _ (F0 m 0 (lg_sl (([.ref h0] : List Value).map (cv id)) ++ List.replicate (nL - (lg_sl (([.ref h0] : List Value).map (cv id))).length) Slot.unset).toArray [])
  generalize (lg_sl (([.ref h0] : List Value).map (cv id)) ++ List.replicate (nL - (lg_sl (([.ref h0] : List Value).map (cv id))).length) Slot.unset).toArray = lv at hl0 ⊢
  have hlv : LH id lv nL (entL [.ref h0] nL) := ⟨hl0.1, hl0.2.1, fun i v hi => hl0.2.2 (i, cv id v) (by have := entL_get id [.ref h0] nL 0 i v hi; rwa [Nat.zero_add] at this)⟩
  refine he dA h0 p l e (headSpec (.code y cc nL none :: gtb) (rmN d mc ms)).room s m _ below meth c 0 0 _ cc D s.heap _ ⟨hx, hb, hml, hown, fun w hw => hts w (List.mem_cons_of_mem _ hw), hK, hAC, hN, hin⟩ hl ⟨Nat.le_refl _, Nat.le_refl _, by rw [Nat.zero_add]; exact Nat.le_refl _, by rw [Nat.zero_add]; exact Nat.le_refl _⟩ hA ?_ s.heap [] lv hlv hP hD va_S.rf
  intro pcr H locs lv2 ws' hR hsz2 hPo hP2 hD2 hS2
  rw [Nat.zero_add, Nat.zero_add]
  exact W.vret hx hb hr (fun t ht hW => ⟨⟨ws', rfl, hPo, by rw [ht]; exact hP2, hD2⟩, hS2.F ht⟩) hS2.2.2 hR
theorem rm_leN {d nL mc ms mc1 ms1 : Nat} {R : Room} {cells slots : Nat} (hR : RmN (d + 1) mc ms R cells slots) (hn : nL ≤ 40) : (rmN d mc1 ms1).frames + 1 ≤ R.frames ∧ 8 + (nL + 11) + (rmN d mc1 ms1).locals ≤ R.locals := by
  obtain ⟨h1, h2, -, -⟩ := hR
  refine ⟨h1, ?_⟩
  show 8 + (nL + 11) + 64 * d ≤ R.locals
  omega
def LkC (own : String) (idx : Nat) (y : MethodName) : Prop := Cond.methodLink own idx y ∈ gtb ∨ ∃ host, Cond.methodLinkNest own idx y host ∈ nst
def YI (y : MethodName) (cc : ByteArray) (nL : Nat) : Prop := Cond.code y cc nL none ∈ gtb ∧ Cond.instanceMethod y ∈ gtb ∧ Cond.initialized y.cls ∈ gtb ∧ y.name = "<init>" ∧ YN y nL 0
theorem n_call {lst : Lst} {own : String} {nL d pc pc' mc ms mc1 ms1 idx ci nL2 q : Nat} {dA : Nat → ClassId} {ls : List (Option Value)} {st : List Value} {ws : va_W} {Post : va_W → Prop} {y : MethodName} {cc2 : ByteArray} {fs0 : List Value} {P1 : (Nat → ClassId) → Nat → va_W → Prop} (ws0 : va_W) (i : Nat) (hi : lst[i]? = some (pc, .invokespecial idx, 3, pc')) (hl : LkC own idx y) (hy : YI y cc2 nL2) (hok : OkC y cc2 nL2 d ci fs0 mc1 ms1 P1) (hws : ws = ws0 ++ [(q, .inr (ci, fs0))]) (hc : (st.map Value.category).sum ≤ 8) (k : ∀ w1, P1 dA q w1 → Nv lst own nL (d + 1) dA pc' ls st (ws0 ++ w1) mc ms Post) : Nv lst own nL (d + 1) dA pc ls (.ref q :: st) ws (mc + mc1) (ms + ms1) Post := by
  intro p l e R s m args below meth c cells slots Q cc D H0 A hC hL hR hA hr H locs lv hlv hP hD hS
  obtain ⟨hd, hp⟩ := hL _ (List.mem_of_getElem? hi)
  dsimp only at hd hp
  subst hp
  subst hws
  obtain ⟨hx, hb, hml, hown, hts, hK, hAC, hN, hin⟩ := id hC
  obtain ⟨y1, y2, y3, y4, y5, y6⟩ := hy
  have hq : (ws0 ++ [((q, .inr (ci, fs0)) : Nat × va_E)])[ws0.length]? = some (q, .inr (ci, fs0)) := by simp
  have hPc : va_P D vwCl [(q, .inr (ci, fs0))] H := by
    intro k0 z hk
    cases k0 with
    | zero => cases hk; exact hP _ _ hq
    | succ k0 => simp at hk
  have hFc : ∀ z, va_A [(q, .inr (ci, fs0))] H.size z → A z := by
    rintro z (⟨k0, e0, h⟩ | h)
    · cases k0 with
      | zero => cases h; exact hD.2 _ _ hq
      | succ k0 => simp at h
    · exact hA z (Nat.le_trans hS.1 h)
  have hcat : (st.map fun v => v.category).sum ≤ 8 := hc
  have rm := rm_leN (mc1 := mc1) (ms1 := ms1) hR y6
  have pre : PreS s H (PcN D dA q ci fs0 H.size) (.ref q :: []) := ⟨PcN_blind, fun U hU hW => ⟨rfl, by rw [hU], by rw [hU]; exact hPc, va_K.moved hW.alike hK, hAC.moved hW.alike, nst_warm hW hN⟩⟩
  have run : va_Run p l e R s m args below meth c H locs cells slots mc1 ms1 (F0 m pc lv (.ref q :: st)) st (va_Qv (fun w : va_W => P1 dA q w) (fun w t => va_P D vwCl w t.heap ∧ va_D (va_A [(q, .inr (ci, fs0))] H.size) w) (va_A [(q, .inr (ci, fs0))] H.size) (Value.ref q :: []).toArray) (va_A [(q, .inr (ci, fs0))] H.size) := by
    rcases hl with hl | ⟨host, hl⟩
    · exact va_runI (As := []) (rest := st) ⟨hx, hb, hml, hown, hts⟩ (hok l D dA q H.size) (cwI 0 hts (gt_goodL y1) rfl rfl rfl (hts _ y3) (hts _ hl) (hts _ y2) y4 y5 rm) pre rfl rfl hlv.1 rfl (lv_room hcat) hd ⟨by have := hR.2.2.1; omega, by have := hR.2.2.2; omega⟩
    · exact va_runIN (As := []) (rest := st) ⟨hx, hb, hml, hown, hts⟩ (hok l D dA q H.size) ⟨va_cnB 0 hts (gt_goodL y1) rfl rfl rfl (hN _ hl) (hts _ y3) y5 rm, y4, hts _ y2⟩ pre rfl rfl hlv.1 rfl (lv_room hcat) hd ⟨by have := hR.2.2.1; omega, by have := hR.2.2.2; omega⟩
  refine va_callv run hS (fun z _ h => hFc z h) hFc (fun u t H1 locs1 ht hvm hw hB hz1 hk1 hS1 => ?_)
  obtain ⟨hP1, hD1⟩ := hB
  rw [ht] at hP1
  have ap : ∀ (k0 : Nat) (z : Nat × va_E), ws0[k0]? = some z → (ws0 ++ [((q, .inr (ci, fs0)) : Nat × va_E)])[k0]? = some z ∧ z.1 < H.size ∧ ¬ va_A [(q, .inr (ci, fs0))] H.size z.1 := by
    intro k0 z hk
    have hlt := (List.getElem?_eq_some_iff.mp hk).1
    have h1 : (ws0 ++ [((q, .inr (ci, fs0)) : Nat × va_E)])[k0]? = some z := by rw [List.getElem?_append_left hlt]; exact hk
    have h2 := (hP k0 z h1).lt
    refine ⟨h1, h2, ?_⟩
    rintro (⟨k2, e0, h⟩ | h)
    · cases k2 with
      | zero =>
        have e1 : q = z.1 := (Prod.mk.inj (Option.some.inj h)).1
        have := hD.1 k0 ws0.length z _ h1 hq e1.symm
        omega
      | succ k2 => simp at h
    · omega
  have hP2 : va_P D vwCl (ws0 ++ u) H1 := va_P.app (fun k0 z hk => (hP k0 z (ap k0 z hk).1).kept (hk1 _ (ap k0 z hk).2.1 (ap k0 z hk).2.2)) hP1
  have hD2 : va_D A (ws0 ++ u) := va_D.app ⟨fun i j a b ha hb hab => hD.1 i j a b (ap i a ha).1 (ap j b hb).1 hab, fun k0 z hk => hD.2 k0 z (ap k0 z hk).1⟩ (hD1.weaken (fun k0 z _ h => hFc z.1 h)) (fun i j a b ha hb hab => (ap i a ha).2.2 (by rw [hab]; exact hD1.2 j b hb))
  exact k u hw p l e R s m args below meth c (cells + mc1) (slots + ms1) Q cc D H0 A hC hL ⟨hR.1, hR.2.1, by have := hR.2.2.1; omega, by have := hR.2.2.2; omega⟩ hA (fun pcr H2 locs2 lv2 ws2 a1 a2 a3 a4 a5 a6 => by
    have := hr pcr H2 locs2 lv2 ws2 a1 a2 a3 a4 a5 a6
    rw [show cells + mc1 + mc = cells + (mc + mc1) by omega, show slots + ms1 + ms = slots + (ms + ms1) by omega]
    exact this) H1 locs1 lv hlv hP2 hD2 hS1
