/-! 75: the world that the constructors leave is the first store (written by wip/whole/gen_start.py) -/
theorem arrV_cong {cI : ClassId} {n : Nat} {f g : Nat → Value} (h : ∀ j, j < n → f j = g j) : arrV cI n f = arrV cI n g := by
  unfold arrV
  have e : (fun j : Fin n => f j.val) = fun j : Fin n => g j.val := funext fun j => h j.val j.isLt
  rw [e]
theorem at_refs {D : va_G} {cl : List vw_C} {H : Heap} {a n : Nat} {cI : ClassId} {f g : Nat → Option Nat} (hfg : ∀ j, j < n → f j = g j) (h : va_at D cl (a, .inl (cI, n, .inr (.inr (.inr (.inr f))))) H) : va_at D cl (a, .inl (cI, n, .inr (.inr (.inr (.inr g))))) H := by
  have h1 : H[a]? = some (arrV cI n (fun j => va_rf (f j))) := h
  show H[a]? = some (arrV cI n (fun j => va_rf (g j)))
  rw [h1, arrV_cong (fun j hj => by rw [hfg j hj])]
def prL : List Nat := [0, 1, 2, 3, 4, 5, 6, 7, 8, 9, 10, 11, 12, 13, 14, 15, 16, 17, 18, 19, 20, 21, 22, 23, 24, 25, 26, 27, 28, 29, 30, 31, 32, 33, 34, 35, 36, 37, 38, 39, 40, 41, 42, 43, 44, 45, 46, 47, 48, 49, 50, 51, 52, 53, 55, 57, 59, 54, 56, 58, 60, 61, 62, 63, 64, 65, 66, 67, 68, 69, 70, 71, 72, 73, 74, 75, 76, 77, 78, 79, 80, 81, 82, 83, 84, 85, 86, 87, 88, 89, 90, 91, 92, 93, 94, 95]
theorem prL_ok : ∀ c, c < 96 → prL.getD c 0 < 96 ∧ ∀ b, b < 96 → prL.getD c 0 = prL.getD b 0 → c = b := by decide +kernel
def adW (ws : va_W) (a b c d : Nat) : Nat → Nat := fun k => if k < 96 then (ws.getD (prL.getD k 0) (0, .inr (0, []))).1 else if k = 200 then a else if k = 201 then b else if k = 202 then c else d
theorem adW_at {ws : va_W} {a b c d k : Nat} (hl : ws.length = 96) (hk : k < 96) : ∃ e, ws[prL.getD k 0]? = some (adW ws a b c d k, e) := by
  have h1 := (prL_ok k hk).1
  unfold adW
  rw [if_pos hk, List.getD_eq_getElem?_getD (l := ws), List.getElem?_eq_getElem (l := ws) (i := prL.getD k 0) (by omega)]
  exact ⟨(ws[prL.getD k 0]'(by omega)).2, rfl⟩
theorem adW_inj {A : Nat → Prop} {ws : va_W} {a b c d : Nat} (hl : ws.length = 96) (hD : va_D A ws) : injA (adW ws a b c d) ∧ ∀ q, wrA (adW ws a b c d) q → A q := by
  refine ⟨fun i j hi hj e => ?_, fun q hq => ?_⟩
  · obtain ⟨e1, h1⟩ := adW_at (a := a) (b := b) (c := c) (d := d) hl hi
    obtain ⟨e2, h2⟩ := adW_at (a := a) (b := b) (c := c) (d := d) hl hj
    exact (prL_ok i hi).2 j hj (hD.1 _ _ _ _ h1 h2 e)
  · obtain ⟨k, hk, rfl⟩ := hq
    obtain ⟨e1, h1⟩ := adW_at (a := a) (b := b) (c := c) (d := d) hl hk
    exact hD.2 _ _ h1
def mdP (dA : Nat → ClassId) (h0 : Nat) (w : va_W) : Prop := ∃ a b c d e f g h i j k l, w = wMod dA h0 a b c d e f g h i j k l
theorem first_world {D : va_G} {dA : Nat → ClassId} {H : Heap} {A : Nat → Prop} {a8 a9 : Nat} {w8 w9 : va_W} (h8 : abP dA a8 w8) (h9 : mdP dA a9 w9) (hP : va_P D vwCl (w8 ++ w9) H) (hD : va_D A (w8 ++ w9)) (x0 x1 x2 x3 : Nat) : ∃ ad : Nat → Nat, ad 0 = a8 ∧ ad 83 = a9 ∧ ad 200 = x0 ∧ ad 201 = x1 ∧ ad 202 = x2 ∧ ad 203 = x3 ∧ injA ad ∧ (∀ q, wrA ad q → A q) ∧ va_P D vwCl (wsl dA ad hst) H := by
  sorry
