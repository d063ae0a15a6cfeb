/-! 04b: a class's words by their places; the constant text of signs -/
theorem u_all {C : String} {T : u_T} {N : Nat} (pl : List Nat) (g : (u_ws C T N).length = pl.length ∧ ((u_ws C T N).zip pl).all (fun q => decide (lw_tbl[q.2]? = some q.1) && goodWord q.1) = true) : ∀ w ∈ u_ws C T N, w ∈ gtb := by
  intro w hw
  obtain ⟨i, hi⟩ := List.getElem?_of_mem hw
  have hl : i < pl.length := by rw [← g.1]; exact (List.getElem?_eq_some_iff.mp hi).1
  have hz : ((u_ws C T N).zip pl)[i]? = some (w, pl[i]) := by
    rw [List.getElem?_zip_eq_some]
    exact ⟨hi, List.getElem?_eq_getElem hl⟩
  have := List.all_eq_true.mp g.2 _ (List.mem_of_getElem? hz)
  simp only [Bool.and_eq_true, decide_eq_true_eq] at this
  exact gt_of _ this.1 this.2
def ixOf (v : Int32) : Int32 := if v = 119 then 0 else if v = 103 then 1 else if v = 108 then 2 else if v = 104 then 3 else if v = 102 then 4 else if v = 113 then 5 else if v = 116 then 6 else if v = 110 then 7 else -1
section STR
variable {lst : Lst} {own : String} {nL d pc pc' : Nat} {x : Scr} {ls : List (Option Value)} {st : List Value} {h h' h1 : Sto} {r rv : Option Value}
theorem s_ldcstr {idx : Nat} (i : Nat) (hi : lst[i]? = some (pc, .ldc idx, 2, pc')) (k : Ev lst own nL d x pc' ls (.ref 201 :: st) h r h') : Ev lst own nL d x pc ls st h r h' := by
  sorry
theorem s_indexOf {idx : Nat} {v : Int32} (i : Nat) (hi : lst[i]? = some (pc, .invokevirtual idx, 3, pc')) (hl : Cond.methodLink own idx yJ0_indexOf_0f7a4 ∈ gtb) (hc : (st.map Value.category).sum ≤ 8) (k : Ev lst own nL (d + 12) x pc' ls (.int (ixOf v) :: st) h r h') : Ev lst own nL (d + 12) x pc ls (.int v :: .ref 201 :: st) h r h' := by
  sorry
end STR
