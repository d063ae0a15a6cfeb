/-! 74: the store that the constructors leave; what holds of it -/
def hst : Sto := fun c => if c = 84 then mdF else if c = 25 ∨ c = 50 then spF else if c = 1 ∨ c = 26 then upd (fun _ => 0) 4 1 else fun _ => 0
theorem hst_0 {c : Nat} (h : c ≠ 84 ∧ c ≠ 25 ∧ c ≠ 50 ∧ c ≠ 1 ∧ c ≠ 26) (k : Nat) : hst c k = 0 := by
  unfold hst
  rw [if_neg h.1, if_neg (by omega), if_neg (by omega)]
theorem hst_sp : ∀ i, i < 10 → spF i = lI 0 ∧ mdF (1204 + i) = lI 0 := by decide +kernel
theorem hst_md : ∀ i, i < 5 → mdF i = nI 0 := by decide +kernel
theorem inv_hst : Inv hst := by
  have z : ∀ k, hst 84 k = mdF k := fun _ => rfl
  refine ⟨⟨fun _ _ => 0, ⟨⟨Nat.zero_le _, hst_0 (by decide) 0, hst_md 0 (by decide)⟩, ⟨Nat.zero_le _, hst_0 (by decide) 0, hst_md 1 (by decide)⟩, ⟨Nat.zero_le _, hst_0 (by decide) 1, hst_md 2 (by decide)⟩, ?_, ?_⟩, fun i hi => absurd hi (Nat.not_lt_zero _), ⟨?_, ?_⟩, ⟨fun w hw => absurd hw (Nat.not_lt_zero _), fun v w _ hw => absurd hw (Nat.not_lt_zero _)⟩, fun i hi => ?_⟩, ⟨0, Nat.zero_le _, hst_0 (by decide) 0, hst_md 4 (by decide), fun t ht => absurd ht (Nat.not_lt_zero _)⟩, Or.inl ⟨hst_0 (by decide) 2, hst_0 (by decide) 2⟩, ⟨0, Nat.zero_le _, hst_0 (by decide) 4, hst_0 (by decide) 6, fun j hj => absurd hj (Nat.not_lt_zero _)⟩, fun s hs => ?_, fun i hi => ?_⟩
  · exact (hst_0 (c := 10) (by decide) 2).trans (hst_md 3 (by decide)).symm
  · show hst 1 4 = mdF 5
    decide +kernel
  · exact hst_0 (c := 2) (by decide) 1
  · exact hst_0 (c := 2) (by decide) 2
  · exact ⟨(hst_sp i hi).1, (hst_sp i hi).2, Nat.zero_le _⟩
  · exact ⟨0, Nat.zero_le _, hst_0 (by omega) 1, hst_0 (by omega) s, (hst_0 (by omega) 0).trans (hst_0 (by omega) s).symm, Or.inl (hst_0 (by omega) s), fun _ => rfl, fun j hj => absurd hj (Nat.not_lt_zero _)⟩
  · exact (hst_0 (by omega) i).trans (hst_0 (by omega) i).symm
