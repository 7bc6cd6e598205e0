/-! the invariant at the start -/
theorem mem0_z (a b : Nat) (h : a ∉ [3, 7, 2, 66, 124, 0, 1000]) : mem0.1 a b = 0 := by
  simp only [List.mem_cons, List.not_mem_nil, or_false, not_or] at h
  obtain ⟨h1, h2, h3, h4, h5, h6, h7⟩ := h
  unfold mem0
  rw [sI_n h7, sI_n h7, sI_n h6, sI_n h6, sI_n h6, sI_n h5, sI_n h4, sI_n h4, sI_n h4, sI_n h4, sI_n h4, sI_n h4, sI_n h4, sI_n h3, sI_n h3, sI_n h2, sI_n h1]
  rfl
def T0 : Tn := (0, 10, fun _ _ => 0, fun _ => none)
def s00 : St := fun _ _ => 0
theorem okN_00 : okN T0 s00 := by
  refine ⟨⟨fun p hp => absurd hp (Nat.not_lt_zero p), fun i j hi hj => ⟨⟨0, by omega, rfl⟩, fun _ => rfl⟩, ⟨0, by decide, rfl⟩, by decide, by decide⟩, by decide⟩
theorem row_00 (f : Nat → Int32) (h : ∀ k, f k = 0) : rowR 0 s00 f := ⟨fun p hp => absurd hp (Nat.not_lt_zero p), fun k _ => h _, h _, h _, h _⟩
theorem inv_mem0 : Inv mem0 := by
  refine ⟨124, T0, s00, ?_, ?_, ?_, ?_, ?_, ?_, ?_, ?_, ?_⟩
  · refine ⟨.inr rfl, by decide, by decide, ⟨by decide, by decide, by decide, fun p hp => absurd hp (Nat.not_lt_zero p), fun w pr h => by cases h⟩, ⟨by decide, by decide, fun p hp => absurd hp (Nat.not_lt_zero p), ?_, ?_, ?_, fun pr h => by cases h⟩, ?_, ⟨by decide, by decide, fun p hp => absurd hp (Nat.not_lt_zero p), ?_, ?_, ?_⟩, by decide⟩
    · show mem0.1 133 5 = 0
      decide
    · show mem0.1 138 5 = 0
      decide
    · show mem0.1 143 5 = 0
      decide
    · show mem0.1 133 7 = 0
      decide
    · show mem0.1 1000 52 = 0
      decide
    · show mem0.1 1000 53 = 0
      decide
    · show mem0.1 1000 54 = 0
      decide
  · refine ⟨okN_00, ⟨fun p hp => absurd hp (Nat.not_lt_zero p), fun k _ => mem0_z _ _ (by decide), by decide, by decide, by decide⟩, row_00 _ (fun k => mem0_z _ _ (by decide))⟩
  · refine ⟨fun _ => s00, 0, 0, Nat.le_refl _, by omega, rfl, by decide, by decide, by decide, by decide, fun i _ => ⟨okN_00, row_00 _ (fun k => mem0_z _ _ (by decide))⟩, fun i hi => absurd hi (Nat.not_lt_zero i), fun i _ hi => absurd hi (Nat.not_lt_zero i)⟩
  · exact fun b _ => .inl ⟨mem0_z _ _ (by decide), mem0_z _ _ (by decide)⟩
  · exact ⟨0, 0, by omega, by omega, by decide, by decide, by decide, by decide, fun i hi => absurd hi (Nat.not_lt_zero i)⟩
  · exact ⟨0, by omega, by decide, by decide, fun i hi => absurd hi (Nat.not_lt_zero i)⟩
  · exact ⟨0, by omega, by decide, by decide, fun i hi => absurd hi (Nat.not_lt_zero i)⟩
  · exact ⟨by decide, by decide⟩
  · refine ⟨?_, fun w hw => ⟨0, by omega, mem0_z _ _ (by decide)⟩⟩
    have : ∀ i : Fin 7, mem0.1 66 i.val = nI (69 + 6 * i.val) := by decide
    exact fun i hi => this ⟨i, hi⟩
