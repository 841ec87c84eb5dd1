/-! LISTS of the class's objects, going on -/
section ListsS
variable {em mi ic : Nat} {σ : ST} {A : AD} {F h : AH}
theorem lv_2 {k n : Nat} {m : Int} {r : Nat → Int} (hk : 11 ≤ k ∧ k ≤ 15) (hn : σ k 0 0 = n) {k' i' : Nat} (h : lv (s2 σ k n m r) k' i') : (k' = k + 10 ∧ i' = n) ∨ (k' = k + 20 ∧ i' = 0) ∨ (lv σ k' i' ∧ ¬ (k' = k + 10 ∧ i' = n) ∧ ¬ (k' = k + 20 ∧ i' = 0)) := by
  have H : ∀ q, q ≤ 15 → q ≠ k → s2 σ k n m r q 0 = σ q 0 := fun q h1 h2 => by
    unfold s2
    simp only [h2, false_and, if_false]
    rw [if_neg (by omega)]
  have H2 : s2 σ k n m r k 0 0 = n + 1 := by simp [s2]
  by_cases c1 : k' = k + 10 ∧ i' = n
  · exact Or.inl c1
  by_cases c2 : k' = k + 20 ∧ i' = 0
  · exact Or.inr (Or.inl c2)
  refine Or.inr (Or.inr ⟨?_, c1, c2⟩)
  rcases h with h | h | h
  · exact Or.inl h
  · by_cases c : k' = k + 10
    · refine Or.inr (Or.inl ⟨h.1, h.2.1, ?_⟩)
      have h3 := h.2.2
      rw [c, show k + 10 - 10 = k by omega] at h3 ⊢
      rw [H2] at h3
      have : i' ≠ n := fun q => c1 ⟨c, q⟩
      omega
    · refine Or.inr (Or.inl ⟨h.1, h.2.1, ?_⟩)
      have h3 := h.2.2
      rw [H (k' - 10) (by omega) (by omega)] at h3
      exact h3
  · by_cases c : k' = k + 20
    · exact absurd ⟨c, h.2.2.1⟩ c2
    · refine Or.inr (Or.inr ⟨h.1, h.2.1, h.2.2.1, ?_⟩)
      have h3 := h.2.2.2
      rw [H (k' - 20) (by omega) (by omega)] at h3
      exact h3
theorem lv_z {k i : Nat} (h : lv σ k i) (hk : k ≤ 15 ∨ 31 ≤ k) : i = 0 := by
  unfold lv at h
  omega
theorem lv_13 {i : Nat} (h : lv σ 23 i) : (i : Int) < σ 13 0 0 := by
  rcases h with h | h | h
  · omega
  · exact h.2.2
  · omega
/-- what refers to elements refers to those that are there -/
def Rf (σ : ST) : Prop := (∀ i : Nat, (i : Int) < σ 13 0 0 → (σ 23 i 0).toNat < σ 11 0 0) ∧ (∀ j, σ 8 0 j < σ 12 0 0 ∧ σ 9 0 j < σ 12 0 0)
end ListsS
