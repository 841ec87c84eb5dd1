/-! LISTS of the class's objects, going on -/
section ListsS
variable {em mi ic : Nat} {σ : ST} {A : AD} {F h : AH}
theorem pkr_A2 {k n q da : Nat} (hk : 11 ≤ k ∧ k ≤ 15) {r : Nat → Int} {z : Int} {k' i' : Nat} (c2 : k' ≠ k + 20) (c1 : k' ≠ k) (c3 : k' = 23 → k = 11 → (r 0).toNat ≠ n) (c4 : k' = 8 ∨ k' = 9 → k = 12 → ∀ j, r j < n) : pkr (A2 A k n q da) em r z k' i' = pkr A em r z k' i' := by
  have a1 : ∀ x i, x ≤ 20 → A2 A k n q da x i = A x i := fun x i hx => by
    unfold A2
    rw [if_neg (by omega), if_neg (by omega)]
  have a2 : ∀ x i, x ≠ k + 10 → x ≠ k + 20 → A2 A k n q da x i = A x i := fun x i h1 h2 => by
    unfold A2
    rw [if_neg h1, if_neg h2]
  have a3 : ∀ x i, x ≠ k + 20 → i ≠ n → A2 A k n q da x i = A x i := fun x i h1 h2 => by
    unfold A2
    rw [if_neg h1, if_neg h2, ite_self]
  have a4 : ∀ x i, x ≠ k + 10 → (x = k + 20 → i ≠ 0) → A2 A k n q da x i = A x i := fun x i h1 h2 => by
    unfold A2
    rw [if_neg h1]
    split
    · rw [if_neg (h2 ‹_›)]
    · rfl
  unfold pkr
  split
  case h_9 | h_10 =>
    congr 7
    funext j
    unfold rfo
    split
    · rfl
    · congr 1
      by_cases ck : k = 12
      · refine a3 _ _ (by omega) ?_
        have := c4 (by omega) ck j
        omega
      · exact a2 _ _ (by omega) (by omega)
  case h_12 | h_13 | h_14 | h_15 | h_16 =>
    congr 5
    split
    · rfl
    · refine a4 _ _ (by omega) ?_
      intro _
      omega
  case h_19 =>
    have : A2 A k n q da 21 (r 0).toNat = A 21 (r 0).toNat := by
      by_cases ck : k = 11
      · exact a3 _ _ (by omega) (c3 rfl ck)
      · exact a2 _ _ (by omega) (by omega)
    rw [this]
  all_goals first
    | rfl
    | (simp (disch := omega) only [a1]; done)
    | (simp (disch := omega) only [a2]; done)
end ListsS
