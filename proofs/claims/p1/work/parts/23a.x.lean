/-! LISTS of the class's objects: get and add over the roles -/
section ListsS
variable {em mi ic : Nat} {σ : ST} {A : AD} {F h : AH}
theorem k5 {P : Nat → Prop} (h1 : P 11) (h2 : P 12) (h3 : P 13) (h4 : P 14) (h5 : P 15) {k : Nat} (hk : 11 ≤ k ∧ k ≤ 15) : P k := by
  have : k = 11 ∨ k = 12 ∨ k = 13 ∨ k = 14 ∨ k = 15 := by omega
  rcases this with rfl | rfl | rfl | rfl | rfl <;> assumption
theorem rp_L (R : Rp σ A em F h) {k : Nat} (hk : 11 ≤ k ∧ k ≤ 15) : h (A k 0) = some (.inr (4, [iV (σ k 0 1), .ref (if σ k 0 0 = 0 then em else A (k + 20) 0), iV (σ k 0 0)])) := by
  revert hk
  intro hk
  exact k5 (P := fun k => h (A k 0) = some (.inr (4, [iV (σ k 0 1), .ref (if σ k 0 0 = 0 then em else A (k + 20) 0), iV (σ k 0 0)]))) (rp_11 R) (rp_12 R) (rp_13 R) (rp_14 R) (rp_15 R) hk
theorem lv_D {k : Nat} (hk : 11 ≤ k ∧ k ≤ 15) (hp : 0 < σ k 0 0) : lv σ (k + 20) 0 := Or.inr (Or.inr ⟨by omega, by omega, rfl, by rw [show k + 20 - 20 = k by omega]; exact hp⟩)
theorem lv_L {k : Nat} (hk : k ≤ 15) : lv σ k 0 := lv_s ⟨hk, rfl⟩
theorem lv_E {k i : Nat} (hk : 11 ≤ k ∧ k ≤ 15) (hp : (i : Int) < σ k 0 0) : lv σ (k + 10) i := lv_e ⟨by omega, by omega, by rw [show k + 10 - 10 = k by omega]; exact hp⟩
theorem rp_D (R : Rp σ A em F h) {k : Nat} (hk : 11 ≤ k ∧ k ≤ 15) (hp : 0 < σ k 0 0) : h (A (k + 20) 0) = some (.inl (3, if σ k 0 0 ≤ 10 then 10 else 15, .inr (.inr (.inr (.inr fun j => if (j : Int) < σ k 0 0 then some (A (k + 10) j) else none))))) := by
  have H := R.1 (k + 20) 0 (lv_D hk hp)
  revert H hp
  exact k5 (P := fun k => 0 < σ k 0 0 → h (A (k + 20) 0) = some (pk A em σ (k + 20) 0) → h (A (k + 20) 0) = some (.inl (3, if σ k 0 0 ≤ 10 then 10 else 15, .inr (.inr (.inr (.inr fun j => if (j : Int) < σ k 0 0 then some (A (k + 10) j) else none)))))) (fun _ H => H) (fun _ H => H) (fun _ H => H) (fun _ H => H) (fun _ H => H) hk
theorem getR {d k i : Nat} {Q : RS → AH → Prop} (hd : 3 ≤ d) (R : Rp σ A em F h) (hk : 11 ≤ k ∧ k ≤ 15) (hi : (i : Int) < σ k 0 0) (hs : σ k 0 0 ≤ 15) (hQ : Q (.inl (some (.ref (A (k + 10) i)))) h) : cal (DD em mi ic) d 73 [.ref (A k 0), .int (Int32.ofInt i)] h Q := by
  have H := rp_L R hk
  rw [if_neg (by omega), show iV (σ k 0 0) = .int (Int32.ofInt ((σ k 0 0).toNat : Int)) by rw [Int.toNat_of_nonneg (by omega)]] at H
  refine get_ok hd H (rp_D R hk (by omega)) (Or.inr rfl) (by omega) (by omega) (by split <;> omega) ?_
  rw [if_pos hi]
  exact hQ
theorem getR11 {d i : Nat} {Q : RS → AH → Prop} (hd : 3 ≤ d) (R : Rp σ A em F h) (hi : (i : Int) < σ 11 0 0) (hs : σ 11 0 0 ≤ 15) (hQ : Q (.inl (some (.ref (A 21 i)))) h) : cal (DD em mi ic) d 73 [.ref (A 11 0), .int (Int32.ofInt i)] h Q := getR hd R (by omega) hi hs hQ
theorem getR12 {d i : Nat} {Q : RS → AH → Prop} (hd : 3 ≤ d) (R : Rp σ A em F h) (hi : (i : Int) < σ 12 0 0) (hs : σ 12 0 0 ≤ 15) (hQ : Q (.inl (some (.ref (A 22 i)))) h) : cal (DD em mi ic) d 73 [.ref (A 12 0), .int (Int32.ofInt i)] h Q := getR hd R (by omega) hi hs hQ
theorem getR13 {d i : Nat} {Q : RS → AH → Prop} (hd : 3 ≤ d) (R : Rp σ A em F h) (hi : (i : Int) < σ 13 0 0) (hs : σ 13 0 0 ≤ 15) (hQ : Q (.inl (some (.ref (A 23 i)))) h) : cal (DD em mi ic) d 73 [.ref (A 13 0), .int (Int32.ofInt i)] h Q := getR hd R (by omega) hi hs hQ
theorem getR14 {d i : Nat} {Q : RS → AH → Prop} (hd : 3 ≤ d) (R : Rp σ A em F h) (hi : (i : Int) < σ 14 0 0) (hs : σ 14 0 0 ≤ 15) (hQ : Q (.inl (some (.ref (A 24 i)))) h) : cal (DD em mi ic) d 73 [.ref (A 14 0), .int (Int32.ofInt i)] h Q := getR hd R (by omega) hi hs hQ
theorem getR15 {d i : Nat} {Q : RS → AH → Prop} (hd : 3 ≤ d) (R : Rp σ A em F h) (hi : (i : Int) < σ 15 0 0) (hs : σ 15 0 0 ≤ 15) (hQ : Q (.inl (some (.ref (A 25 i)))) h) : cal (DD em mi ic) d 73 [.ref (A 15 0), .int (Int32.ofInt i)] h Q := getR hd R (by omega) hi hs hQ
end ListsS
