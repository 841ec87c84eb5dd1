/-! LISTS of the class's objects: get and add over the roles -/
section ListsS
variable {em mi ic : Nat} {σ : ST} {A : AD} {F h : AH}
theorem k5 {P : Nat → Prop} (h1 : P 11) (h2 : P 12) (h3 : P 13) (h4 : P 14) (h5 : P 15) {k : Nat} (hk : 11 ≤ k ∧ k ≤ 15) : P k := by
  have : k = 11 ∨ k = 12 ∨ k = 13 ∨ k = 14 ∨ k = 15 := by omega
  rcases this with rfl | rfl | rfl | rfl | rfl <;> assumption
theorem rp_L (R : Rp σ A em F h) {k : Nat} (hk : 11 ≤ k ∧ k ≤ 15) : h (A k 0) = some (.inr (4, [iV (σ k 0 1), .ref (if σ k 0 0 = 0 then em else A (k + 20) 0), iV (σ k 0 0)])) := by
  revert hk
  intro hk
  exact k5 (P := fun k => h (A k 0) = some (.inr (4, [iV (σ k 0 1), .ref (if σ k 0 0 = 0 then em else A (k + 20) 0), iV (σ k 0 0)]))) (rp_11 R) (rp_12 R) (rp_13 R) (rp_14 R) (rp_15 R) hk
theorem lv_D {k : Nat} (hk : 11 ≤ k ∧ k ≤ 15) (hp : 0 < σ k 0 0) : lv σ (k + 20) 0 := Or.inr (Or.inr ⟨by omega, by omega, rfl, by rw [show k + 20 - 20 = k by omega]; exact hp⟩)
theorem lv_L {k : Nat} (hk : k ≤ 15) : lv σ k 0 := lv_s ⟨hk, rfl⟩
theorem lv_E {k i : Nat} (hk : 11 ≤ k ∧ k ≤ 15) (hp : (i : Int) < σ k 0 0) : lv σ (k + 10) i := lv_e ⟨by omega, by omega, by rw [show k + 10 - 10 = k by omega]; exact hp⟩
theorem rp_D (R : Rp σ A em F h) {k : Nat} (hk : 11 ≤ k ∧ k ≤ 15) (hp : 0 < σ k 0 0) : h (A (k + 20) 0) = some (.inl (3, if σ k 0 0 ≤ 10 then 10 else 15, .inr (.inr (.inr (.inr fun j => if (j : Int) < σ k 0 0 then some (A (k + 10) j) else none))))) := by
  have H := R.1 (k + 20) 0 (lv_D hk hp)
  revert H hp
  exact k5 (P := fun k => 0 < σ k 0 0 → h (A (k + 20) 0) = some (pk A em σ (k + 20) 0) → h (A (k + 20) 0) = some (.inl (3, if σ k 0 0 ≤ 10 then 10 else 15, .inr (.inr (.inr (.inr fun j => if (j : Int) < σ k 0 0 then some (A (k + 10) j) else none)))))) (fun _ H => H) (fun _ H => H) (fun _ H => H) (fun _ H => H) (fun _ H => H) hk
theorem getR {d k i : Nat} {Q : RS → AH → Prop} (hd : 3 ≤ d) (R : Rp σ A em F h) (hk : 11 ≤ k ∧ k ≤ 15) (hi : (i : Int) < σ k 0 0) (hs : σ k 0 0 ≤ 15) (hQ : Q (.inl (some (.ref (A (k + 10) i)))) h) : cal (DD em mi ic) d 72 [.ref (A k 0), .int (Int32.ofInt i)] h Q := by
  have H := rp_L R hk
  rw [if_neg (by omega), show iV (σ k 0 0) = .int (Int32.ofInt ((σ k 0 0).toNat : Int)) by rw [Int.toNat_of_nonneg (by omega)]] at H
  refine get_ok hd H (rp_D R hk (by omega)) (Or.inr rfl) (by omega) (by omega) (by split <;> omega) ?_
  rw [if_pos hi]
  exact hQ
theorem getR11 {d i : Nat} {Q : RS → AH → Prop} (hd : 3 ≤ d) (R : Rp σ A em F h) (hi : (i : Int) < σ 11 0 0) (hs : σ 11 0 0 ≤ 15) (hQ : Q (.inl (some (.ref (A 21 i)))) h) : cal (DD em mi ic) d 72 [.ref (A 11 0), .int (Int32.ofInt i)] h Q := getR hd R (by omega) hi hs hQ
theorem getR12 {d i : Nat} {Q : RS → AH → Prop} (hd : 3 ≤ d) (R : Rp σ A em F h) (hi : (i : Int) < σ 12 0 0) (hs : σ 12 0 0 ≤ 15) (hQ : Q (.inl (some (.ref (A 22 i)))) h) : cal (DD em mi ic) d 72 [.ref (A 12 0), .int (Int32.ofInt i)] h Q := getR hd R (by omega) hi hs hQ
theorem getR13 {d i : Nat} {Q : RS → AH → Prop} (hd : 3 ≤ d) (R : Rp σ A em F h) (hi : (i : Int) < σ 13 0 0) (hs : σ 13 0 0 ≤ 15) (hQ : Q (.inl (some (.ref (A 23 i)))) h) : cal (DD em mi ic) d 72 [.ref (A 13 0), .int (Int32.ofInt i)] h Q := getR hd R (by omega) hi hs hQ
theorem getR14 {d i : Nat} {Q : RS → AH → Prop} (hd : 3 ≤ d) (R : Rp σ A em F h) (hi : (i : Int) < σ 14 0 0) (hs : σ 14 0 0 ≤ 15) (hQ : Q (.inl (some (.ref (A 24 i)))) h) : cal (DD em mi ic) d 72 [.ref (A 14 0), .int (Int32.ofInt i)] h Q := getR hd R (by omega) hi hs hQ
theorem getR15 {d i : Nat} {Q : RS → AH → Prop} (hd : 3 ≤ d) (R : Rp σ A em F h) (hi : (i : Int) < σ 15 0 0) (hs : σ 15 0 0 ≤ 15) (hQ : Q (.inl (some (.ref (A 25 i)))) h) : cal (DD em mi ic) d 72 [.ref (A 15 0), .int (Int32.ofInt i)] h Q := getR hd R (by omega) hi hs hQ
theorem pkr_A2 {k n q da : Nat} (hk : 11 ≤ k ∧ k ≤ 15) {r : Nat → Int} {z : Int} {k' i' : Nat} (c2 : k' ≠ k + 20) (c1 : k' ≠ k) (c3 : k' = 23 → k = 11 → (r 0).toNat ≠ n) (c4 : k' = 8 ∨ k' = 9 → k = 12 → ∀ j, r j < n) : pkr (A2 A k n q da) em r z k' i' = pkr A em r z k' i' := by
  have a1 : ∀ x i, x ≤ 20 → A2 A k n q da x i = A x i := fun x i hx => by
    unfold A2
    rw [if_neg (by omega), if_neg (by omega)]
  have a2 : ∀ x i, x ≠ k + 10 → x ≠ k + 20 → A2 A k n q da x i = A x i := fun x i h1 h2 => by
    unfold A2
    rw [if_neg h1, if_neg h2]
  have a3 : ∀ x i, x ≠ k + 20 → i ≠ n → A2 A k n q da x i = A x i := fun x i h1 h2 => by
    unfold A2
    rw [if_neg h1, if_neg h2, ite_self]
  have a4 : ∀ x i, x ≠ k + 10 → (x = k + 20 → i ≠ 0) → A2 A k n q da x i = A x i := fun x i h1 h2 => by
    unfold A2
    rw [if_neg h1]
    split
    · rw [if_neg (h2 ‹_›)]
    · rfl
  unfold pkr
  split
  case h_9 | h_10 =>
    congr 7
    funext j
    unfold rfo
    split
    · rfl
    · congr 1
      by_cases ck : k = 12
      · refine a3 _ _ (by omega) ?_
        have := c4 (by omega) ck j
        omega
      · exact a2 _ _ (by omega) (by omega)
  case h_12 | h_13 | h_14 | h_15 | h_16 =>
    congr 5
    split
    · rfl
    · refine a4 _ _ (by omega) ?_
      intro _
      omega
  case h_19 =>
    have : A2 A k n q da 21 (r 0).toNat = A 21 (r 0).toNat := by
      by_cases ck : k = 11
      · exact a3 _ _ (by omega) (c3 rfl ck)
      · exact a2 _ _ (by omega) (by omega)
    rw [this]
  all_goals first
    | rfl
    | (simp (disch := omega) only [a1]; done)
    | (simp (disch := omega) only [a2]; done)
theorem lv_2 {k n : Nat} {m : Int} {r : Nat → Int} (hk : 11 ≤ k ∧ k ≤ 15) (hn : σ k 0 0 = n) {k' i' : Nat} (h : lv (s2 σ k n m r) k' i') : (k' = k + 10 ∧ i' = n) ∨ (k' = k + 20 ∧ i' = 0) ∨ (lv σ k' i' ∧ ¬ (k' = k + 10 ∧ i' = n) ∧ ¬ (k' = k + 20 ∧ i' = 0)) := by
  have H : ∀ q, q ≤ 15 → q ≠ k → s2 σ k n m r q 0 = σ q 0 := fun q h1 h2 => by
    unfold s2
    simp only [h2, false_and, if_false]
    rw [if_neg (by omega)]
  have H2 : s2 σ k n m r k 0 0 = n + 1 := by simp [s2]
  by_cases c1 : k' = k + 10 ∧ i' = n
  · exact Or.inl c1
  by_cases c2 : k' = k + 20 ∧ i' = 0
  · exact Or.inr (Or.inl c2)
  refine Or.inr (Or.inr ⟨?_, c1, c2⟩)
  rcases h with h | h | h
  · exact Or.inl h
  · by_cases c : k' = k + 10
    · refine Or.inr (Or.inl ⟨h.1, h.2.1, ?_⟩)
      have h3 := h.2.2
      rw [c, show k + 10 - 10 = k by omega] at h3 ⊢
      rw [H2] at h3
      have : i' ≠ n := fun q => c1 ⟨c, q⟩
      omega
    · refine Or.inr (Or.inl ⟨h.1, h.2.1, ?_⟩)
      have h3 := h.2.2
      rw [H (k' - 10) (by omega) (by omega)] at h3
      exact h3
  · by_cases c : k' = k + 20
    · exact absurd ⟨c, h.2.2.1⟩ c2
    · refine Or.inr (Or.inr ⟨h.1, h.2.1, h.2.2.1, ?_⟩)
      have h3 := h.2.2.2
      rw [H (k' - 20) (by omega) (by omega)] at h3
      exact h3
/-- what refers to elements refers to those that are there -/
def Rf (σ : ST) : Prop := (∀ i : Nat, (i : Int) < σ 13 0 0 → (σ 23 i 0).toNat < σ 11 0 0) ∧ (∀ j, σ 8 0 j < σ 12 0 0 ∧ σ 9 0 j < σ 12 0 0)
theorem rp_add {G : AH} {k n q da : Nat} {m : Int} {r : Nat → Int} (R : Rp σ A em G h) (hk : 11 ≤ k ∧ k ≤ 15) (hn : σ k 0 0 = n) (hn2 : n < 15) (I : Rf σ) (hq : G q = some (pkr A em r 0 (k + 10) n)) (hr : k = 13 → (r 0).toNat < σ 11 0 0) (hqe : ¬ em = q)
    (hda : (0 < n ∧ da = A (k + 20) 0) ∨ ((∃ e, G da = some e) ∧ ¬ da = q ∧ ¬ da = em)) (hF : ∀ a e, F a = some e → G a = some e) (hFe : F em = some emR) (hFq : F q = none) (hFd : F da = none) {D L : AE}
    (hD : D = .inl (3, if (n : Int) + 1 ≤ 10 then 10 else 15, .inr (.inr (.inr (.inr fun j => if (j : Int) < (n : Int) + 1 then some (if j = n then q else A (k + 10) j) else none))))) (hL : L = .inr (4, [iV m, .ref da, iV ((n : Int) + 1)])) :
    Rp (s2 σ k n m r) (A2 A k n q da) em F (hup (hup h da D) (A k 0) L) := by
  obtain ⟨R1, R2, R3, R4, R5⟩ := R
  have e1 : A2 A k n q da (k + 10) n = q := by simp [A2]
  have e2 : A2 A k n q da (k + 20) 0 = da := by simp [A2]
  have e3 : ∀ k' i', ¬ (k' = k + 10 ∧ i' = n) → ¬ (k' = k + 20 ∧ i' = 0) → A2 A k n q da k' i' = A k' i' := fun k' i' h1 h2 => by
    unfold A2
    split
    · split
      · exact absurd ⟨‹_›, ‹_›⟩ h1
      · rfl
    · split
      · split
        · exact absurd ⟨‹_›, ‹_›⟩ h2
        · rfl
      · rfl
  have lL : lv σ k 0 := lv_L (by omega)
  have old : ∀ k' i', lv σ k' i' → ¬ A k' i' = q := fun k' i' hl c => by
    have := R5 _ _ hl
    rw [c, hq] at this
    cases this
  have oldd : ∀ k' i', lv σ k' i' → ¬ (k' = k + 20 ∧ i' = 0) → ¬ A k' i' = da := fun k' i' hl hn' c => by
    rcases hda with ⟨h0, h1⟩ | ⟨⟨e, h1⟩, -⟩
    · rw [h1] at c
      exact hn' (R2 _ _ _ _ hl (lv_D hk (by omega)) c)
    · have := R5 _ _ hl
      rw [c, h1] at this
      cases this
  have dq : ¬ da = q := by
    rcases hda with ⟨h0, h1⟩ | ⟨-, h1, -⟩
    · rw [h1]
      exact old _ _ (lv_D hk (by omega))
    · exact h1
  have qL : ¬ q = A k 0 := fun c => old _ _ lL c.symm
  have dL : ¬ da = A k 0 := fun c => oldd _ _ lL (by omega) c.symm
  have H2 : s2 σ k n m r k 0 0 = n + 1 := by simp [s2]
  refine ⟨fun k' i' hl => ?_, fun k1 i1 k2 i2 h1 h2 hA => ?_, hFe, fun a e ha => ?_, fun k' i' hl => ?_⟩
  · rcases lv_2 hk hn hl with ⟨rfl, rfl⟩ | ⟨rfl, rfl⟩ | ⟨hl, c1, c2⟩
    · rw [e1, hup_n qL, hup_n (fun c => dq c.symm), R4 _ _ hq]
      unfold pk szk
      rw [if_neg (by omega), pkr_A2 hk (by omega) (by omega) (by omega) (by omega)]
      have : s2 σ k i' m r (k + 10) i' = r := by simp [s2]
      rw [this]
    · rw [e2, hup_n dL, hup_s, hD]
      unfold pk szk
      rw [if_pos (show 31 ≤ k + 20 by omega), show k + 20 - 20 = k by omega, H2]
      have e4 : (fun j : Nat => if (j : Int) < (n : Int) + 1 then some (if j = n then q else A (k + 10) j) else none) = (fun j : Nat => if (j : Int) < (n : Int) + 1 then some (A2 A k n q da (k + 10) j) else none) := by
        funext j
        split
        · congr 1
          split
          · rw [‹j = n›, e1]
          · rw [e3 _ _ (by omega) (by omega)]
        · rfl
      rw [e4]
      exact k5 (P := fun x => k = x → some (Sum.inl (3, if (n : Int) + 1 ≤ 10 then 10 else 15, Sum.inr (Sum.inr (Sum.inr (Sum.inr fun j : Nat => if (j : Int) < (n : Int) + 1 then some (A2 A k n q da (x + 10) j) else none))))) = some (pkr (A2 A k n q da) em (s2 σ k n m r (x + 20) 0) (↑n + 1) (x + 20) 0)) (fun _ => rfl) (fun _ => rfl) (fun _ => rfl) (fun _ => rfl) (fun _ => rfl) hk rfl
    · rw [e3 _ _ c1 c2]
      by_cases c : k' = k ∧ i' = 0
      · obtain ⟨rfl, rfl⟩ := c
        rw [hup_s, hL]
        unfold pk szk
        rw [if_neg (by omega)]
        have e5 : s2 σ k' n m r k' 0 = fun f => if f = 0 then (n : Int) + 1 else if f = 1 then m else σ k' 0 f := by simp [s2]
        rw [e5]
        have e6 : da = if (n : Int) + 1 = 0 then em else A2 A k' n q da (k' + 20) 0 := by rw [if_neg (by omega), e2]
        exact k5 (P := fun x => k' = x → some (Sum.inr (4, [iV m, .ref da, iV ((n : Int) + 1)])) = some (pkr (A2 A k' n q da) em (fun f => if f = 0 then (n : Int) + 1 else if f = 1 then m else σ k' 0 f) 0 x 0))
          (fun h => by subst h; show _ = some (Sum.inr (4, [iV m, .ref (if (n : Int) + 1 = 0 then em else A2 A 11 n q da 31 0), iV ((n : Int) + 1)])); rw [← e6]) (fun h => by subst h; show _ = some (Sum.inr (4, [iV m, .ref (if (n : Int) + 1 = 0 then em else A2 A 12 n q da 32 0), iV ((n : Int) + 1)])); rw [← e6]) (fun h => by subst h; show _ = some (Sum.inr (4, [iV m, .ref (if (n : Int) + 1 = 0 then em else A2 A 13 n q da 33 0), iV ((n : Int) + 1)])); rw [← e6]) (fun h => by subst h; show _ = some (Sum.inr (4, [iV m, .ref (if (n : Int) + 1 = 0 then em else A2 A 14 n q da 34 0), iV ((n : Int) + 1)])); rw [← e6]) (fun h => by subst h; show _ = some (Sum.inr (4, [iV m, .ref (if (n : Int) + 1 = 0 then em else A2 A 15 n q da 35 0), iV ((n : Int) + 1)])); rw [← e6]) hk rfl
      · have n1 : ¬ A k' i' = A k 0 := fun q' => c (R2 _ _ _ _ hl lL q')
        rw [hup_n n1, hup_n (oldd _ _ hl c2), R1 _ _ hl]
        have e7 : s2 σ k n m r k' i' = σ k' i' := by
          unfold s2
          rw [if_neg c, if_neg c1]
        have e8 : szk (s2 σ k n m r) k' = szk σ k' := by
          have h35 := lv_35 hl
          unfold szk
          split
          · have c5 : ¬ k' = k + 20 := fun q' => c2 ⟨q', by unfold lv at hl; omega⟩
            have : s2 σ k n m r (k' - 20) 0 = σ (k' - 20) 0 := by
              unfold s2
              rw [if_neg (by omega), if_neg (by omega)]
            rw [this]
          · rfl
        have c6 : k' = k → False := fun q' => c ⟨q', by unfold lv at hl; omega⟩
        have c7 : k' = k + 20 → False := fun q' => c2 ⟨q', by unfold lv at hl; omega⟩
        unfold pk
        rw [e7, e8, pkr_A2 hk c7 c6]
        · rintro rfl rfl
          have hi : (i' : Int) < σ 13 0 0 := by
            unfold lv at hl
            rcases hl with hl | hl | hl
            · omega
            · exact hl.2.2
            · omega
          have := I.1 i' hi
          omega
        · rintro c8 rfl j
          have h8 : k' ≤ 15 := by omega
          have i0 : i' = 0 := by unfold lv at hl; omega
          subst i0
          have := I.2 j
          rcases c8 with rfl | rfl <;> omega
  · have B1 := lv_2 hk hn h1
    have B2 := lv_2 hk hn h2
    rcases B1 with ⟨rfl, rfl⟩ | ⟨rfl, rfl⟩ | ⟨l1, c1, d1⟩ <;> rcases B2 with ⟨rfl, rfl⟩ | ⟨rfl, rfl⟩ | ⟨l2, c2, d2⟩
    · exact ⟨rfl, rfl⟩
    · rw [e1, e2] at hA
      exact absurd hA.symm dq
    · rw [e1, e3 _ _ c2 d2] at hA
      exact absurd hA.symm (old _ _ l2)
    · rw [e1, e2] at hA
      exact absurd hA dq
    · exact ⟨rfl, rfl⟩
    · rw [e2, e3 _ _ c2 d2] at hA
      exact absurd hA.symm (oldd _ _ l2 d2)
    · rw [e1, e3 _ _ c1 d1] at hA
      exact absurd hA (old _ _ l1)
    · rw [e2, e3 _ _ c1 d1] at hA
      exact absurd hA (oldd _ _ l1 d1)
    · rw [e3 _ _ c1 d1, e3 _ _ c2 d2] at hA
      exact R2 _ _ _ _ l1 l2 hA
  · have a1 : ¬ a = da := by
      rintro rfl
      rw [hFd] at ha
      cases ha
    have a2 : ¬ a = A k 0 := by
      rintro rfl
      have := hF _ _ ha
      rw [R5 _ _ lL] at this
      cases this
    rw [hup_n a2, hup_n a1]
    exact R4 _ _ (hF _ _ ha)
  · rcases lv_2 hk hn hl with ⟨rfl, rfl⟩ | ⟨rfl, rfl⟩ | ⟨hl, c1, c2⟩
    · rw [e1, hFq]
    · rw [e2, hFd]
    · rw [e3 _ _ c1 c2]
      cases c : F (A k' i') with
      | none => rfl
      | some e =>
        have := hF _ _ c
        rw [R5 _ _ hl] at this
        cases this
end ListsS
