/-! LISTS of the class's objects, going on -/
section ListsS
variable {em mi ic : Nat} {σ : ST} {A : AD} {F h : AH}
theorem rp_add {G : AH} {k n q da : Nat} {m : Int} {r : Nat → Int} (R : Rp σ A em G h) (hk : 11 ≤ k ∧ k ≤ 15) (hn : σ k 0 0 = n) (hn2 : n < 15) (I : Rf σ) (hq : G q = some (pkr A em r 0 (k + 10) n)) (hr : k = 13 → (r 0).toNat < σ 11 0 0) (hqe : ¬ em = q)
    (hda : (0 < n ∧ da = A (k + 20) 0) ∨ ((∃ e, G da = some e) ∧ ¬ da = q ∧ ¬ da = em)) (hF : ∀ a e, F a = some e → G a = some e) (hFe : F em = some emR) (hFq : F q = none) (hFd : F da = none) {D L : AE}
    (hD : D = .inl (3, if (n : Int) + 1 ≤ 10 then 10 else 15, .inr (.inr (.inr (.inr fun j => if (j : Int) < (n : Int) + 1 then some (if j = n then q else A (k + 10) j) else none))))) (hL : L = .inr (4, [iV m, .ref da, iV ((n : Int) + 1)])) :
    Rp (s2 σ k n m r) (A2 A k n q da) em F (hup (hup h da D) (A k 0) L) := by
  obtain ⟨R1, R2, R3, R4, R5⟩ := R
  have e1 : A2 A k n q da (k + 10) n = q := by simp [A2]
  have e2 : A2 A k n q da (k + 20) 0 = da := by simp [A2]
  have e3 : ∀ k' i', ¬ (k' = k + 10 ∧ i' = n) → ¬ (k' = k + 20 ∧ i' = 0) → A2 A k n q da k' i' = A k' i' := fun k' i' h1 h2 => by
    unfold A2
    split
    · split
      · exact absurd ⟨‹_›, ‹_›⟩ h1
      · rfl
    · split
      · split
        · exact absurd ⟨‹_›, ‹_›⟩ h2
        · rfl
      · rfl
  have lL : lv σ k 0 := lv_L (by omega)
  have old : ∀ k' i', lv σ k' i' → ¬ A k' i' = q := fun k' i' hl c => by
    have := R5 _ _ hl
    rw [c, hq] at this
    cases this
  have oldd : ∀ k' i', lv σ k' i' → ¬ (k' = k + 20 ∧ i' = 0) → ¬ A k' i' = da := fun k' i' hl hn' c => by
    rcases hda with ⟨h0, h1⟩ | ⟨⟨e, h1⟩, -⟩
    · rw [h1] at c
      exact hn' (R2 _ _ _ _ hl (lv_D hk (by omega)) c)
    · have := R5 _ _ hl
      rw [c, h1] at this
      cases this
  have dq : ¬ da = q := by
    rcases hda with ⟨h0, h1⟩ | ⟨-, h1, -⟩
    · rw [h1]
      exact old _ _ (lv_D hk (by omega))
    · exact h1
  clear hda
  clear hr
  have qL : ¬ q = A k 0 := fun c => old _ _ lL c.symm
  have dL : ¬ da = A k 0 := fun c => oldd _ _ lL (by omega) c.symm
  have H2 : s2 σ k n m r k 0 0 = n + 1 := by simp [s2]
  refine ⟨fun k' i' hl => ?_, fun k1 i1 k2 i2 h1 h2 hA => ?_, hFe, fun a e ha => ?_, fun k' i' hl => ?_⟩
  · rcases lv_2 hk hn hl with ⟨rfl, rfl⟩ | ⟨rfl, rfl⟩ | ⟨hl, c1, c2⟩
    · rw [e1, hup_n qL, hup_n (fun c => dq c.symm), R4 _ _ hq]
      unfold pk szk
      rw [if_neg (by omega), pkr_A2 hk (by omega) (by omega) (fun h1 h2 => absurd h1 (by omega)) (fun h1 h2 => absurd h2 (by omega))]
      have : s2 σ k i' m r (k + 10) i' = r := by simp [s2]
      rw [this]
    · rw [e2, hup_n dL, hup_s, hD]
      unfold pk szk
      rw [if_pos (show 31 ≤ k + 20 by omega), show k + 20 - 20 = k by omega, H2]
      have e4 : (fun j : Nat => if (j : Int) < (n : Int) + 1 then some (if j = n then q else A (k + 10) j) else none) = (fun j : Nat => if (j : Int) < (n : Int) + 1 then some (A2 A k n q da (k + 10) j) else none) := by
        funext j
        split
        · congr 1
          split
          · rw [‹j = n›, e1]
          · rw [e3 _ _ (by omega) (by omega)]
        · rfl
      rw [e4]
      exact k5 (P := fun x => k = x → some (Sum.inl (3, if (n : Int) + 1 ≤ 10 then 10 else 15, Sum.inr (Sum.inr (Sum.inr (Sum.inr fun j : Nat => if (j : Int) < (n : Int) + 1 then some (A2 A k n q da (x + 10) j) else none))))) = some (pkr (A2 A k n q da) em (s2 σ k n m r (x + 20) 0) (↑n + 1) (x + 20) 0)) (fun _ => rfl) (fun _ => rfl) (fun _ => rfl) (fun _ => rfl) (fun _ => rfl) hk rfl
    · rw [e3 _ _ c1 c2]
      by_cases c : k' = k ∧ i' = 0
      · obtain ⟨rfl, rfl⟩ := c
        rw [hup_s, hL]
        unfold pk szk
        rw [if_neg (by omega)]
        have e5 : s2 σ k' n m r k' 0 = fun f => if f = 0 then (n : Int) + 1 else if f = 1 then m else σ k' 0 f := by simp [s2]
        rw [e5]
        have e6 : da = if (n : Int) + 1 = 0 then em else A2 A k' n q da (k' + 20) 0 := by rw [if_neg (by omega), e2]
        exact k5 (P := fun x => k' = x → some (Sum.inr (4, [iV m, .ref da, iV ((n : Int) + 1)])) = some (pkr (A2 A k' n q da) em (fun f => if f = 0 then (n : Int) + 1 else if f = 1 then m else σ k' 0 f) 0 x 0))
          (fun h => by subst h; show _ = some (Sum.inr (4, [iV m, .ref (if (n : Int) + 1 = 0 then em else A2 A 11 n q da 31 0), iV ((n : Int) + 1)])); rw [← e6]) (fun h => by subst h; show _ = some (Sum.inr (4, [iV m, .ref (if (n : Int) + 1 = 0 then em else A2 A 12 n q da 32 0), iV ((n : Int) + 1)])); rw [← e6]) (fun h => by subst h; show _ = some (Sum.inr (4, [iV m, .ref (if (n : Int) + 1 = 0 then em else A2 A 13 n q da 33 0), iV ((n : Int) + 1)])); rw [← e6]) (fun h => by subst h; show _ = some (Sum.inr (4, [iV m, .ref (if (n : Int) + 1 = 0 then em else A2 A 14 n q da 34 0), iV ((n : Int) + 1)])); rw [← e6]) (fun h => by subst h; show _ = some (Sum.inr (4, [iV m, .ref (if (n : Int) + 1 = 0 then em else A2 A 15 n q da 35 0), iV ((n : Int) + 1)])); rw [← e6]) hk rfl
      · have n1 : ¬ A k' i' = A k 0 := fun q' => c (R2 _ _ _ _ hl lL q')
        rw [hup_n n1, hup_n (oldd _ _ hl c2), R1 _ _ hl]
        have e7 : s2 σ k n m r k' i' = σ k' i' := by
          unfold s2
          rw [if_neg c, if_neg c1]
        have e8 : szk (s2 σ k n m r) k' = szk σ k' := by
          have h35 := lv_35 hl
          unfold szk
          split
          · have c5 : ¬ k' = k + 20 := fun q' => c2 ⟨q', lv_z hl (Or.inr (by omega))⟩
            have : s2 σ k n m r (k' - 20) 0 = σ (k' - 20) 0 := by
              unfold s2
              rw [if_neg (by omega), if_neg (by omega)]
            rw [this]
          · rfl
        have c6 : k' = k → False := fun q' => c ⟨q', lv_z hl (Or.inl (by omega))⟩
        have c7 : k' = k + 20 → False := fun q' => c2 ⟨q', lv_z hl (Or.inr (by omega))⟩
        unfold pk
        rw [e7, e8, pkr_A2 hk c7 c6]
        · rintro rfl rfl
          have := I.1 i' (lv_13 hl)
          clear c c1 c2 c6 c7 hl
          omega
        · rintro c8 rfl j
          have h8 : k' ≤ 15 := by omega
          have i0 : i' = 0 := lv_z hl (Or.inl h8)
          subst i0
          have := I.2 j
          rcases c8 with rfl | rfl <;> omega
  · have B1 := lv_2 hk hn h1
    have B2 := lv_2 hk hn h2
    rcases B1 with ⟨rfl, rfl⟩ | ⟨rfl, rfl⟩ | ⟨l1, c1, d1⟩ <;> rcases B2 with ⟨rfl, rfl⟩ | ⟨rfl, rfl⟩ | ⟨l2, c2, d2⟩
    · exact ⟨rfl, rfl⟩
    · rw [e1, e2] at hA
      exact absurd hA.symm dq
    · rw [e1, e3 _ _ c2 d2] at hA
      exact absurd hA.symm (old _ _ l2)
    · rw [e1, e2] at hA
      exact absurd hA dq
    · exact ⟨rfl, rfl⟩
    · rw [e2, e3 _ _ c2 d2] at hA
      exact absurd hA.symm (oldd _ _ l2 d2)
    · rw [e1, e3 _ _ c1 d1] at hA
      exact absurd hA (old _ _ l1)
    · rw [e2, e3 _ _ c1 d1] at hA
      exact absurd hA (oldd _ _ l1 d1)
    · rw [e3 _ _ c1 d1, e3 _ _ c2 d2] at hA
      exact R2 _ _ _ _ l1 l2 hA
  · have a1 : ¬ a = da := by
      rintro rfl
      rw [hFd] at ha
      cases ha
    have a2 : ¬ a = A k 0 := by
      rintro rfl
      have := hF _ _ ha
      rw [R5 _ _ lL] at this
      cases this
    rw [hup_n a2, hup_n a1]
    exact R4 _ _ (hF _ _ ha)
  · rcases lv_2 hk hn hl with ⟨rfl, rfl⟩ | ⟨rfl, rfl⟩ | ⟨hl, c1, c2⟩
    · rw [e1, hFq]
    · rw [e2, hFd]
    · rw [e3 _ _ c1 c2]
      cases c : F (A k' i') with
      | none => rfl
      | some e =>
        have := hF _ _ c
        rw [R5 _ _ hl] at this
        cases this
end ListsS
