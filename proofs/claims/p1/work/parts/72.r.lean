/-! THE REFERENCE'S LISTS: get, add over the roles -/
section ListsM
variable {em mi ic : Nat} {σ : ST} {x : Nat → Int} {B : AD} {G h : AH}
def xu (x : Nat → Int) (k : Nat) (v : Int) : Nat → Int := fun j => if j = k then v else x j
theorem xu_s (x : Nat → Int) (k : Nat) (v : Int) : xu x k v k = v := if_pos rfl
theorem xu_n {x : Nat → Int} {k j : Nat} {v : Int} (h : ¬ j = k) : xu x k v j = x j := if_neg h
theorem getM {d k i : Nat} {Q : RS → AH → Prop} (hd : 3 ≤ d) (R : Rm σ x B em G h) (hk : 11 ≤ k ∧ k ≤ 15) (hi : (i : Int) < σ k 0 0) (hs : σ k 0 0 ≤ 15) (hQ : Q (.inl (some (.ref (B (k + 10) i)))) h) : cal (DD em mi ic) d 73 [.ref (B k 0), .int (Int32.ofInt i)] h Q := by
  have H := rm_L R hk
  rw [if_neg (by omega), show iV (σ k 0 0) = .int (Int32.ofInt ((σ k 0 0).toNat : Int)) by rw [Int.toNat_of_nonneg (by omega)]] at H
  refine get_ok hd H (rm_D R hk (by omega)) (Or.inr rfl) (by omega) (by omega) (by split <;> omega) ?_
  rw [if_pos hi]
  exact hQ
theorem getMz {d k : Nat} {z : Int} {Q : RS → AH → Prop} (hd : 3 ≤ d) (R : Rm σ x B em G h) (hk : 11 ≤ k ∧ k ≤ 15) (h0 : 0 ≤ z) (hi : z < σ k 0 0) (hs : σ k 0 0 ≤ 15) (hQ : Q (.inl (some (.ref (B (k + 10) z.toNat)))) h) : cal (DD em mi ic) d 73 [.ref (B k 0), .int (Int32.ofInt z)] h Q := by
  have := getM (em := em) (mi := mi) (ic := ic) (i := z.toNat) hd R hk (by omega) hs hQ
  rw [Int.toNat_of_nonneg h0] at this
  exact this
theorem getM11 {d i : Nat} {Q : RS → AH → Prop} (hd : 3 ≤ d) (R : Rm σ x B em G h) (hi : (i : Int) < σ 11 0 0) (hs : σ 11 0 0 ≤ 15) (hQ : Q (.inl (some (.ref (B 21 i)))) h) : cal (DD em mi ic) d 73 [.ref (B 11 0), .int (Int32.ofInt i)] h Q := getM hd R (by omega) hi hs hQ
theorem getM12 {d i : Nat} {Q : RS → AH → Prop} (hd : 3 ≤ d) (R : Rm σ x B em G h) (hi : (i : Int) < σ 12 0 0) (hs : σ 12 0 0 ≤ 15) (hQ : Q (.inl (some (.ref (B 22 i)))) h) : cal (DD em mi ic) d 73 [.ref (B 12 0), .int (Int32.ofInt i)] h Q := getM hd R (by omega) hi hs hQ
theorem getM13 {d i : Nat} {Q : RS → AH → Prop} (hd : 3 ≤ d) (R : Rm σ x B em G h) (hi : (i : Int) < σ 13 0 0) (hs : σ 13 0 0 ≤ 15) (hQ : Q (.inl (some (.ref (B 23 i)))) h) : cal (DD em mi ic) d 73 [.ref (B 13 0), .int (Int32.ofInt i)] h Q := getM hd R (by omega) hi hs hQ
theorem getM14 {d i : Nat} {Q : RS → AH → Prop} (hd : 3 ≤ d) (R : Rm σ x B em G h) (hi : (i : Int) < σ 14 0 0) (hs : σ 14 0 0 ≤ 15) (hQ : Q (.inl (some (.ref (B 24 i)))) h) : cal (DD em mi ic) d 73 [.ref (B 14 0), .int (Int32.ofInt i)] h Q := getM hd R (by omega) hi hs hQ
theorem getM15 {d i : Nat} {Q : RS → AH → Prop} (hd : 3 ≤ d) (R : Rm σ x B em G h) (hi : (i : Int) < σ 15 0 0) (hs : σ 15 0 0 ≤ 15) (hQ : Q (.inl (some (.ref (B 25 i)))) h) : cal (DD em mi ic) d 73 [.ref (B 15 0), .int (Int32.ofInt i)] h Q := getM hd R (by omega) hi hs hQ
theorem getMz11 {d : Nat} {z : Int} {Q : RS → AH → Prop} (hd : 3 ≤ d) (R : Rm σ x B em G h) (h0 : 0 ≤ z) (hi : z < σ 11 0 0) (hs : σ 11 0 0 ≤ 15) (hQ : Q (.inl (some (.ref (B 21 z.toNat)))) h) : cal (DD em mi ic) d 73 [.ref (B 11 0), .int (Int32.ofInt z)] h Q := getMz hd R (by omega) h0 hi hs hQ
theorem getMz12 {d : Nat} {z : Int} {Q : RS → AH → Prop} (hd : 3 ≤ d) (R : Rm σ x B em G h) (h0 : 0 ≤ z) (hi : z < σ 12 0 0) (hs : σ 12 0 0 ≤ 15) (hQ : Q (.inl (some (.ref (B 22 z.toNat)))) h) : cal (DD em mi ic) d 73 [.ref (B 12 0), .int (Int32.ofInt z)] h Q := getMz hd R (by omega) h0 hi hs hQ
theorem getMz13 {d : Nat} {z : Int} {Q : RS → AH → Prop} (hd : 3 ≤ d) (R : Rm σ x B em G h) (h0 : 0 ≤ z) (hi : z < σ 13 0 0) (hs : σ 13 0 0 ≤ 15) (hQ : Q (.inl (some (.ref (B 23 z.toNat)))) h) : cal (DD em mi ic) d 73 [.ref (B 13 0), .int (Int32.ofInt z)] h Q := getMz hd R (by omega) h0 hi hs hQ
theorem getMz14 {d : Nat} {z : Int} {Q : RS → AH → Prop} (hd : 3 ≤ d) (R : Rm σ x B em G h) (h0 : 0 ≤ z) (hi : z < σ 14 0 0) (hs : σ 14 0 0 ≤ 15) (hQ : Q (.inl (some (.ref (B 24 z.toNat)))) h) : cal (DD em mi ic) d 73 [.ref (B 14 0), .int (Int32.ofInt z)] h Q := getMz hd R (by omega) h0 hi hs hQ
theorem castS_a (D : TB) (j c : Nat) (g) : castS D j (some (.inl (0, c, g))) = (D.2.2.2.2.2.1 j 0 = true) := propext ⟨fun h => by
  rcases h with h | h
  · exact absurd h.1 (by omega)
  · exact h.2, fun h => Or.inr ⟨by omega, h⟩⟩
theorem castS_o (D : TB) (j c : Nat) (g) : castS D j (some (.inl (11, c, g))) = (D.2.2.2.2.1 j c = true) := propext ⟨fun h => by
  rcases h with h | h
  · exact h.2
  · exact absurd rfl h.1, fun h => Or.inl ⟨rfl, h⟩⟩
theorem cai_ : ((DD em mi ic).2.2.2.2.2.1 100 0 = true) = True := eq_true rfl
theorem a2_o {k n q da k' i' : Nat} (h1 : ¬ (k' = k + 10 ∧ i' = n)) (h2 : ¬ (k' = k + 20 ∧ i' = 0)) : A2 B k n q da k' i' = B k' i' := by
  unfold A2
  split
  · split
    · exact absurd ⟨‹_›, ‹_›⟩ h1
    · rfl
  · split
    · split
      · exact absurd ⟨‹_›, ‹_›⟩ h2
      · rfl
    · rfl
theorem s2_p {k n : Nat} {m : Int} {r : Nat → Int} {k' i' : Nat} (h1 : ¬ (k' = k ∧ i' = 0)) (h2 : ¬ (k' = k + 10 ∧ i' = n)) : s2 σ k n m r k' i' = σ k' i' := by
  unfold s2
  rw [if_neg h1, if_neg h2]
theorem pkm_2 {k n q da : Nat} {m v : Int} {r : Nat → Int} (hk : 11 ≤ k ∧ k ≤ 15) {k' i' : Nat} (hl : vm σ k' i') (c1 : ¬ k' = k) (c2 : ¬ k' = k + 20) (c3 : ¬ (k' = k + 10 ∧ i' = n)) : pkm (A2 B k n q da) em (s2 σ k n m r) (xu x k v) k' i' = pkm B em σ x k' i' := by
  unfold vm at hl
  rcases hl with hl | hl | hl | hl
  · rw [hl.1, pkm_0, pkm_0]
    unfold mdC
    rw [a2_o (by omega) (by omega), a2_o (by omega) (by omega), a2_o (by omega) (by omega), a2_o (by omega) (by omega), a2_o (by omega) (by omega), s2_p (by omega) (by omega), s2_p (by omega) (by omega), s2_p (by omega) (by omega), s2_p (by omega) (by omega), xu_n (by omega), xu_n (by omega), xu_n (by omega), xu_n (by omega)]
  · rw [pkm_L ⟨hl.1, hl.2.1⟩, pkm_L ⟨hl.1, hl.2.1⟩]
    unfold lsM
    rw [s2_p (by omega) (by omega), xu_n c1, a2_o (by omega) (by omega)]
  · rw [pkm_E ⟨hl.1, hl.2.1⟩, pkm_E ⟨hl.1, hl.2.1⟩]
    have E : s2 σ k n m r k' i' = σ k' i' := s2_p (by omega) c3
    have : k' = 21 ∨ k' = 22 ∨ k' = 23 ∨ k' = 24 := by omega
    rcases this with rfl | rfl | rfl | rfl <;> simp only [elM, E]
  · rw [pkm_D ⟨hl.1, hl.2.1⟩, pkm_D ⟨hl.1, hl.2.1⟩]
    unfold roM
    rw [s2_p (by omega) (by omega)]
    have E : ∀ j, A2 B k n q da (k' - 20 + 10) j = B (k' - 20 + 10) j := fun j => a2_o (by omega) (by omega)
    simp only [E]
theorem vm_2 {k n : Nat} {m : Int} {r : Nat → Int} (hk : 11 ≤ k ∧ k ≤ 15) (hn : σ k 0 0 = n) {k' i' : Nat} (h : vm (s2 σ k n m r) k' i') : (k' = k + 10 ∧ i' = n ∧ k ≤ 14) ∨ (k' = k + 20 ∧ i' = 0) ∨ (vm σ k' i' ∧ ¬ (k' = k + 10 ∧ i' = n) ∧ ¬ (k' = k + 20 ∧ i' = 0)) := by
  have H2 : s2 σ k n m r k 0 0 = n + 1 := by simp [s2]
  by_cases c1 : k' = k + 10 ∧ i' = n
  · by_cases c : k ≤ 14
    · exact Or.inl ⟨c1.1, c1.2, c⟩
    · unfold vm at h
      omega
  by_cases c2 : k' = k + 20 ∧ i' = 0
  · exact Or.inr (Or.inl c2)
  refine Or.inr (Or.inr ⟨?_, c1, c2⟩)
  rcases h with h | h | h | h
  · exact Or.inl h
  · exact Or.inr (Or.inl h)
  · refine Or.inr (Or.inr (Or.inl ⟨h.1, h.2.1, ?_⟩))
    have h3 := h.2.2
    by_cases c : k' = k + 10
    · rw [c, show k + 10 - 10 = k by omega] at h3 ⊢
      rw [H2] at h3
      omega
    · rw [s2_p (by omega) (by omega)] at h3
      exact h3
  · refine Or.inr (Or.inr (Or.inr ⟨h.1, h.2.1, h.2.2.1, ?_⟩))
    have h3 := h.2.2.2
    rw [s2_p (by omega) (by omega)] at h3
    exact h3
theorem rm_add {G' : AH} {k n q da : Nat} {r : Nat → Int} {D L : AE} (R : Rm σ x B em G' h) (hk : 11 ≤ k ∧ k ≤ 15) (hn : σ k 0 0 = n) (hn2 : n < 15)
    (hq : (k ≤ 14 ∧ G' q = some (elM (s2 σ k n 0 r) (k + 10) n) ∧ G q = none) ∨ (k = 15 ∧ inC (h q) (r 0))) (hqe : ¬ em = q)
    (hda : (0 < n ∧ da = B (k + 20) 0) ∨ (∃ e, G' da = some e)) (hdq : ¬ da = q) (hdi : ∀ z, ¬ inC (h da) z) (hGG : ∀ a e, G a = some e → G' a = some e) (hFe : G em = some emR) (hFd : G da = none)
    (hD : D = .inl (3, if (n : Int) + 1 ≤ 10 then 10 else 15, .inr (.inr (.inr (.inr fun j => if (j : Int) < (n : Int) + 1 then some (if j = n then q else B (k + 10) j) else none))))) (hL : L = .inr (4, [iV (x k + 1), .ref da, iV ((n : Int) + 1)])) :
    Rm (s2 σ k n 0 r) (xu x k (x k + 1)) (A2 B k n q da) em G (hup (hup h da D) (B k 0) L) := by
  have e1 : A2 B k n q da (k + 10) n = q := by simp [A2]
  have e2 : A2 B k n q da (k + 20) 0 = da := by simp [A2]
  have lL : vm σ k 0 := vm_L hk
  have H2 : s2 σ k n 0 r k 0 0 = n + 1 := by simp [s2]
  have oldq : ∀ k' i', vm σ k' i' → ¬ B k' i' = q := fun k' i' hl c => by
    rcases hq with ⟨-, hq, -⟩ | ⟨-, hq⟩
    · exact rm_ne R hl hq c.symm
    · rw [← c, R.1 _ _ hl] at hq
      exact pkm_i hl hq
  have oldd : ∀ k' i', vm σ k' i' → ¬ (k' = k + 20 ∧ i' = 0) → ¬ B k' i' = da := fun k' i' hl hn' c => by
    rcases hda with ⟨h0, h1⟩ | ⟨e, h1⟩
    · rw [h1] at c
      exact hn' (R.2.1 _ _ _ _ hl (vm_D hk (by omega)) c)
    · exact rm_ne R hl h1 c.symm
  have qL : ¬ q = B k 0 := fun c => oldq _ _ lL c.symm
  have dL : ¬ da = B k 0 := fun c => oldd _ _ lL (by omega) c.symm
  refine ⟨fun k' i' hl => ?_, fun k1 i1 k2 i2 h1 h2 hA => ?_, hFe, fun a e ha => ?_, fun k' i' hl => ?_, fun i hi => ?_⟩
  · rcases vm_2 hk hn hl with ⟨rfl, rfl, c14⟩ | ⟨rfl, rfl⟩ | ⟨hl, c1, c2⟩
    · rcases hq with ⟨-, hq, -⟩ | ⟨c, -⟩
      · rw [e1, hup_n qL, hup_n (fun c => hdq c.symm), rm_G R hq, pkm_E (by omega)]
      · omega
    · rw [e2, hup_n dL, hup_s, hD, pkm_D (by omega), show k + 20 - 20 = k by omega]
      unfold roM
      rw [H2]
      have e4 : (fun j : Nat => if (j : Int) < (n : Int) + 1 then some (if j = n then q else B (k + 10) j) else none) = (fun j : Nat => if (j : Int) < (n : Int) + 1 then some (A2 B k n q da (k + 10) j) else none) := by
        funext j
        split
        · congr 1
          split
          · rw [‹j = n›, e1]
          · rw [a2_o (by omega) (by omega)]
        · rfl
      rw [e4]
    · rw [a2_o c1 c2]
      by_cases c : k' = k
      · subst c
        have i0 : i' = 0 := by unfold vm at hl; omega
        subst i0
        rw [hup_s, hL, pkm_L hk]
        unfold lsM
        rw [xu_s, H2, if_neg (show ¬ (n : Int) + 1 = 0 by omega), e2]
      · have n1 : ¬ B k' i' = B k 0 := fun q' => c (R.2.1 _ _ _ _ hl lL q').1
        have c2' : ¬ k' = k + 20 := fun q' => c2 ⟨q', by unfold vm at hl; omega⟩
        rw [hup_n n1, hup_n (oldd _ _ hl c2), R.1 _ _ hl, pkm_2 hk hl c c2' c1]
  · have B1 := vm_2 hk hn h1
    have B2 := vm_2 hk hn h2
    rcases B1 with ⟨rfl, rfl, -⟩ | ⟨rfl, rfl⟩ | ⟨l1, c1, d1⟩ <;> rcases B2 with ⟨rfl, rfl, -⟩ | ⟨rfl, rfl⟩ | ⟨l2, c2, d2⟩
    · exact ⟨rfl, rfl⟩
    · rw [e1, e2] at hA
      exact absurd hA.symm hdq
    · rw [e1, a2_o c2 d2] at hA
      exact absurd hA.symm (oldq _ _ l2)
    · rw [e1, e2] at hA
      exact absurd hA hdq
    · exact ⟨rfl, rfl⟩
    · rw [e2, a2_o c2 d2] at hA
      exact absurd hA.symm (oldd _ _ l2 d2)
    · rw [e1, a2_o c1 d1] at hA
      exact absurd hA (oldq _ _ l1)
    · rw [e2, a2_o c1 d1] at hA
      exact absurd hA (oldd _ _ l1 d1)
    · rw [a2_o c1 d1, a2_o c2 d2] at hA
      exact R.2.1 _ _ _ _ l1 l2 hA
  · have a1 : ¬ a = da := by
      rintro rfl
      rw [hFd] at ha
      cases ha
    rw [hup_n (rm_ne R lL (hGG _ _ ha)), hup_n a1]
    exact rm_G R (hGG _ _ ha)
  · rcases vm_2 hk hn hl with ⟨rfl, rfl, c14⟩ | ⟨rfl, rfl⟩ | ⟨hl, c1, c2⟩
    · rcases hq with ⟨-, -, hq⟩ | ⟨c, -⟩
      · rw [e1, hq]
      · omega
    · rw [e2, hFd]
    · rw [a2_o c1 c2]
      cases c : G (B k' i') with
      | none => rfl
      | some e =>
        have := hGG _ _ c
        rw [R.2.2.2.2.1 _ _ hl] at this
        cases this
  · have old : ∀ i : Nat, (i : Int) < σ 15 0 0 → inC (hup (hup h da D) (B k 0) L (B 25 i)) (σ 25 i 0) := fun i hi => by
      have := rm_25 R hi
      rw [hup_n (rm_25n R lL hi), hup_n]
      · exact this
      · intro c
        rw [c] at this
        exact hdi _ this
    by_cases c : k = 15
    · subst c
      rw [H2] at hi
      by_cases ci : i = n
      · subst ci
        have e5 : s2 σ 15 i 0 r 25 i = r := by simp [s2]
        have e6 : A2 B 15 i q da 25 i = q := e1
        rcases hq with ⟨c, -⟩ | ⟨-, hq⟩
        · omega
        · rw [e5, e6, hup_n qL, hup_n (fun c => hdq c.symm)]
          exact hq
      · rw [s2_p (by omega) (by omega), a2_o (by omega) (by omega)]
        exact old i (by omega)
    · rw [s2_p (by omega) (by omega)] at hi
      rw [s2_p (by omega) (by omega), a2_o (by omega) (by omega)]
      exact old i hi
end ListsM
