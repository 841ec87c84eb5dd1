/-! THEORY: what the asking comes to is stable -/
section Deferred
variable {σ : ST}
theorem cnt_ch {p q : Nat → Bool} {n i : Nat} (hi : i < n) (h : ∀ j, j < n → j ≠ i → p j = q j) : cnt q n = cnt p n - b2 (p i) + b2 (q i) := by
  induction n with
  | zero => omega
  | succ n ih =>
    simp only [cnt]
    by_cases c : i = n
    · subst c
      rw [cnt_e (n := i) fun j hj => h j (by omega) (by omega)]
      omega
    · rw [ih (by omega) fun j hj hn => h j (by omega) hn, h n (by omega) (by omega)]
      omega
def cn (μ : Nat → Int) (n l : Nat) : Int := cnt (fun i => decide (μ i = l)) n
def mu1 (μ : Nat → Int) (i : Nat) (z : Int) : Nat → Int := fun j => if j = i then z else μ j
theorem cn_1 {μ : Nat → Int} {n i : Nat} (hi : i < n) (z : Int) (l : Nat) : cn (mu1 μ i z) n l = cn μ n l - b2 (decide (μ i = l)) + b2 (decide (z = l)) := by
  unfold cn
  rw [cnt_ch (p := fun j => decide (μ j = l)) hi fun j _ hn => by simp [mu1, hn]]
  simp [mu1]
def DA (σ : ST) (μ : Nat → Int) (hk : Nat → Nat → Bool) : Prop :=
  (∀ i, 0 ≤ μ i → i < nh σ ∧ σ 23 i 3 = 1) ∧ (∀ i, -1 ≤ μ i ∧ μ i < nl σ) ∧ (∀ l : Nat, l < nl σ → cn μ (nh σ) l ≤ σ 22 l 1) ∧
  (∀ i, i < nh σ → 0 ≤ μ i → hk i (μ i).toNat = true) ∧
  (∀ i, i < nh σ → ∀ l : Nat, l < nl σ → hk i l = true → μ i ≠ l → σ 22 l 1 ≤ cn μ (nh σ) l ∧ ∀ j, j < nh σ → μ j = l → wth σ i < wth σ j) ∧
  (∀ i, i < nh σ → ∀ l l' : Nat, l < nl σ → l' < nl σ → hk i l = true → wr σ i l' l = true → hk i l' = true)
def hk1 (hk : Nat → Nat → Bool) (i l : Nat) : Nat → Nat → Bool := fun i' l' => hk i' l' || (decide (i' = i) && decide (l' = l))
theorem hk1_i {hk : Nat → Nat → Bool} {i l i' l' : Nat} (h : hk1 hk i l i' l' = true) : hk i' l' = true ∨ (i' = i ∧ l' = l) := by
  simpa [hk1] using h
theorem hk1_s (hk : Nat → Nat → Bool) (i l : Nat) : hk1 hk i l i l = true := by simp [hk1]
theorem hk1_o {hk : Nat → Nat → Bool} {i l i' l' : Nat} (h : hk i' l' = true) : hk1 hk i l i' l' = true := by simp [hk1, h]
theorem da_4 {μ : Nat → Int} {hk : Nat → Nat → Bool} {i l : Nat} (hf : ∀ l' : Nat, l' < nl σ → wr σ i l' l = true → hk i l' = true) (D4 : ∀ i, i < nh σ → ∀ l l' : Nat, l < nl σ → l' < nl σ → hk i l = true → wr σ i l' l = true → hk i l' = true) :
    ∀ i', i' < nh σ → ∀ l1 l' : Nat, l1 < nl σ → l' < nl σ → hk1 hk i l i' l1 = true → wr σ i' l' l1 = true → hk1 hk i l i' l' = true := fun i' hi' l1 l' h1 h2 h3 h4 => by
  rcases hk1_i h3 with h | ⟨rfl, rfl⟩
  · exact hk1_o (D4 i' hi' l1 l' h1 h2 h h4)
  · exact hk1_o (hf l' h2 h4)
/-- a room is empty -/
theorem da_A {μ : Nat → Int} {hk : Nat → Nat → Bool} {i l : Nat} (H : DA σ μ hk) (hi : i < nh σ) (hs : σ 23 i 3 = 1) (hl : l < nl σ) (hm : μ i < 0) (hf : ∀ l' : Nat, l' < nl σ → wr σ i l' l = true → hk i l' = true) (hr : cn μ (nh σ) l < σ 22 l 1) : DA σ (mu1 μ i l) (hk1 hk i l) := by
  obtain ⟨D0, DB, D1, D2, D3, D4⟩ := H
  have c0 : ∀ l' : Nat, decide (μ i = (l' : Int)) = false := fun l' => by rw [decide_eq_false_iff_not]; omega
  have hc : ∀ l' : Nat, cn (mu1 μ i l) (nh σ) l' = cn μ (nh σ) l' + b2 (decide ((l : Int) = l')) := fun l' => by
    rw [cn_1 hi, c0, b2_f]
    omega
  refine ⟨fun i' h => ?_, fun i' => ?_, fun l' hl' => ?_, fun i' hi' h => ?_, fun i' hi' l' hl' h hn => ?_, da_4 (μ := μ) hf D4⟩
  · unfold mu1 at h
    split at h
    · rename_i q
      rw [q]
      exact ⟨hi, hs⟩
    · exact D0 i' h
  · have := DB i'
    unfold mu1
    split <;> omega
  · rw [hc]
    have := D1 l' hl'
    by_cases c : l = l'
    · subst c
      have := b2_01 (decide ((l : Int) = l))
      omega
    · rw [decide_eq_false (by omega), b2_f]
      omega
  · unfold mu1 at h ⊢
    split
    · rename_i q
      rw [q, Int.toNat_natCast]
      exact hk1_s _ _ _
    · rename_i q
      rw [if_neg q] at h
      exact hk1_o (D2 i' hi' h)
  · rcases hk1_i h with h | ⟨rfl, rfl⟩
    · have hn2 : μ i' ≠ l' := by
        unfold mu1 at hn
        split at hn
        · rename_i q
          rw [q]
          omega
        · exact hn
      have h3 := D3 i' hi' l' hl' h hn2
      have hll : l ≠ l' := by
        rintro rfl
        omega
      refine ⟨?_, fun j hj e => h3.2 j hj ?_⟩
      · rw [hc, decide_eq_false (by omega), b2_f]
        omega
      · unfold mu1 at e
        split at e
        · omega
        · exact e
    · exfalso
      unfold mu1 at hn
      rw [if_pos rfl] at hn
      exact hn rfl
/-- it is full, and stays as it is -/
theorem da_B {μ : Nat → Int} {hk : Nat → Nat → Bool} {i l : Nat} (H : DA σ μ hk) (hf : ∀ l' : Nat, l' < nl σ → wr σ i l' l = true → hk i l' = true) (hr : σ 22 l 1 ≤ cn μ (nh σ) l) (hw : ∀ j, j < nh σ → μ j = l → wth σ i < wth σ j) : DA σ μ (hk1 hk i l) := by
  obtain ⟨D0, DB, D1, D2, D3, D4⟩ := H
  refine ⟨D0, DB, D1, fun i' hi' h => hk1_o (D2 i' hi' h), fun i' hi' l' hl' h hn => ?_, da_4 (μ := μ) hf D4⟩
  rcases hk1_i h with h | ⟨rfl, rfl⟩
  · exact D3 i' hi' l' hl' h hn
  · exact ⟨hr, hw⟩
/-- it is full, and takes it in place of another -/
theorem da_C {μ : Nat → Int} {hk : Nat → Nat → Bool} {i l e : Nat} (H : DA σ μ hk) (hi : i < nh σ) (hs : σ 23 i 3 = 1) (hl : l < nl σ) (hm : μ i < 0) (hf : ∀ l' : Nat, l' < nl σ → wr σ i l' l = true → hk i l' = true) (hr : σ 22 l 1 ≤ cn μ (nh σ) l) (he : e < nh σ) (hel : μ e = l) (hei : wth σ e < wth σ i) (hmin : ∀ j, j < nh σ → μ j = l → j ≠ e → wth σ e < wth σ j) : DA σ (mu1 (mu1 μ e (-1)) i l) (hk1 hk i l) := by
  obtain ⟨D0, DB, D1, D2, D3, D4⟩ := H
  have ie : i ≠ e := by
    rintro rfl
    omega
  have m1 : ∀ j, mu1 (mu1 μ e (-1)) i l j = if j = i then (l : Int) else if j = e then -1 else μ j := fun j => rfl
  have hc : ∀ l' : Nat, cn (mu1 (mu1 μ e (-1)) i l) (nh σ) l' = cn μ (nh σ) l' := fun l' => by
    rw [cn_1 hi, cn_1 he]
    have e1 : mu1 μ e (-1) i = μ i := by unfold mu1; rw [if_neg ie]
    rw [e1, hel, decide_eq_false (show ¬ μ i = (l' : Int) by omega), decide_eq_false (show ¬ (-1 : Int) = (l' : Int) by omega), b2_f]
    omega
  refine ⟨fun i' h => ?_, fun i' => ?_, fun l' hl' => ?_, fun i' hi' h => ?_, fun i' hi' l' hl' h hn => ?_, da_4 (μ := μ) hf D4⟩
  · rw [m1] at h
    split at h
    · rename_i q
      rw [q]
      exact ⟨hi, hs⟩
    · split at h
      · omega
      · exact D0 i' h
  · have := DB i'
    rw [m1]
    split
    · omega
    · split <;> omega
  · rw [hc]
    exact D1 l' hl'
  · rw [m1] at h ⊢
    split
    · rename_i q
      rw [q, Int.toNat_natCast]
      exact hk1_s _ _ _
    · rename_i q
      rw [if_neg q] at h
      split at h
      · omega
      · rename_i q2
        rw [if_neg q2]
        exact hk1_o (D2 i' hi' h)
  · rw [hc]
    have back : ∀ j, mu1 (mu1 μ e (-1)) i l j = l' → (j = i ∧ l = l') ∨ (j ≠ e ∧ μ j = l') := fun j ej => by
      rw [m1] at ej
      split at ej
      · left
        exact ⟨‹_›, by omega⟩
      · split at ej
        · omega
        · exact Or.inr ⟨‹_›, ej⟩
    rcases hk1_i h with h | ⟨rfl, rfl⟩
    · by_cases c : μ i' = l'
      · have : i' = e := by
          rw [m1] at hn
          split at hn
          · rename_i q
            rw [q] at c
            omega
          · split at hn
            · assumption
            · exact absurd c hn
        subst this
        have ll : l = l' := by omega
        subst ll
        refine ⟨hr, fun j hj ej => ?_⟩
        rcases back j ej with ⟨rfl, -⟩ | ⟨h1, h2⟩
        · exact hei
        · exact hmin j hj h2 h1
      · have h3 := D3 i' hi' l' hl' h c
        refine ⟨h3.1, fun j hj ej => ?_⟩
        rcases back j ej with ⟨rfl, rfl⟩ | ⟨h1, h2⟩
        · have := h3.2 e he hel
          omega
        · exact h3.2 j hj h2
    · exfalso
      rw [m1, if_pos rfl] at hn
      exact hn rfl
theorem da_0 (I : Iv σ) : DA σ (fun _ => -1) (fun _ _ => false) := by
  have hz := iv_z I
  have hn := nl_e I
  have c0 : ∀ n (l : Nat), cnt (fun _ => decide ((-1 : Int) = l)) n = 0 := fun n l => by
    induction n with
    | zero => rfl
    | succ n ih =>
      simp only [cnt]
      rw [ih, decide_eq_false (by omega), b2_f]
      rfl
  refine ⟨fun i h => absurd (show (0 : Int) ≤ -1 from h) (by omega), fun i => ⟨show (-1 : Int) ≤ -1 by omega, show (-1 : Int) < nl σ by omega⟩, fun l hl => ?_, fun i _ h => absurd (show (0 : Int) ≤ -1 from h) (by omega), fun i _ l _ h => by simp at h, fun i _ l l' _ _ h => by simp at h⟩
  have := iv_ha I (i := l) (by omega)
  unfold cn
  rw [c0]
  omega
theorem fav_p (σ : ST) (i : Nat) : ∀ m : Nat, (fav σ i m < 0 → ∀ l, l < m → hask σ i l = true) ∧ (0 ≤ fav σ i m → hask σ i (fav σ i m).toNat = false ∧ ∀ l : Nat, l < m → wr σ i l (fav σ i m) = true → hask σ i l = true)
  | 0 => ⟨fun _ l hl => by omega, fun h => by simp [fav] at h⟩
  | m + 1 => by
    have ih := fav_p σ i m
    have hb := fav_b σ i m
    have wm : fav σ i m < 0 → wr σ i m (fav σ i m) = true := fun h => by
      unfold wr
      rw [if_neg (by omega), if_pos h]
    simp only [fav]
    split
    · rename_i c
      refine ⟨fun h => by omega, fun _ => ⟨by rw [Int.toNat_natCast]; exact c.1, fun l hl hw => ?_⟩⟩
      by_cases q : l = m
      · rw [q, wr_i] at hw
        cases hw
      · by_cases q2 : fav σ i m < 0
        · exact ih.1 q2 l (by omega)
        · exact (ih.2 (by omega)).2 l (by omega) (wr_tr hw c.2)
    · rename_i c
      have hm : wr σ i m (fav σ i m) = true → hask σ i m = true := fun hw => by
        cases q : hask σ i m with
        | true => rfl
        | false => exact absurd ⟨q, hw⟩ c
      refine ⟨fun h l hl => ?_, fun h => ⟨(ih.2 h).1, fun l hl hw => ?_⟩⟩
      · by_cases q : l = m
        · rw [q]
          exact hm (wm h)
        · exact ih.1 h l (by omega)
      · by_cases q : l = m
        · rw [q] at hw ⊢
          exact hm hw
        · exact (ih.2 h).2 l (by omega) hw
theorem lst_p (I : Iv σ) (q l : Nat) : ∀ m : Nat, m ≤ nh σ → (lst σ q l m < 0 → ∀ j, j < m → σ q 0 j ≠ l) ∧ (0 ≤ lst σ q l m → σ q 0 (lst σ q l m).toNat = l ∧ ∀ j, j < m → σ q 0 j = l → j ≠ (lst σ q l m).toNat → wth σ (lst σ q l m).toNat < wth σ j)
  | 0, _ => ⟨fun _ j hj => by omega, fun h => by simp [lst] at h⟩
  | m + 1, hm => by
    have ih := lst_p I q l m (by omega)
    have hb := lst_b σ q l m
    simp only [lst]
    split
    · rename_i c
      refine ⟨fun h => by omega, fun _ => ⟨by rw [Int.toNat_natCast]; exact c.1, fun j hj e hn => ?_⟩⟩
      rw [Int.toNat_natCast] at hn ⊢
      by_cases q2 : lst σ q l m < 0
      · exact absurd e (ih.1 q2 j (by omega))
      · have hg : gb σ (lst σ q l m).toNat m = true := by
          rcases c.2 with h | h
          · omega
          · exact h
        rw [gb_w I (by omega) (by omega), decide_eq_true_eq] at hg
        by_cases q3 : j = (lst σ q l m).toNat
        · rw [q3]
          exact hg
        · have := (ih.2 (by omega)).2 j (by omega) e q3
          omega
    · rename_i c
      refine ⟨fun h j hj => ?_, fun h => ⟨(ih.2 h).1, fun j hj e hn => ?_⟩⟩
      · by_cases q2 : j = m
        · rw [q2]
          exact fun e => c ⟨e, Or.inl h⟩
        · exact ih.1 h j (by omega)
      · by_cases q2 : j = m
        · subst q2
          have hg : gb σ (lst σ q l j).toNat j = false := by
            cases c2 : gb σ (lst σ q l j).toNat j with
            | false => rfl
            | true => exact absurd ⟨e, Or.inr c2⟩ c
          rw [gb_w I (by omega) (by omega), decide_eq_false_iff_not] at hg
          have : wth σ (lst σ q l j).toNat ≠ wth σ j := fun w => hn (wth_i I (by omega) (by omega) w).symm
          omega
        · exact (ih.2 h).2 j (by omega) e hn
end Deferred
