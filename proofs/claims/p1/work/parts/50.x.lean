/-! THEORY: placings: all halls judge alike, so there is one that is stable -/
section Stable
variable {σ : ST}
def wth (σ : ST) (i : Nat) : Int := 1000 * σ 23 i 2 + 10 * σ 23 i 1 - i
theorem gb_w (I : Iv σ) {i j : Nat} (hi : i < nh σ) (hj : j < nh σ) : gb σ i j = decide (wth σ j < wth σ i) := by
  have hn := nh_e I
  have hz := iv_z I
  have h1 := iv_hh I (i := i) (by omega)
  have h2 := iv_hh I (i := j) (by omega)
  unfold gb wth
  split
  · split
    · apply decide_eq_decide.mpr; omega
    · apply decide_eq_decide.mpr; omega
  · apply decide_eq_decide.mpr; omega
theorem wth_i (I : Iv σ) {i j : Nat} (hi : i < nh σ) (hj : j < nh σ) (e : wth σ i = wth σ j) : i = j := by
  have hn := nh_e I
  have hz := iv_z I
  have h1 := iv_hh I (i := i) (by omega)
  have h2 := iv_hh I (i := j) (by omega)
  unfold wth at e
  omega
theorem wr_i (σ : ST) (i : Nat) (a : Int) : wr σ i a a = false := by
  unfold wr
  split
  · rfl
  · simp
theorem wr_t (σ : ST) (i : Nat) {a b : Int} (ha : -1 ≤ a) (hb : -1 ≤ b) (n : a ≠ b) : wr σ i a b = true ∨ wr σ i b a = true := by
  unfold wr
  by_cases c1 : a < 0
  · right
    rw [if_neg (by omega), if_pos c1]
  · by_cases c2 : b < 0
    · left
      rw [if_neg c1, if_pos c2]
    · rw [if_neg c1, if_neg c2, if_neg c2, if_neg c1]
      by_cases c3 : mi_ σ i a = mi_ σ i b
      · rw [if_pos c3, if_pos c3.symm, decide_eq_true_eq, decide_eq_true_eq]
        omega
      · rw [if_neg c3, if_neg (fun q => c3 q.symm), decide_eq_true_eq, decide_eq_true_eq]
        omega
theorem wr_p {σ : ST} {i : Nat} {a b : Int} (h : wr σ i a b = true) : 0 ≤ a := by
  unfold wr at h
  split at h
  · cases h
  · omega
theorem wr_tr {σ : ST} {i : Nat} {a b c : Int} (h1 : wr σ i a b = true) (h2 : wr σ i b c = true) : wr σ i a c = true := by
  have ha := wr_p h1
  have hb := wr_p h2
  unfold wr at h1 h2 ⊢
  rw [if_neg (by omega)] at h1 h2 ⊢
  rw [if_neg (by omega)] at h1
  by_cases hc : c < 0
  · rw [if_pos hc]
  · rw [if_neg hc] at h2 ⊢
    split at h1 <;> split at h2 <;> split <;> simp only [decide_eq_true_eq] at * <;> omega
/-- a placing that is stable -/
def Sb (σ : ST) (q : Nat) : Prop :=
  (∀ i, i < nh σ → σ 23 i 3 ≠ 1 → σ q 0 i < 0) ∧ (∀ l : Nat, l < nl σ → cq σ q l ≤ σ 22 l 1) ∧
  (∀ i, i < nh σ → σ 23 i 3 = 1 → ∀ l : Nat, l < nl σ → wr σ i l (σ q 0 i) = true → σ 22 l 1 ≤ cq σ q l ∧ ∀ j, j < nh σ → σ q 0 j = l → wth σ i < wth σ j)
theorem sb_of (I : Iv σ) {q : Nat} (h0 : ∀ i, i < nh σ → σ 23 i 3 ≠ 1 → σ q 0 i < 0) (h1 : wir σ q = true) (h2 : con σ q = false) : Sb σ q := by
  refine ⟨h0, fun l hl => ?_, fun i hi hs l hl hw => ⟨?_, fun j hj e => ?_⟩⟩
  · have := (allb_i.mp h1) l hl
    simp only [decide_eq_true_eq] at this
    rw [pc_gs I] at this
    exact this
  · have hw2 : wer σ q i = false := by
      cases c : wer σ q i with
      | false => rfl
      | true =>
        have : con σ q = true := anyb_t hi (by simp [hs, c])
        rw [this] at h2
        cases h2
    have hr : hro σ q l = false := by
      cases c : hro σ q l with
      | false => rfl
      | true =>
        have : wer σ q i = true := anyb_t hl (by simp [hw, c])
        rw [this] at hw2
        cases hw2
    unfold hro at hr
    rw [decide_eq_false_iff_not, pc_gs I] at hr
    omega
  · have hjs : σ 23 j 3 = 1 := by
      refine Decidable.byContradiction fun c => ?_
      have := h0 j hj c
      omega
    have hij : i ≠ j := by
      rintro rfl
      rw [e, wr_i] at hw
      cases hw
    have ho : ou σ q i j = false := by
      cases c : ou σ q i j with
      | false => rfl
      | true =>
        rcases Nat.lt_or_ge j i with h | h
        · have he : env σ q i = true := anyb_t h (by simp [hjs, c])
          have : con σ q = true := anyb_t hi (by simp [hs, he])
          rw [this] at h2
          cases h2
        · have he : env σ q j = true := anyb_t (show i < j by omega) (by simp [hs, c])
          have : con σ q = true := anyb_t hj (by simp [hjs, he])
          rw [this] at h2
          cases h2
    unfold ou at ho
    rw [e, hw, Bool.true_and, gb_w I hi hj, decide_eq_false_iff_not] at ho
    have : wth σ i ≠ wth σ j := fun c => hij (wth_i I hi hj c)
    omega
theorem sb_to (I : Iv σ) {q : Nat} (H : Sb σ q) (bq : ∀ i, -1 ≤ σ q 0 i ∧ σ q 0 i < nl σ) : wir σ q = true ∧ con σ q = false := by
  obtain ⟨H0, H1, H2⟩ := H
  constructor
  · refine allb_i.mpr fun l hl => ?_
    rw [decide_eq_true_eq, pc_gs I]
    exact H1 l hl
  · cases c : con σ q with
    | false => rfl
    | true =>
      exfalso
      obtain ⟨i, hi, h⟩ := anyb_i.mp c
      simp only [Bool.and_eq_true, Bool.or_eq_true, decide_eq_true_eq] at h
      have key : ∀ i j, i < nh σ → j < nh σ → σ 23 i 3 = 1 → ou σ q i j = true → False := fun i j hi hj hs ho => by
        unfold ou at ho
        rw [Bool.and_eq_true, gb_w I hi hj, decide_eq_true_eq] at ho
        have h0 := wr_p ho.1
        by_cases cl : σ q 0 j < nl σ
        · have := (H2 i hi hs (σ q 0 j).toNat (by omega) (by rw [Int.toNat_of_nonneg h0]; exact ho.1)).2 j hj (by omega)
          omega
        · exact cl (bq j).2
      rcases h.2 with h3 | h3
      · obtain ⟨j, hj, h4⟩ := anyb_i.mp h3
        simp only [Bool.and_eq_true, Bool.or_eq_true, decide_eq_true_eq] at h4
        rcases h4.2 with h5 | h5
        · exact key i j hi (by omega) h.1 h5
        · exact key j i (by omega) hi h4.1 h5
      · obtain ⟨l, hl, h4⟩ := anyb_i.mp h3
        simp only [Bool.and_eq_true] at h4
        have := (H2 i hi h.1 l hl h4.1).1
        have h5 := h4.2
        unfold hro at h5
        rw [decide_eq_true_eq, pc_gs I] at h5
        omega
theorem sb_u (I : Iv σ) {q r : Nat} (Hq : Sb σ q) (Hr : Sb σ r) (bq : ∀ i, -1 ≤ σ q 0 i ∧ σ q 0 i < nl σ) (br : ∀ i, -1 ≤ σ r 0 i ∧ σ r 0 i < nl σ) : ∀ i, i < nh σ → σ q 0 i = σ r 0 i := by
  have side : ∀ (q r : Nat), Sb σ q → Sb σ r → (∀ i, -1 ≤ σ q 0 i ∧ σ q 0 i < nl σ) → ∀ i, i < nh σ → (∀ j, j < nh σ → wth σ i < wth σ j → σ q 0 j = σ r 0 j) → wr σ i (σ q 0 i) (σ r 0 i) = true → False := by
    intro q r Hq Hr bq i hi hj hw
    have h0 := wr_p hw
    have hs : σ 23 i 3 = 1 := Decidable.byContradiction fun c => by
      have := Hq.1 i hi c
      omega
    have hl : (σ q 0 i).toNat < nl σ := by have := bq i; omega
    have e : (((σ q 0 i).toNat : Nat) : Int) = σ q 0 i := Int.toNat_of_nonneg h0
    have h2 := Hr.2.2 i hi hs _ hl (by rw [e]; exact hw)
    have h1 := Hq.2.1 _ hl
    have hc : cq σ r (σ q 0 i).toNat + 1 ≤ cq σ q (σ q 0 i).toNat := by
      refine cnt_lt (i := i) (fun j hjn hp => ?_) hi ?_ ?_
      · rw [decide_eq_true_eq] at hp ⊢
        rw [hj j hjn (h2.2 j hjn hp)]
        exact hp
      · rw [decide_eq_false_iff_not]
        intro c
        rw [← c.trans e] at hw
        rw [wr_i] at hw
        cases hw
      · rw [decide_eq_true_eq, e]
    omega
  have hn := nh_e I
  have hz := iv_z I
  have wb : ∀ i, i < nh σ → wth σ i ≤ 2000 := fun i hi => by
    have := iv_hh I (i := i) (by omega)
    unfold wth
    omega
  have M : ∀ k i, i < nh σ → (2000 - wth σ i).toNat = k → σ q 0 i = σ r 0 i := by
    intro k
    induction k using Nat.strongRecOn with
    | _ k ih =>
      intro i hi hk
      have hb := wb i hi
      have hj : ∀ j, j < nh σ → wth σ i < wth σ j → σ q 0 j = σ r 0 j := fun j hjn hw => by
        have := wb j hjn
        exact ih _ (by omega) j hjn rfl
      refine Decidable.byContradiction fun c => ?_
      rcases wr_t σ i (bq i).1 (br i).1 c with h | h
      · exact side q r Hq Hr bq i hi hj h
      · exact side r q Hr Hq br i hi (fun j h1 h2 => (hj j h1 h2).symm) h
  exact fun i hi => M _ i hi rfl
end Stable
