/-! THEORY: the set that is chosen is the heaviest that can be fetched -/
section Greedy
variable {σ : ST}
def nB (σ : ST) (a : Nat → Bool) (t : Int) : Int := cnt (fun j => a j && decide (lm σ j ≤ t)) (nh σ)
def caB (σ : ST) (a : Nat → Bool) : Prop := ∀ i, i < nh σ → a i = true → σ 23 i 3 = 0 ∧ nB σ a (lm σ i) ≤ σ 2 0 0 * lm σ i
theorem car_B (σ : ST) (s : Nat) : car σ s = true ↔ caB σ (fun j => s.testBit j) := by
  unfold car caB
  rw [allb_i]
  refine ⟨fun h i hi hb => ?_, fun h i hi => ?_⟩
  · have := h i hi
    have hb' : s.testBit i = true := hb
    rw [hb', Bool.not_true, Bool.false_or] at this
    unfold cra at this
    simp only [Bool.and_eq_true, decide_eq_true_eq] at this
    exact this
  · cases c : s.testBit i with
    | false => simp
    | true =>
      have := h i hi c
      unfold cra
      simp only [Bool.not_true, Bool.false_or, Bool.and_eq_true, decide_eq_true_eq]
      exact this
theorem mx_e {p : Nat → Bool} {f : Nat → Int} : ∀ n : Nat, (∃ i, i < n ∧ p i = true) → ∃ i, i < n ∧ p i = true ∧ ∀ j, j < n → p j = true → f j ≤ f i
  | 0, ⟨i, hi, _⟩ => by omega
  | n + 1, ⟨i, hi, hp⟩ => by
    by_cases c : ∃ i, i < n ∧ p i = true
    · obtain ⟨k, h1, h2, h3⟩ := mx_e (f := f) n c
      by_cases c2 : p n = true ∧ f k ≤ f n
      · refine ⟨n, by omega, c2.1, fun j hj hpj => ?_⟩
        by_cases q : j = n
        · rw [q]
          exact Int.le_refl _
        · have := h3 j (by omega) hpj
          have := c2.2
          omega
      · refine ⟨k, by omega, h2, fun j hj hpj => ?_⟩
        by_cases q : j = n
        · subst q
          have : ¬ f k ≤ f j := fun q2 => c2 ⟨hpj, q2⟩
          omega
        · exact h3 j (by omega) hpj
    · have hin : i = n := by
        refine Decidable.byContradiction fun q => c ⟨i, by omega, hp⟩
      subst hin
      refine ⟨i, by omega, hp, fun j hj hpj => ?_⟩
      by_cases q : j = i
      · rw [q]
        exact Int.le_refl _
      · exact absurd ⟨j, by omega, hpj⟩ c
theorem cnt_0 {p : Nat → Bool} {n : Nat} (h : ∀ i, i < n → p i = false) : cnt p n = 0 := by
  induction n with
  | zero => rfl
  | succ n ih =>
    simp only [cnt]
    rw [ih fun i hi => h i (by omega), h n (by omega), b2_f]
    rfl
theorem nB_le (I : Iv σ) {a : Nat → Bool} (H : caB σ a) {t : Int} (ht : 0 ≤ t) : nB σ a t ≤ σ 2 0 0 * t := by
  have hr := iv_r I
  by_cases c : ∃ i, i < nh σ ∧ (a i && decide (lm σ i ≤ t)) = true
  · obtain ⟨i, h1, h2, h3⟩ := mx_e (f := fun j => lm σ j) (nh σ) c
    rw [Bool.and_eq_true, decide_eq_true_eq] at h2
    have h4 := (H i h1 h2.1).2
    have e : nB σ a t ≤ nB σ a (lm σ i) := cnt_m fun j hj hp => by
      have := h3 j hj hp
      rw [Bool.and_eq_true] at hp ⊢
      exact ⟨hp.1, decide_eq_true this⟩
    have : σ 2 0 0 * lm σ i ≤ σ 2 0 0 * t := Int.mul_le_mul_of_nonneg_left h2.2 (by omega)
    omega
  · have e : nB σ a t = 0 := cnt_0 fun i hi => by
      cases q : (a i && decide (lm σ i ≤ t)) with
      | false => rfl
      | true => exact absurd ⟨i, hi, q⟩ c
    rw [e]
    exact Int.mul_nonneg (by omega) ht
theorem caB_m {a b : Nat → Bool} (H : caB σ b) (h : ∀ i, i < nh σ → a i = true → b i = true) : caB σ a := fun i hi hai => by
  have h1 := H i hi (h i hi hai)
  refine ⟨h1.1, Int.le_trans (cnt_m fun j hj hp => ?_) h1.2⟩
  rw [Bool.and_eq_true] at hp ⊢
  exact ⟨h j hj hp.1, hp.2⟩
def wx (a : Nat → Bool) (x : Nat) : Nat → Bool := fun j => a j || decide (x = j)
theorem top_k {P : Nat → Prop} : ∀ m : Nat, P 0 → ¬ P m → ∃ k, k < m ∧ P k ∧ ∀ k', k < k' → k' ≤ m → ¬ P k'
  | 0, h0, h1 => absurd h0 h1
  | m + 1, h0, h1 => by
    by_cases c : P m
    · refine ⟨m, by omega, c, fun k' h2 h3 => ?_⟩
      have : k' = m + 1 := by omega
      rw [this]
      exact h1
    · obtain ⟨k, h2, h3, h4⟩ := top_k m h0 c
      refine ⟨k, by omega, h3, fun k' h5 h6 => ?_⟩
      by_cases q : k' = m + 1
      · rw [q]
        exact h1
      · exact h4 k' h5 (by omega)
theorem cnt_sp (p q : Nat → Bool) : ∀ n, cnt p n = cnt (fun j => p j && q j) n + cnt (fun j => p j && !q j) n
  | 0 => rfl
  | n + 1 => by
    simp only [cnt]
    rw [cnt_sp p q n]
    cases p n <;> cases q n <;> simp [b2] <;> omega
theorem exch (I : Iv σ) {a b : Nat → Bool} (Ha : caB σ a) (Hb : caB σ b) (hc : cnt a (nh σ) < cnt b (nh σ)) : ∃ x, x < nh σ ∧ b x = true ∧ a x = false ∧ caB σ (wx a x) := by
  have hn := nh_e I
  have hr := iv_r I
  have lb : ∀ i, i < nh σ → 0 ≤ lm σ i ∧ lm σ i ≤ 999 := fun i hi => lm_b I (by omega)
  have full : ∀ c : Nat → Bool, nB σ c 999 = cnt c (nh σ) := fun c => cnt_e fun i hi => by
    have := lb i hi
    rw [decide_eq_true (by omega), Bool.and_true]
  have none_ : ∀ c : Nat → Bool, nB σ c (-1) = 0 := fun c => cnt_0 fun i hi => by
    have := lb i hi
    rw [decide_eq_false (by omega), Bool.and_false]
  obtain ⟨k, hk, h1, h2⟩ := top_k (P := fun k : Nat => nB σ b ((k : Int) - 1) ≤ nB σ a ((k : Int) - 1)) 1000 (by
    show nB σ b (-1) ≤ nB σ a (-1)
    rw [none_, none_]
    exact Int.le_refl _) (by
    show ¬ nB σ b 999 ≤ nB σ a 999
    rw [full, full]
    omega)
  have ex : ∃ x, x < nh σ ∧ b x = true ∧ a x = false ∧ (k : Int) - 1 < lm σ x := by
    refine Classical.byContradiction fun c => ?_
    have sa := cnt_sp a (fun j => decide (lm σ j ≤ (k : Int) - 1)) (nh σ)
    have sb := cnt_sp b (fun j => decide (lm σ j ≤ (k : Int) - 1)) (nh σ)
    have m : cnt (fun j => b j && !decide (lm σ j ≤ (k : Int) - 1)) (nh σ) ≤ cnt (fun j => a j && !decide (lm σ j ≤ (k : Int) - 1)) (nh σ) := cnt_m fun j hj hp => by
      rw [Bool.and_eq_true, Bool.not_eq_true', decide_eq_false_iff_not] at hp
      rw [Bool.and_eq_true, Bool.not_eq_true', decide_eq_false_iff_not]
      refine ⟨?_, hp.2⟩
      cases q : a j with
      | true => rfl
      | false => exact absurd ⟨j, hj, hp.1, q, by omega⟩ c
    have h1' : cnt (fun j => b j && decide (lm σ j ≤ (k : Int) - 1)) (nh σ) ≤ cnt (fun j => a j && decide (lm σ j ≤ (k : Int) - 1)) (nh σ) := h1
    omega
  obtain ⟨x, hx, bx, ax, lx⟩ := ex
  refine ⟨x, hx, bx, ax, fun i hi hai => ?_⟩
  have li := lb i hi
  have hs : σ 23 i 3 = 0 := by
    unfold wx at hai
    rw [Bool.or_eq_true, decide_eq_true_eq] at hai
    rcases hai with h | h
    · exact (Ha i hi h).1
    · rw [← h]
      exact (Hb x hx bx).1
  refine ⟨hs, ?_⟩
  have hcw : nB σ (wx a x) (lm σ i) = nB σ a (lm σ i) + b2 (decide (lm σ x ≤ lm σ i)) := by
    unfold nB
    rw [cnt_ch (p := fun j => a j && decide (lm σ j ≤ lm σ i)) hx fun j _ hne => by
      unfold wx
      rw [decide_eq_false (show ¬ x = j from fun q => hne q.symm), Bool.or_false]]
    unfold wx
    simp only [ax, Bool.false_and, Bool.false_or, decide_true, Bool.true_and, b2_f]
    omega
  rw [hcw]
  by_cases c : lm σ x ≤ lm σ i
  · rw [decide_eq_true c, b2_t]
    have h3 := h2 ((lm σ i).toNat + 1) (by omega) (by omega)
    have e : (((lm σ i).toNat + 1 : Nat) : Int) - 1 = lm σ i := by omega
    rw [e] at h3
    have h4 := nB_le I Hb (t := lm σ i) li.1
    omega
  · rw [decide_eq_false c, b2_f]
    have := nB_le I Ha (t := lm σ i) li.1
    omega
def tb (s : Nat) : Nat → Bool := fun j => s.testBit j
theorem tb_or (s x : Nat) : tb (s ||| 2 ^ x) = wx (tb s) x := by
  funext j
  unfold tb wx
  rw [Nat.testBit_or, Nat.testBit_two_pow]
/-- greedy so far: those behind the mark are in it, or can't be -/
def Gr (σ : ST) (m : Nat → Prop) (T : Nat → Bool) : Prop := caB σ T ∧ (∀ x, x < nh σ → T x = true → m x) ∧ ∀ x, x < nh σ → T x = false → m x → ¬ caB σ (wx T x)
theorem gr_chi {p : Int} {s : Nat} (H : Gr σ (fun x => p + 1 ≤ σ 23 x 1) (tb s)) : ∀ i, i ≤ nh σ → Gr σ (fun x => p + 1 ≤ σ 23 x 1 ∨ (σ 23 x 1 = p ∧ x < i)) (tb (chi σ p s i)) ∧ ∀ x, p + 1 ≤ σ 23 x 1 → tb (chi σ p s i) x = tb s x
  | 0, _ => ⟨⟨H.1, fun x hx h => Or.inl (H.2.1 x hx h), fun x hx h hm => H.2.2 x hx h (by rcases hm with q | q; exact q; omega)⟩, fun x _ => rfl⟩
  | i + 1, hi => by
    obtain ⟨ih, ih2⟩ := gr_chi H i (by omega)
    simp only [chi]
    split
    · rename_i c
      have hca : caB σ (wx (tb (chi σ p s i)) i) := by
        rw [← tb_or]
        exact (car_B σ _).mp c.2
      rw [tb_or]
      refine ⟨⟨hca, fun x hx h => ?_, fun x hx h hm hcx => ?_⟩, fun x hx => ?_⟩
      · unfold wx at h
        rw [Bool.or_eq_true, decide_eq_true_eq] at h
        rcases h with h | h
        · rcases ih.2.1 x hx h with q | q
          · exact Or.inl q
          · exact Or.inr ⟨q.1, by omega⟩
        · exact Or.inr ⟨by rw [← h]; exact c.1, by omega⟩
      · have hxi : ¬ i = x := fun q => by
          unfold wx at h
          rw [q] at h
          simp at h
        have h' : tb (chi σ p s i) x = false := by
          unfold wx at h
          rw [Bool.or_eq_false_iff] at h
          exact h.1
        refine ih.2.2 x hx h' (by rcases hm with q | q; exact Or.inl q; exact Or.inr ⟨q.1, by omega⟩) (caB_m hcx fun j _ hj => ?_)
        unfold wx at hj ⊢
        rw [Bool.or_eq_true] at hj ⊢
        rcases hj with q | q
        · left
          rw [Bool.or_eq_true]
          exact Or.inl q
        · exact Or.inr q
      · have hxi : ¬ i = x := fun q => by
          rw [← q] at hx
          have := c.1
          omega
        unfold wx
        rw [decide_eq_false hxi, Bool.or_false]
        exact ih2 x hx
    · rename_i c
      refine ⟨⟨ih.1, fun x hx h => ?_, fun x hx h hm => ?_⟩, ih2⟩
      · rcases ih.2.1 x hx h with q | q
        · exact Or.inl q
        · exact Or.inr ⟨q.1, by omega⟩
      · by_cases q : σ 23 x 1 = p ∧ x = i
        · obtain ⟨q1, rfl⟩ := q
          intro hcx
          rw [← tb_or] at hcx
          exact c ⟨q1, (car_B σ _).mpr hcx⟩
        · exact ih.2.2 x hx h (by rcases hm with q2 | q2; exact Or.inl q2; exact Or.inr ⟨q2.1, by omega⟩)
theorem gr_cho (I : Iv σ) : ∀ k : Nat, Gr σ (fun x => 10 - (k : Int) ≤ σ 23 x 1) (tb (cho σ (nh σ) k))
  | 0 => by
    have hn := nh_e I
    have e : ∀ j, tb (cho σ (nh σ) 0) j = false := fun j => by simp [tb, cho]
    refine ⟨fun i _ h => ?_, fun x _ h => ?_, fun x hx _ hm => ?_⟩
    · rw [e] at h
      cases h
    · rw [e] at h
      cases h
    · have := iv_hh I (i := x) (by omega)
      omega
  | k + 1 => by
    have ih := gr_cho I k
    have h := (gr_chi (p := 9 - (k : Int)) (s := cho σ (nh σ) k) ⟨ih.1, fun x hx hh => by have := ih.2.1 x hx hh; omega, fun x hx hh hm => ih.2.2 x hx hh (by omega)⟩ (nh σ) (Nat.le_refl _)).1
    show Gr σ _ (tb (chi σ (9 - (k : Int)) (cho σ (nh σ) k) (nh σ)))
    refine ⟨h.1, fun x hx hh => ?_, fun x hx hh hm => h.2.2 x hx hh ?_⟩
    · rcases h.2.1 x hx hh with q | q <;> omega
    · by_cases q : σ 23 x 1 = 9 - (k : Int)
      · exact Or.inr ⟨q, hx⟩
      · left
        omega
theorem cho_s (I : Iv σ) (k x : Nat) (hx : 10 - (k : Int) ≤ σ 23 x 1) : tb (cho σ (nh σ) (k + 1)) x = tb (cho σ (nh σ) k) x := by
  have ih := gr_cho I k
  exact (gr_chi (p := 9 - (k : Int)) (s := cho σ (nh σ) k) ⟨ih.1, fun x hx hh => by have := ih.2.1 x hx hh; omega, fun x hx hh hm => ih.2.2 x hx hh (by omega)⟩ (nh σ) (Nat.le_refl _)).2 x (by omega)
theorem cho_f (I : Iv σ) {k x : Nat} (hk : k ≤ 9) (hx : 10 - (k : Int) ≤ σ 23 x 1) : tb (chs σ) x = tb (cho σ (nh σ) k) x := by
  have H : ∀ m : Nat, tb (cho σ (nh σ) (k + m)) x = tb (cho σ (nh σ) k) x := by
    intro m
    induction m with
    | zero => rfl
    | succ m ih => rw [← ih]; exact cho_s I (k + m) x (by omega)
  have := H (9 - k)
  rw [show k + (9 - k) = 9 by omega] at this
  exact this
/-- of those with p PEOPLE and more -/
def nP (σ : ST) (a : Nat → Bool) (p : Int) : Int := cnt (fun j => a j && decide (p ≤ σ 23 j 1)) (nh σ)
theorem nP_le (I : Iv σ) {a : Nat → Bool} (H : caB σ a) {k : Nat} (hk : 1 ≤ k ∧ k ≤ 9) : nP σ a (10 - (k : Int)) ≤ nP σ (tb (chs σ)) (10 - (k : Int)) := by
  have g := gr_cho I k
  have e : nP σ (tb (chs σ)) (10 - (k : Int)) = cnt (tb (cho σ (nh σ) k)) (nh σ) := cnt_e fun j hj => by
    by_cases c : 10 - (k : Int) ≤ σ 23 j 1
    · rw [decide_eq_true c, Bool.and_true, cho_f I hk.2 c]
    · rw [decide_eq_false c, Bool.and_false]
      cases q : tb (cho σ (nh σ) k) j with
      | false => rfl
      | true => exact absurd (g.2.1 j hj q) c
  rw [e]
  refine Int.not_lt.mp fun hlt => ?_
  obtain ⟨x, hx, h1, h2, h3⟩ := exch I (a := tb (cho σ (nh σ) k)) (b := fun j => a j && decide (10 - (k : Int) ≤ σ 23 j 1)) g.1 (caB_m H fun i _ h => by rw [Bool.and_eq_true] at h; exact h.1) hlt
  rw [Bool.and_eq_true, decide_eq_true_eq] at h1
  exact g.2.2 x hx h2 h1.2 h3
theorem ppl_n (I : Iv σ) (s : Nat) : ppl σ s = nP σ (tb s) 1 + nP σ (tb s) 2 + nP σ (tb s) 3 + nP σ (tb s) 4 + nP σ (tb s) 5 + nP σ (tb s) 6 + nP σ (tb s) 7 + nP σ (tb s) 8 + nP σ (tb s) 9 := by
  have hn := nh_e I
  have H : ∀ m : Nat, m ≤ nh σ → sumf (fun i => if s.testBit i then σ 23 i 1 else 0) m = cnt (fun j => tb s j && decide (1 ≤ σ 23 j 1)) m + cnt (fun j => tb s j && decide (2 ≤ σ 23 j 1)) m + cnt (fun j => tb s j && decide (3 ≤ σ 23 j 1)) m + cnt (fun j => tb s j && decide (4 ≤ σ 23 j 1)) m + cnt (fun j => tb s j && decide (5 ≤ σ 23 j 1)) m + cnt (fun j => tb s j && decide (6 ≤ σ 23 j 1)) m + cnt (fun j => tb s j && decide (7 ≤ σ 23 j 1)) m + cnt (fun j => tb s j && decide (8 ≤ σ 23 j 1)) m + cnt (fun j => tb s j && decide (9 ≤ σ 23 j 1)) m := by
    intro m
    induction m with
    | zero => intro _; rfl
    | succ m ih =>
      intro hm
      have h1 := iv_hh I (i := m) (by omega)
      simp only [sumf, cnt]
      rw [ih (by omega)]
      have e : (if s.testBit m = true then σ 23 m 1 else 0) = b2 (tb s m && decide (1 ≤ σ 23 m 1)) + b2 (tb s m && decide (2 ≤ σ 23 m 1)) + b2 (tb s m && decide (3 ≤ σ 23 m 1)) + b2 (tb s m && decide (4 ≤ σ 23 m 1)) + b2 (tb s m && decide (5 ≤ σ 23 m 1)) + b2 (tb s m && decide (6 ≤ σ 23 m 1)) + b2 (tb s m && decide (7 ≤ σ 23 m 1)) + b2 (tb s m && decide (8 ≤ σ 23 m 1)) + b2 (tb s m && decide (9 ≤ σ 23 m 1)) := by
        unfold tb
        generalize σ 23 m 1 = P at *
        cases s.testBit m with
        | false => simp [b2]
        | true =>
          have : P = 1 ∨ P = 2 ∨ P = 3 ∨ P = 4 ∨ P = 5 ∨ P = 6 ∨ P = 7 ∨ P = 8 ∨ P = 9 := by omega
          rcases this with rfl | rfl | rfl | rfl | rfl | rfl | rfl | rfl | rfl <;> simp [b2]
      omega
  exact H (nh σ) (Nat.le_refl _)
theorem chs_car (I : Iv σ) : car σ (chs σ) = true := (car_B σ _).mpr (gr_cho I 9).1
theorem chs_max (I : Iv σ) {s : Nat} (h : car σ s = true) : ppl σ s ≤ ppl σ (chs σ) := by
  have H : caB σ (tb s) := (car_B σ s).mp h
  rw [ppl_n I, ppl_n I]
  have a1 := nP_le I H (k := 9) (by omega)
  have a2 := nP_le I H (k := 8) (by omega)
  have a3 := nP_le I H (k := 7) (by omega)
  have a4 := nP_le I H (k := 6) (by omega)
  have a5 := nP_le I H (k := 5) (by omega)
  have a6 := nP_le I H (k := 4) (by omega)
  have a7 := nP_le I H (k := 3) (by omega)
  have a8 := nP_le I H (k := 2) (by omega)
  have a9 := nP_le I H (k := 1) (by omega)
  simp only [Int.cast_ofNat_Int, Int.reduceSub] at a1 a2 a3 a4 a5 a6 a7 a8 a9
  omega
theorem crm_f (I : Iv σ) : crm σ (ppl σ (chs σ)) = false := by
  cases c : crm σ (ppl σ (chs σ)) with
  | false => rfl
  | true =>
    exfalso
    obtain ⟨s, hs, h⟩ := anyb_i.mp c
    rw [Bool.and_eq_true, decide_eq_true_eq] at h
    have := chs_max I h.2
    omega
end Greedy
