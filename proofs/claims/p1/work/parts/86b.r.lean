/-! NAMES: the class's likeness is the reference's -/
section NearE
theorem dg_x {z : Int} (hz : 0 ≤ z ∧ z ≤ 99999) : (z < 10 ∧ dg z = 1) ∨ (10 ≤ z ∧ z < 100 ∧ dg z = 2) ∨ (100 ≤ z ∧ z < 1000 ∧ dg z = 3) ∨ (1000 ≤ z ∧ z < 10000 ∧ dg z = 4) ∨ (10000 ≤ z ∧ dg z = 5) := by
  have e : dg z = if z < 10 then 1 else 1 + (if z / 10 < 10 then 1 else 1 + (if z / 10 / 10 < 10 then 1 else 1 + (if z / 10 / 10 / 10 < 10 then 1 else 1 + 1))) := rfl
  split at e
  · omega
  · split at e
    · omega
    · split at e
      · omega
      · split at e <;> omega
theorem dg_s {z : Int} (hz : 10 ≤ z ∧ z ≤ 99999) : dg z = 1 + dg (z / 10) := by
  have h1 := dg_x (z := z) (by omega)
  have h2 := dg_x (z := z / 10) (by omega)
  omega
theorem ham_0 (k : Nat) (b : Int) : hamf k 0 b = 0 := by
  cases k with
  | zero => rfl
  | succ k => simp [hamf]
theorem ham_e {k : Nat} {a b : Int} (ha : 1 ≤ a) : hamf (k + 1) a b = (if a - a / 10 * 10 = b - b / 10 * 10 then 0 else 1) + hamf k (a / 10) (b / 10) := by
  simp only [hamf]
  rw [if_neg (by omega)]
theorem ham_r : ∀ (k : Nat) (a : Int), hamf k a a ≤ 0
  | 0, _ => Int.le_refl _
  | k + 1, a => by
    have := ham_r k (a / 10)
    simp only [hamf]
    split
    · exact Int.le_refl _
    · simp only [if_true]
      omega
theorem ham_z : ∀ (k : Nat) (a b : Int), (1 ≤ a ∧ a ≤ 99999) → (1 ≤ b ∧ b ≤ 99999) → a < 10 ^ k → dg a = dg b → (hamf k a b ≤ 0 ↔ a = b)
  | 0, a, b, ha, hb, h, _ => by
    have : (10 : Int) ^ 0 = 1 := rfl
    omega
  | k + 1, a, b, ha, hb, h, hd => by
    have hp : (10 : Int) ^ (k + 1) = 10 ^ k * 10 := Int.pow_succ _ _
    rw [hp] at h
    have da := dg_x (z := a) (by omega)
    have db := dg_x (z := b) (by omega)
    have hb0 := hamf_b k (a / 10) (b / 10)
    rw [ham_e ha.1]
    by_cases c : a < 10
    · have cb : b < 10 := by omega
      have e2 : hamf k (a / 10) (b / 10) = 0 := by rw [show a / 10 = 0 by omega]; exact ham_0 _ _
      rw [e2]
      split <;> omega
    · have cb : ¬ b < 10 := by omega
      have s1 := dg_s (z := a) (by omega)
      have s2 := dg_s (z := b) (by omega)
      clear da db
      have ih := ham_z k (a / 10) (b / 10) (by omega) (by omega) (by generalize (10 : Int) ^ k = t at *; omega) (by omega)
      split
      · constructor
        · intro q
          have := ih.mp (by omega)
          omega
        · intro q
          have := ih.mpr (by omega)
          omega
      · constructor
        · intro q
          omega
        · intro q
          omega
theorem lvs_i (a b : Int) : (lvs a b = true) = ((1 ≤ a ∧ a / 10 = b) ∨ (10 ≤ a ∧ a / 100 * 10 + (a - a / 10 * 10) = b) ∨ (100 ≤ a ∧ a / 1000 * 100 + (a - a / 100 * 100) = b) ∨ (1000 ≤ a ∧ a / 10000 * 1000 + (a - a / 1000 * 1000) = b) ∨ (10000 ≤ a ∧ a / 100000 * 10000 + (a - a / 10000 * 10000) = b)) := by
  apply propext
  simp only [lvs, lv1, Bool.or_eq_true, Bool.and_eq_true, decide_eq_true_eq, Int.reduceMul, Int.mul_one, Int.ediv_one]
  have e : a / 10 + (a - a) = a / 10 := by omega
  rw [e]
  constructor
  · rintro ((((h | h) | h) | h) | h)
    · exact Or.inl h
    · exact Or.inr (Or.inl h)
    · exact Or.inr (Or.inr (Or.inl h))
    · exact Or.inr (Or.inr (Or.inr (Or.inl h)))
    · exact Or.inr (Or.inr (Or.inr (Or.inr h)))
  · rintro (h | h | h | h | h)
    · exact Or.inl (Or.inl (Or.inl (Or.inl h)))
    · exact Or.inl (Or.inl (Or.inl (Or.inr h)))
    · exact Or.inl (Or.inl (Or.inr h))
    · exact Or.inl (Or.inr h)
    · exact Or.inr h
theorem lvs_s {p q : Int} (hp : 10 ≤ p ∧ p ≤ 99999) (h : p - p / 10 * 10 = q - q / 10 * 10) : (lvs p q = true) = (lvs (p / 10) (q / 10) = true) := by
  rw [lvs_i, lvs_i]
  apply propext
  constructor
  · rintro (h' | h' | h' | h' | h')
    · exact Or.inl (by omega)
    · exact Or.inl (by omega)
    · exact Or.inr (Or.inl (by omega))
    · exact Or.inr (Or.inr (Or.inl (by omega)))
    · exact Or.inr (Or.inr (Or.inr (Or.inl (by omega))))
  · rintro (h' | h' | h' | h' | h')
    · exact Or.inr (Or.inl (by omega))
    · exact Or.inr (Or.inr (Or.inl (by omega)))
    · exact Or.inr (Or.inr (Or.inr (Or.inl (by omega))))
    · exact Or.inr (Or.inr (Or.inr (Or.inr (by omega))))
    · exfalso
      omega
theorem lvs_n {p q : Int} (hp : 1 ≤ p ∧ p ≤ 99999) (h : ¬ p - p / 10 * 10 = q - q / 10 * 10) : (lvs p q = true) = (p / 10 = q) := by
  rw [lvs_i]
  apply propext
  constructor
  · rintro (h' | h' | h' | h' | h')
    · exact h'.2
    · exfalso
      omega
    · exfalso
      omega
    · exfalso
      omega
    · exfalso
      omega
  · intro h'
    exact Or.inl ⟨hp.1, h'⟩
def lkF (k : Nat) (a b : Int) : Bool := if dg a = dg b then decide (hamf k a b ≤ 1) else decide (abN (dg a - dg b) = 1) && lvs (mxN a b) (mn a b)
theorem lk_T {k : Nat} {a b : Int} (ha : 0 ≤ a ∧ a ≤ 99999) (hb : 0 ≤ b ∧ b ≤ 99999) : (lkF k a b = true) = ((dg a = dg b ∧ hamf k a b ≤ 1) ∨ (dg a = dg b + 1 ∧ lvs a b = true) ∨ (dg b = dg a + 1 ∧ lvs b a = true)) := by
  have da := dg_x ha
  have db := dg_x hb
  apply propext
  unfold lkF
  by_cases c : dg a = dg b
  · rw [if_pos c, decide_eq_true_eq]
    constructor
    · intro q
      exact Or.inl ⟨c, q⟩
    · rintro (q | q | q)
      · exact q.2
      · exact absurd q.1 (by omega)
      · exact absurd q.1 (by omega)
  · rw [if_neg c, Bool.and_eq_true, decide_eq_true_eq]
    by_cases c1 : dg a = dg b + 1
    · have lt : b < a := by omega
      have e1 : mxN a b = a := if_neg (by omega)
      have e2 : mn a b = b := if_pos lt
      have e3 : abN (dg a - dg b) = 1 := by
        unfold abN
        rw [if_neg (by omega)]
        omega
      rw [e1, e2, e3]
      constructor
      · intro q
        exact Or.inr (Or.inl ⟨c1, q.2⟩)
      · rintro (q | q | q)
        · exact absurd q.1 c
        · exact ⟨rfl, q.2⟩
        · exact absurd q.1 (by omega)
    · by_cases c2 : dg b = dg a + 1
      · have lt : a < b := by omega
        have e1 : mxN a b = b := if_pos lt
        have e2 : mn a b = a := if_neg (by omega)
        have e3 : abN (dg a - dg b) = 1 := by
          unfold abN
          rw [if_pos (by omega)]
          omega
        rw [e1, e2, e3]
        constructor
        · intro q
          exact Or.inr (Or.inr ⟨c2, q.2⟩)
        · rintro (q | q | q)
          · exact absurd q.1 c
          · exact absurd q.1 c1
          · exact ⟨rfl, q.2⟩
      · have e3 : abN (dg a - dg b) ≠ 1 := by
          unfold abN
          split <;> omega
        constructor
        · intro q
          exact absurd q.1 e3
        · rintro (q | q | q)
          · exact absurd q.1 c
          · exact absurd q.1 c1
          · exact absurd q.1 c2
theorem nrf_0 : ∀ k, nrf k 0 0 = (0, 0)
  | 0 => rfl
  | k + 1 => by
    have : nrf (k + 1) 0 0 = nrf k (0 / 10) (0 / 10) := if_pos rfl
    rw [this]
    exact nrf_0 k
theorem isnf_s {k : Nat} {a : Int} (ha : 1 ≤ a) (h : isnf (k + 1) a = true) : ¬ a - a / 10 * 10 = 0 ∧ isnf k (a / 10) = true := by
  simp only [isnf] at h
  rw [if_neg (by omega)] at h
  split at h
  · cases h
  · exact ⟨‹_›, h⟩
theorem nre_i (a b : Int) : (nre (a, b) = true) = (a / 10 = b / 10 ∨ a / 10 = b ∨ a = b / 10) := decide_eq_true_eq
theorem nr_lk : ∀ (k : Nat) (a b : Int), (1 ≤ a ∧ a ≤ 99999) → (1 ≤ b ∧ b ≤ 99999) → a < 10 ^ k → b < 10 ^ k → isnf k a = true → isnf k b = true → nre (nrf k a b) = lkF k a b
  | 0, a, b, ha, hb, pa, pb, na, nb => by
    have : (10 : Int) ^ 0 = 1 := rfl
    omega
  | k + 1, a, b, ha, hb, pa, pb, na, nb => by
    have hp : (10 : Int) ^ (k + 1) = 10 ^ k * 10 := Int.pow_succ _ _
    rw [hp] at pa pb
    have na1 := isnf_s ha.1 na
    have nb1 := isnf_s hb.1 nb
    have da := dg_x (z := a) (by omega)
    have db := dg_x (z := b) (by omega)
    rw [Bool.eq_iff_iff, lk_T (by omega) (by omega)]
    have big : ∀ {c : Int}, 10 ≤ c → c < 10 ^ k * 10 → ∃ k', k = k' + 1 := fun {c} h1 h2 => by
      cases k with
      | zero =>
        have : (10 : Int) ^ 0 = 1 := rfl
        rw [this] at h2
        omega
      | succ k' => exact ⟨k', rfl⟩
    by_cases c : a - a / 10 * 10 = b - b / 10 * 10
    · have e : nrf (k + 1) a b = nrf k (a / 10) (b / 10) := if_pos c
      rw [e]
      by_cases ca : a < 10
      · by_cases cb : b < 10
        · have e1 : a / 10 = 0 := by omega
          have e2 : b / 10 = 0 := by omega
          have e3 : hamf (k + 1) a b ≤ 1 := by
            rw [ham_e ha.1, if_pos c, e1, ham_0]
            omega
          rw [e1, e2, nrf_0]
          constructor
          · intro _
            exact Or.inl ⟨by omega, e3⟩
          · intro _
            rfl
        · obtain ⟨k', rfl⟩ := big (c := b) (by omega) pb
          have n2 := isnf_s (a := b / 10) (by omega) nb1.2
          have e2 : nrf (k' + 1) 0 (b / 10) = (0, b / 10) := if_neg (by omega)
          rw [show a / 10 = 0 by omega, e2, nre_i]
          constructor
          · intro q
            exact Or.inr (Or.inr ⟨by omega, by rw [lvs_i]; exact Or.inr (Or.inl ⟨by omega, by omega⟩)⟩)
          · rintro (q | q | q)
            · exact absurd q.1 (by omega)
            · exact absurd q.1 (by omega)
            · have q1 := q.1
              clear q
              omega
      · by_cases cb : b < 10
        · obtain ⟨k', rfl⟩ := big (c := a) (by omega) pa
          have n2 := isnf_s (a := a / 10) (by omega) na1.2
          have e2 : nrf (k' + 1) (a / 10) 0 = (a / 10, 0) := if_neg (by omega)
          rw [show b / 10 = 0 by omega, e2, nre_i]
          constructor
          · intro q
            exact Or.inr (Or.inl ⟨by omega, by rw [lvs_i]; exact Or.inr (Or.inl ⟨by omega, by omega⟩)⟩)
          · rintro (q | q | q)
            · exact absurd q.1 (by omega)
            · have q1 := q.1
              clear q
              omega
            · exact absurd q.1 (by omega)
        · have s1 := dg_s (z := a) (by omega)
          have s2 := dg_s (z := b) (by omega)
          clear da db
          have ih := nr_lk k (a / 10) (b / 10) (by omega) (by omega) (by generalize (10 : Int) ^ k = t at *; omega) (by generalize (10 : Int) ^ k = t at *; omega) na1.2 nb1.2
          have eh : hamf (k + 1) a b = hamf k (a / 10) (b / 10) := by
            rw [ham_e ha.1, if_pos c, Int.zero_add]
          rw [ih, lk_T (by omega) (by omega), eh]
          constructor
          · rintro (q | q | q)
            · exact Or.inl ⟨by omega, q.2⟩
            · exact Or.inr (Or.inl ⟨by omega, by rw [lvs_s (by omega) c]; exact q.2⟩)
            · exact Or.inr (Or.inr ⟨by omega, by rw [lvs_s (by omega) c.symm]; exact q.2⟩)
          · rintro (q | q | q)
            · exact Or.inl ⟨by omega, q.2⟩
            · exact Or.inr (Or.inl ⟨by omega, by rw [← lvs_s (by omega) c]; exact q.2⟩)
            · exact Or.inr (Or.inr ⟨by omega, by rw [← lvs_s (by omega) c.symm]; exact q.2⟩)
    · have e : nrf (k + 1) a b = (a, b) := if_neg c
      have eh : hamf (k + 1) a b = 1 + hamf k (a / 10) (b / 10) := by
        rw [ham_e ha.1, if_neg c]
      have hb0 := hamf_b k (a / 10) (b / 10)
      rw [e, nre_i, eh, lvs_n ha c, lvs_n hb (fun q => c q.symm)]
      constructor
      · rintro (q | q | q)
        · refine Or.inl ⟨by omega, ?_⟩
          rw [q]
          have := ham_r k (b / 10)
          omega
        · exact Or.inr (Or.inl ⟨by omega, q⟩)
        · exact Or.inr (Or.inr ⟨by omega, q.symm⟩)
      · rintro (q | q | q)
        · refine Or.inl ?_
          by_cases ca : a < 10
          · have cb : b < 10 := by have q1 := q.1; clear q; omega
            omega
          · have cb : ¬ b < 10 := by have q1 := q.1; clear q; omega
            have s1 := dg_s (z := a) (by omega)
            have s2 := dg_s (z := b) (by omega)
            have q1 := q.1
            have q2 := q.2
            clear da db q
            exact (ham_z k (a / 10) (b / 10) (by omega) (by omega) (by generalize (10 : Int) ^ k = t at *; omega) (by omega)).mp (by omega)
        · exact Or.inr (Or.inl q.2)
        · exact Or.inr (Or.inr q.2.symm)
theorem isn_f {a : Int} (h : isn a = true) : isnf 5 a = true := by
  unfold isn at h
  rw [Bool.and_eq_true] at h
  exact h.2
theorem lkM_nr {a b : Int} (ha : isn a = true) (hb : isn b = true) : lkM a b = nr a b := by
  have h1 := isn_b ha
  have h2 := isn_b hb
  have p5 : (10 : Int) ^ 5 = 100000 := rfl
  exact (nr_lk 5 a b h1 h2 (by omega) (by omega) (isn_f ha) (isn_f hb)).symm
theorem nr_y (a b : Int) (ha : isn a = true) (hb : isn b = true) : nr a b = nr b a := by
  have H : ∀ (k : Nat) (a b : Int), nre (nrf k a b) = nre (nrf k b a) := by
    intro k
    induction k with
    | zero =>
      intro a b
      show nre (a, b) = nre (b, a)
      rw [Bool.eq_iff_iff, nre_i, nre_i]
      omega
    | succ k ih =>
      intro a b
      by_cases c : a - a / 10 * 10 = b - b / 10 * 10
      · rw [show nrf (k + 1) a b = nrf k (a / 10) (b / 10) from if_pos c, show nrf (k + 1) b a = nrf k (b / 10) (a / 10) from if_pos c.symm]
        exact ih _ _
      · rw [show nrf (k + 1) a b = (a, b) from if_neg c, show nrf (k + 1) b a = (b, a) from if_neg (fun q => c q.symm)]
        rw [Bool.eq_iff_iff, nre_i, nre_i]
        omega
  exact H 5 a b
end NearE
