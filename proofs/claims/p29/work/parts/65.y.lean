/-! THE LAW: all numbers of placings (what they say) -/
section BestT
variable {σ : ST}
/-- how many of the first are fetched -/
def fe (σ : ST) : Nat → Nat
  | 0 => 0
  | i + 1 => if σ 23 i 3 = 1 then fe σ i + 1 else fe σ i
theorem fe_le (σ : ST) : ∀ i, fe σ i ≤ i
  | 0 => Nat.le_refl _
  | i + 1 => by
    have := fe_le σ i
    simp only [fe]
    split <;> omega
theorem fe_m (σ : ST) (i : Nat) : ∀ k, fe σ i ≤ fe σ (i + k)
  | 0 => Nat.le_refl _
  | k + 1 => by
    have := fe_m σ i k
    show fe σ i ≤ (if σ 23 (i + k) 3 = 1 then fe σ (i + k) + 1 else fe σ (i + k))
    split <;> omega
theorem fe_lt {i j : Nat} (h : i < j) (hs : σ 23 i 3 = 1) : fe σ i < fe σ j := by
  have := fe_m σ (i + 1) (j - (i + 1))
  rw [show i + 1 + (j - (i + 1)) = j by omega] at this
  have e : fe σ (i + 1) = fe σ i + 1 := by simp only [fe]; rw [if_pos hs]
  omega
theorem fe_cof (σ : ST) : cof σ 1 = (fe σ (nh σ) : Nat) := by
  have : ∀ n, cnt (fun i => decide (σ 23 i 3 = 1)) n = (fe σ n : Nat) := by
    intro n
    induction n with
    | zero => rfl
    | succ n ih =>
      simp only [cnt, fe]
      rw [ih]
      split
      · rename_i c
        rw [c]
        rfl
      · rename_i c
        rw [decide_eq_false c]
        rfl
  exact this _
theorem pub_fe {τ : ST} (e : pub τ = pub σ) : ∀ i, fe τ i = fe σ i
  | 0 => rfl
  | i + 1 => by
    simp only [fe]
    rw [pub_fe e i, pub_i e (by omega) (by omega)]
/-- the placing's own number -/
def PL (σ : ST) : Nat → Nat
  | 0 => 0
  | i + 1 => if σ 23 i 3 = 1 then 10 * PL σ i + (σ 8 0 i + 1).toNat else PL σ i
theorem dg_b (I : Iv σ) (i : Nat) : (((σ 8 0 i + 1).toNat : Nat) : Int) = σ 8 0 i + 1 ∧ (σ 8 0 i + 1).toNat ≤ nl σ ∧ nl σ ≤ 3 ∧ σ 12 0 0 = nl σ := by
  have h := iv_t I i
  have r := iv_z I
  have n := nl_e I
  omega
theorem rdR_PL (I : Iv σ) {n : Nat} : ∀ k, k ≤ n → rdR σ n (PL σ n) k = (PL σ (n - k) : Nat)
  | 0, _ => rfl
  | k + 1, hk => by
    have ih := rdR_PL I (n := n) k (by omega)
    have d := dg_b I (n - 1 - k)
    have e : PL σ (n - k) = if σ 23 (n - 1 - k) 3 = 1 then 10 * PL σ (n - 1 - k) + (σ 8 0 (n - 1 - k) + 1).toNat else PL σ (n - 1 - k) := by
      rw [show n - k = (n - 1 - k) + 1 by omega]
      rfl
    simp only [rdR]
    rw [ih, e, show n - (k + 1) = n - 1 - k by omega]
    split
    · rw [Int.tdiv_eq_ediv_of_nonneg (by omega)]
      omega
    · rfl
theorem rdD_PL (I : Iv σ) {n k : Nat} (hk : k < n) (hs : σ 23 (n - 1 - k) 3 = 1) : rdD σ n (PL σ n) k = σ 8 0 (n - 1 - k) + 1 := by
  have d := dg_b I (n - 1 - k)
  have e : PL σ (n - k) = 10 * PL σ (n - 1 - k) + (σ 8 0 (n - 1 - k) + 1).toNat := by
    rw [show n - k = (n - 1 - k) + 1 by omega]
    simp only [PL]
    rw [if_pos hs]
  unfold rdD
  rw [rdR_PL I k (by omega), e, Int.tdiv_eq_ediv_of_nonneg (by omega)]
  omega
/-- what the trial holds after reading -/
theorem rdS_9 (I : Iv σ) (n : Nat) (z : Int) (j : Nat) : ∀ k, k ≤ n → rdS σ n z k 9 0 j = if n - k ≤ j ∧ j < n ∧ σ 23 j 3 = 1 then rdD σ n z (n - 1 - j) - 1 else -1
  | 0, _ => by
    rw [if_neg (by omega)]
    show (if 9 = 9 ∧ 0 = 0 ∧ j < 6 then (-1 : Int) else σ 9 0 j) = -1
    have r := iv_z I
    split
    · rfl
    · exact (iv_6 I (by omega)).2
  | k + 1, hk => by
    have ih := rdS_9 I n z j k (by omega)
    simp only [rdS]
    by_cases c : σ 23 (n - 1 - k) 3 = 1
    · rw [if_pos c, s3_8]
      by_cases c2 : j = n - 1 - k
      · rw [if_pos c2, if_pos ⟨by omega, by omega, by rw [c2]; exact c⟩, c2, show n - 1 - (n - 1 - k) = k by omega]
      · rw [if_neg c2, ih]
        have : (n - k ≤ j ∧ j < n ∧ σ 23 j 3 = 1) = (n - (k + 1) ≤ j ∧ j < n ∧ σ 23 j 3 = 1) := propext ⟨fun h => ⟨by omega, h.2⟩, fun h => ⟨by omega, h.2⟩⟩
        simp only [this]
    · rw [if_neg c, ih]
      by_cases c2 : j = n - 1 - k
      · rw [if_neg (by omega), if_neg]
        intro h
        rw [c2] at h
        exact c h.2.2
      · have : (n - k ≤ j ∧ j < n ∧ σ 23 j 3 = 1) = (n - (k + 1) ≤ j ∧ j < n ∧ σ 23 j 3 = 1) := propext ⟨fun h => ⟨by omega, h.2⟩, fun h => ⟨by omega, h.2⟩⟩
        simp only [this]
theorem isb_own (H : J σ) : isb σ (PL σ (nh σ)) = true := by
  obtain ⟨I, P, -⟩ := H
  have hn := nh_e I
  have r3 := iv_z I
  have ek : allb (rdk σ (nh σ) (PL σ (nh σ))) (nh σ) = true := allb_i.mpr fun k hk => by
    unfold rdk
    rw [decide_eq_true_eq]
    intro hs
    have d := dg_b I (nh σ - 1 - k)
    rw [rdD_PL I hk hs]
    omega
  have eo : rdO σ (PL σ (nh σ)) = true := by
    unfold rdO
    rw [ek, rdR_PL I _ (Nat.le_refl _), Nat.sub_self]
    rfl
  have e := rdS_pub σ (nh σ) (PL σ (nh σ)) (nh σ)
  have I2 := rdS_iv I (n := nh σ) (z := PL σ (nh σ)) (by omega) (nh σ) (Nat.le_refl _) ek
  have r9 : ∀ j, j < nh σ → rdS σ (nh σ) (PL σ (nh σ)) (nh σ) 9 0 j = σ 8 0 j := fun j hj => by
    rw [rdS_9 I _ _ _ _ (Nat.le_refl _)]
    by_cases c : σ 23 j 3 = 1
    · rw [if_pos ⟨by omega, hj, c⟩, rdD_PL I (k := nh σ - 1 - j) (by omega) (by rw [show nh σ - 1 - (nh σ - 1 - j) = j by omega]; exact c), show nh σ - 1 - (nh σ - 1 - j) = j by omega]
      omega
    · rw [if_neg (fun q => c q.2.2)]
      have h1 := P.1.1 j hj c
      have h2 := bq8 I j
      omega
  generalize hρ : rdS σ (nh σ) (PL σ (nh σ)) (nh σ) = ρ at *
  have hcq : ∀ l, cq ρ 9 l = cq σ 8 l := fun l => by
    unfold cq
    rw [pub_nh e]
    exact cnt_e fun j hj => by rw [r9 j hj]
  have S : Sb ρ 9 := by
    refine ⟨fun i hi hs => ?_, fun l hl => ?_, fun i hi hs l hl hw => ?_⟩
    · rw [pub_nh e] at hi
      rw [pub_i e (by omega) (by omega)] at hs
      rw [r9 i hi]
      exact P.1.1 i hi hs
    · rw [pub_nl e] at hl
      rw [hcq, pub_i e (by omega) (by omega)]
      exact P.1.2.1 l hl
    · rw [pub_nh e] at hi
      rw [pub_nl e] at hl
      rw [pub_i e (by omega) (by omega)] at hs
      rw [r9 i hi, pub_wr e] at hw
      have := P.1.2.2 i hi hs l hl hw
      rw [hcq, pub_i e (by omega) (by omega)]
      refine ⟨this.1, fun j hj ej => ?_⟩
      rw [pub_nh e] at hj
      rw [r9 j hj] at ej
      rw [pub_wth e, pub_wth e]
      exact this.2 j hj ej
  have := sb_to I2 S (bq9 I2)
  unfold isb
  rw [eo, hρ, this.1, this.2]
  rfl
/-- whatever number is stable says the placing -/
theorem isb_dg (H : J σ) {z : Int} (h : isb σ z = true) {i : Nat} (hi : i < nh σ) (hs : σ 23 i 3 = 1) : rdD σ (nh σ) z (nh σ - 1 - i) = σ 8 0 i + 1 := by
  obtain ⟨I, P, -⟩ := H
  have hn := nh_e I
  unfold isb at h
  rw [Bool.and_eq_true, Bool.and_eq_true] at h
  obtain ⟨h1, h2, h3⟩ := h
  unfold rdO at h1
  rw [Bool.and_eq_true] at h1
  have I2 := rdS_iv I (n := nh σ) (z := z) (by omega) (nh σ) (Nat.le_refl _) h1.1
  have e := rdS_pub σ (nh σ) z (nh σ)
  have := only I P e I2 (fun i hi hs => by
    rw [pub_i e (by omega) (by omega)] at hs
    rw [rdS_9 I _ _ _ _ (Nat.le_refl _), if_neg (fun q => hs q.2.2)]
    omega) h2 (by rw [Bool.not_eq_true'] at h3; exact h3) i hi
  rw [rdS_9 I _ _ _ _ (Nat.le_refl _), if_pos ⟨by omega, hi, hs⟩] at this
  omega
/-- the number's digits as the law takes them -/
def pv (b x : Nat) : Nat → Nat
  | 0 => 0
  | k + 1 => 10 * pv b x k + x / b ^ k % b
theorem pv_b {b : Nat} (hb : 1 ≤ b ∧ b ≤ 4) (x : Nat) : ∀ k, pv b x k < 10 ^ k
  | 0 => by simp [pv]
  | k + 1 => by
    have := pv_b hb x k
    have h2 : x / b ^ k % b < b := Nat.mod_lt _ (by omega)
    simp only [pv]
    rw [Nat.pow_succ]
    omega
/-- the placing's own number among all -/
def xs (σ : ST) : Nat → Nat
  | 0 => 0
  | i + 1 => if σ 23 i 3 = 1 then xs σ i + (nl σ + 1) ^ fe σ i * (σ 8 0 i + 1).toNat else xs σ i
theorem xs_lt (I : Iv σ) : ∀ i, xs σ i < (nl σ + 1) ^ fe σ i
  | 0 => by simp [xs, fe]
  | i + 1 => by
    have ih := xs_lt I i
    have d := dg_b I i
    simp only [xs, fe]
    split
    · rw [Nat.pow_succ]
      have h1 : (nl σ + 1) ^ fe σ i * ((σ 8 0 i + 1).toNat + 1) ≤ (nl σ + 1) ^ fe σ i * (nl σ + 1) := Nat.mul_le_mul_left _ (by omega)
      rw [Nat.mul_add, Nat.mul_one] at h1
      omega
    · exact ih
theorem xs_r (σ : ST) (i : Nat) : ∀ k, ∃ r, xs σ (i + k) = xs σ i + (nl σ + 1) ^ fe σ i * r
  | 0 => ⟨0, by simp⟩
  | k + 1 => by
    obtain ⟨r, hr⟩ := xs_r σ i k
    by_cases c : σ 23 (i + k) 3 = 1
    · refine ⟨r + (nl σ + 1) ^ (fe σ (i + k) - fe σ i) * (σ 8 0 (i + k) + 1).toNat, ?_⟩
      have e : xs σ (i + (k + 1)) = xs σ (i + k) + (nl σ + 1) ^ fe σ (i + k) * (σ 8 0 (i + k) + 1).toNat := by
        show (if σ 23 (i + k) 3 = 1 then _ else _) = _
        rw [if_pos c]
        rfl
      have hp : (nl σ + 1) ^ fe σ (i + k) = (nl σ + 1) ^ fe σ i * (nl σ + 1) ^ (fe σ (i + k) - fe σ i) := by
        rw [← Nat.pow_add, Nat.add_sub_cancel' (fe_m σ i k)]
      rw [e, hr, hp, Nat.mul_add, Nat.mul_assoc, Nat.add_assoc]
    · refine ⟨r, ?_⟩
      show (if σ 23 (i + k) 3 = 1 then _ else xs σ (i + k)) = _
      rw [if_neg c]
      exact hr
theorem pv_xs (I : Iv σ) {n : Nat} : ∀ i, i ≤ n → pv (nl σ + 1) (xs σ n) (fe σ i) = PL σ i
  | 0, _ => rfl
  | i + 1, hi => by
    have ih := pv_xs I (n := n) i (by omega)
    by_cases c : σ 23 i 3 = 1
    · have d := dg_b I i
      have e1 : fe σ (i + 1) = fe σ i + 1 := by simp only [fe]; rw [if_pos c]
      have e2 : PL σ (i + 1) = 10 * PL σ i + (σ 8 0 i + 1).toNat := by simp only [PL]; rw [if_pos c]
      have e3 : xs σ (i + 1) = xs σ i + (nl σ + 1) ^ fe σ i * (σ 8 0 i + 1).toNat := by simp only [xs]; rw [if_pos c]
      obtain ⟨r, hr⟩ := xs_r σ (i + 1) (n - (i + 1))
      rw [show i + 1 + (n - (i + 1)) = n by omega, e3, e1, Nat.pow_succ, Nat.mul_assoc, Nat.add_assoc, ← Nat.mul_add] at hr
      have e4 : xs σ n / (nl σ + 1) ^ fe σ i = (σ 8 0 i + 1).toNat + (nl σ + 1) * r := by
        rw [hr, Nat.add_mul_div_left _ _ (Nat.pow_pos (by omega)), Nat.div_eq_of_lt (xs_lt I i), Nat.zero_add]
      have e5 : xs σ n / (nl σ + 1) ^ fe σ i % (nl σ + 1) = (σ 8 0 i + 1).toNat := by
        rw [e4, Nat.add_mul_mod_self_left, Nat.mod_eq_of_lt (by omega)]
      rw [e1, e2]
      simp only [pv]
      rw [ih, e5]
    · have e1 : fe σ (i + 1) = fe σ i := by simp only [fe]; rw [if_neg c]
      have e2 : PL σ (i + 1) = PL σ i := by simp only [PL]; rw [if_neg c]
      rw [e1, e2]
      exact ih
/-- one of the numbers is stable -/
theorem isb_ex (H : J σ) : ∃ x, x < (nl σ + 1) ^ fe σ (nh σ) ∧ isb σ (pv (nl σ + 1) x (fe σ (nh σ)) : Nat) = true :=
  ⟨xs σ (nh σ), xs_lt H.1 _, by rw [pv_xs H.1 _ (Nat.le_refl _)]; exact isb_own H⟩
end BestT
