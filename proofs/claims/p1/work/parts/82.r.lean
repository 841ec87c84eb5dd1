/-! THEORY: the reference's placing, household by household -/
section Serial
variable {σ : ST}
/-- the best liked of a set -/
def bsi (σ : ST) (s : Nat) : Nat → Int
  | 0 => -1
  | i + 1 => if s.testBit i = true ∧ (bsi σ s i < 0 ∨ gb σ i (bsi σ s i).toNat = true) then i else bsi σ s i
theorem bsi_b (σ : ST) (s : Nat) : ∀ i, -1 ≤ bsi σ s i ∧ bsi σ s i < i
  | 0 => by simp [bsi]
  | i + 1 => by
    have := bsi_b σ s i
    simp only [bsi]
    split <;> omega
theorem bsi_p (I : Iv σ) (s : Nat) : ∀ n, n ≤ nh σ → (bsi σ s n < 0 → ∀ j, j < n → s.testBit j = false) ∧ (0 ≤ bsi σ s n → s.testBit (bsi σ s n).toNat = true ∧ ∀ j, j < n → s.testBit j = true → j ≠ (bsi σ s n).toNat → wth σ j < wth σ (bsi σ s n).toNat)
  | 0, _ => ⟨fun _ j hj => by omega, fun h => by simp [bsi] at h⟩
  | n + 1, hn => by
    obtain ⟨P1, P2⟩ := bsi_p I s n (by omega)
    have b := bsi_b σ s n
    simp only [bsi]
    by_cases c : s.testBit n = true
    · by_cases c2 : bsi σ s n < 0
      · rw [if_pos ⟨c, Or.inl c2⟩]
        refine ⟨fun h => by omega, fun _ => ?_⟩
        rw [Int.toNat_natCast]
        refine ⟨c, fun j hj ht hne => ?_⟩
        have := P1 c2 j (by omega)
        rw [ht] at this
        cases this
      · obtain ⟨P3, P4⟩ := P2 (by omega)
        have g := gb_w I (i := n) (j := (bsi σ s n).toNat) (by omega) (by omega)
        by_cases c3 : gb σ n (bsi σ s n).toNat = true
        · rw [if_pos ⟨c, Or.inr c3⟩]
          rw [g, decide_eq_true_eq] at c3
          refine ⟨fun h => by omega, fun _ => ?_⟩
          rw [Int.toNat_natCast]
          refine ⟨c, fun j hj ht hne => ?_⟩
          by_cases c4 : j = (bsi σ s n).toNat
          · rw [c4]
            exact c3
          · have := P4 j (by omega) ht c4
            omega
        · rw [if_neg (by rintro ⟨-, h | h⟩ <;> contradiction)]
          refine ⟨fun h => absurd h c2, fun _ => ⟨P3, fun j hj ht hne => ?_⟩⟩
          by_cases c4 : j = n
          · subst c4
            rw [g, decide_eq_true_eq] at c3
            have : wth σ j ≠ wth σ (bsi σ s j).toNat := fun e => hne (wth_i I (by omega) (by omega) e)
            omega
          · exact P4 j (by omega) ht hne
    · rw [if_neg (fun h => c h.1)]
      refine ⟨fun h j hj => ?_, fun h => ⟨(P2 h).1, fun j hj ht hne => ?_⟩⟩
      · by_cases c4 : j = n
        · rw [c4, Bool.not_eq_true] at *
          exact c
        · exact P1 h j (by omega)
      · by_cases c4 : j = n
        · rw [c4] at ht
          exact absurd ht c
        · exact (P2 h).2 j (by omega) ht hne
/-- its favourite of the halls that have a room -/
def fvi (σ : ST) (b : Nat) (ε : Nat → Int) (z : Int) : Nat → Int
  | 0 => z
  | i + 1 => if 0 < ε i ∧ wr σ b i (fvi σ b ε z i) = true then i else fvi σ b ε z i
theorem fvi_p (σ : ST) (b : Nat) (ε : Nat → Int) : ∀ n : Nat, (fvi σ b ε (-1) n = -1 ∨ (0 ≤ fvi σ b ε (-1) n ∧ fvi σ b ε (-1) n < n ∧ 0 < ε (fvi σ b ε (-1) n).toNat)) ∧ ∀ l : Nat, l < n → wr σ b l (fvi σ b ε (-1) n) = true → ε l ≤ 0
  | 0 => ⟨Or.inl rfl, fun l hl => by omega⟩
  | n + 1 => by
    obtain ⟨P1, P2⟩ := fvi_p σ b ε n
    simp only [fvi]
    by_cases c : 0 < ε n ∧ wr σ b n (fvi σ b ε (-1) n) = true
    · rw [if_pos c]
      refine ⟨Or.inr ⟨by omega, by omega, by rw [Int.toNat_natCast]; exact c.1⟩, fun l hl hw => ?_⟩
      by_cases cl : l = n
      · rw [cl, wr_i] at hw
        cases hw
      · exact P2 l (by omega) (wr_tr hw c.2)
    · rw [if_neg c]
      refine ⟨?_, fun l hl hw => ?_⟩
      · rcases P1 with h | h
        · exact Or.inl h
        · exact Or.inr ⟨h.1, by omega, h.2.2⟩
      · by_cases cl : l = n
        · subst cl
          refine Decidable.byContradiction fun q => c ⟨by omega, hw⟩
        · exact P2 l (by omega) hw
/-- some are left, the others have chosen -/
def SD (σ : ST) (s : Nat) (μ ε : Nat → Int) : Prop :=
  (∀ i, i < nh σ → s.testBit i = true → σ 23 i 3 = 1 ∧ μ i = -1) ∧ (∀ i, i < nh σ → σ 23 i 3 ≠ 1 → μ i = -1) ∧ (∀ i, i < nh σ → -1 ≤ μ i ∧ μ i < nl σ) ∧
  (∀ l : Nat, l < nl σ → ε l = σ 22 l 1 - cn μ (nh σ) l ∧ 0 ≤ ε l) ∧
  (∀ i, i < nh σ → σ 23 i 3 = 1 → s.testBit i = false → (∀ l : Nat, l < nl σ → wr σ i l (μ i) = true → ε l ≤ 0 ∧ ∀ j, j < nh σ → μ j = l → wth σ i < wth σ j) ∧ ∀ j, j < nh σ → s.testBit j = true → wth σ j < wth σ i)
theorem b2n (l l' : Nat) : b2 (decide ((l : Int) = l')) = if l' = l then 1 else 0 := by
  rw [b2_d]
  split <;> split <;> omega
theorem sd_step {s b : Nat} {μ ε : Nat → Int} {f : Int} (H : SD σ s μ ε) (hb : b < nh σ) (ht : s.testBit b = true) (hm : ∀ j, j < nh σ → s.testBit j = true → j ≠ b → wth σ j < wth σ b)
    (hf : f = -1 ∨ (0 ≤ f ∧ f < nl σ ∧ 0 < ε f.toNat)) (hw : ∀ l : Nat, l < nl σ → wr σ b l f = true → ε l ≤ 0) : SD σ (anN s (2 ^ b)) (mu1 μ b f) (if f = -1 then ε else mu1 ε f.toNat (ε f.toNat - 1)) := by
  obtain ⟨S1, S2, S3, S4, S5⟩ := H
  have bt : ∀ j, (anN s (2 ^ b)).testBit j = (s.testBit j && !decide (b = j)) := fun j => by rw [anN_t, Nat.testBit_two_pow]
  have le : ∀ l : Nat, (if f = -1 then ε else mu1 ε f.toNat (ε f.toNat - 1)) l ≤ ε l := fun l => by
    split
    · exact Int.le_refl _
    · unfold mu1
      split
      · rw [‹l = _›]
        omega
      · exact Int.le_refl _
  have mo : ∀ j, j ≠ b → mu1 μ b f j = μ j := fun j hj => by simp [mu1, hj]
  have ms : mu1 μ b f b = f := by simp [mu1]
  have bb := S1 b hb ht
  refine ⟨fun i hi h => ?_, fun i hi h => ?_, fun i hi => ?_, fun l hl => ?_, fun i hi hs h => ⟨fun l hl hw2 => ?_, fun j hj h2 => ?_⟩⟩
  · rw [bt] at h
    simp only [Bool.and_eq_true, Bool.not_eq_true', decide_eq_false_iff_not] at h
    rw [mo i (fun q => h.2 q.symm)]
    exact S1 i hi h.1
  · have : i ≠ b := fun q => h (by rw [q]; exact bb.1)
    rw [mo i this]
    exact S2 i hi h
  · by_cases c : i = b
    · rw [c, ms]
      rcases hf with h | h <;> omega
    · rw [mo i c]
      exact S3 i hi
  · have q := S4 l hl
    rw [cn_1 hb f l]
    have e0 : decide (μ b = (l : Int)) = false := by rw [decide_eq_false_iff_not]; omega
    rw [e0, b2_f]
    rcases hf with h | h
    · have e1 : decide (f = (l : Int)) = false := by rw [decide_eq_false_iff_not]; omega
      rw [e1, b2_f, if_pos h]
      omega
    · have hne : ¬ f = -1 := by omega
      rw [if_neg hne]
      unfold mu1
      by_cases c : l = f.toNat
      · have e1 : decide (f = (l : Int)) = true := by rw [decide_eq_true_eq]; omega
        rw [e1, b2_t, if_pos c, ← c]
        have := h.2.2
        rw [← c] at this
        omega
      · have e1 : decide (f = (l : Int)) = false := by rw [decide_eq_false_iff_not]; omega
        rw [e1, b2_f, if_neg c]
        omega
  · have lel := le l
    by_cases c : i = b
    · subst c
      rw [ms] at hw2
      have e := hw l hl hw2
      refine ⟨by omega, fun j hj ej => ?_⟩
      by_cases cj : j = i
      · rw [cj, ms] at ej
        rw [ej, wr_i] at hw2
        cases hw2
      · rw [mo j cj] at ej
        have jf : σ 23 j 3 = 1 := Decidable.byContradiction fun q => by have := S2 j hj q; omega
        have js : s.testBit j = false := by
          cases q : s.testBit j with
          | false => rfl
          | true => have := (S1 j hj q).2; omega
        exact (S5 j hj jf js).2 i hi ht
    · rw [mo i c] at hw2
      have is_ : s.testBit i = false := by
        rw [bt] at h
        cases q : s.testBit i with
        | false => rfl
        | true =>
          rw [q] at h
          simp only [Bool.true_and, Bool.not_eq_false', decide_eq_true_eq] at h
          exact absurd h.symm c
      obtain ⟨k1, k2⟩ := (S5 i hi hs is_).1 l hl hw2
      refine ⟨by omega, fun j hj ej => ?_⟩
      by_cases cj : j = b
      · rw [cj, ms] at ej
        rcases hf with h3 | h3
        · omega
        · have := h3.2.2
          rw [ej, Int.toNat_natCast] at this
          omega
      · rw [mo j cj] at ej
        exact k2 j hj ej
  · rw [bt] at h2
    simp only [Bool.and_eq_true, Bool.not_eq_true', decide_eq_false_iff_not] at h2
    by_cases c : i = b
    · rw [c]
      exact hm j hj h2.1 (fun q => h2.2 q.symm)
    · have is_ : s.testBit i = false := by
        rw [bt] at h
        cases q : s.testBit i with
        | false => rfl
        | true =>
          rw [q] at h
          simp only [Bool.true_and, Bool.not_eq_false', decide_eq_true_eq] at h
          exact absurd h.symm c
      exact (S5 i hi hs is_).2 j hj h2.1
/-- cut to the households that there are -/
def cut (σ : ST) (μ : Nat → Int) : Nat → Int := fun j => if j < nh σ then μ j else -1
theorem cn_e {μ ν : Nat → Int} {n l : Nat} (h : ∀ j, j < n → μ j = ν j) : cn μ n l = cn ν n l := by
  unfold cn
  induction n with
  | zero => rfl
  | succ n ih =>
    simp only [cnt]
    rw [ih fun j hj => h j (by omega), h n (by omega)]
theorem cut_e {μ : Nat → Int} {j : Nat} (h : j < nh σ) : cut σ μ j = μ j := if_pos h
theorem cut_iv (I : Iv σ) {μ : Nat → Int} (h : ∀ i, i < nh σ → -1 ≤ μ i ∧ μ i < nl σ) : Iv (stP σ (cut σ μ)) := by
  have hn := nh_e I
  have hl := nl_e I
  have r3 := iv_z I
  refine stP_iv I (fun j => ?_) (fun j hj => ?_)
  · unfold cut
    split
    · have := h j ‹_›
      omega
    · omega
  · unfold cut
    rw [if_neg (by omega)]
/-- what stable says of a row -/
def StN (σ : ST) (g : Nat → Int) : Prop := ∀ l : Nat, l < nl σ → cn g (nh σ) l ≤ σ 22 l 1 ∧ ∀ i, i < nh σ → σ 23 i 3 = 1 → wr σ i l (g i) = true → σ 22 l 1 ≤ cn g (nh σ) l ∧ ∀ j, j < nh σ → g j = l → gb σ i j = false
theorem stP_wr {g : Nat → Int} (i : Nat) (a b : Int) : wr (stP σ g) i a b = wr σ i a b := pub_wr (stP_pub g) i a b
theorem stn_sb (I : Iv σ) {ρ : ST} (e : pub ρ = pub σ) {g : Nat → Int} (e9 : ∀ j, j < nh σ → ρ 9 0 j = g j) (hu : ∀ i, i < nh σ → σ 23 i 3 ≠ 1 → g i < 0) : StN σ g ↔ Sb ρ 9 := by
  have en : nh ρ = nh σ := pub_nh e
  have el : nl ρ = nl σ := pub_nl e
  have e23 : ∀ i f, ρ 23 i f = σ 23 i f := fun i f => pub_i e (by omega) (by omega)
  have e22 : ∀ i, ρ 22 i 1 = σ 22 i 1 := fun i => pub_i e (by omega) (by omega)
  have ew : ∀ i, wth ρ i = wth σ i := fun i => by
    unfold wth
    rw [e23, e23]
  have ec : ∀ l, cq ρ 9 l = cn g (nh σ) l := fun l => by
    rw [cq_cn, en]
    exact cn_e fun j hj => e9 j hj
  constructor
  · intro H
    refine ⟨fun i hi hs => ?_, fun l hl => ?_, fun i hi hs l hl hw => ?_⟩
    · rw [en] at hi
      rw [e23] at hs
      rw [e9 i hi]
      exact hu i hi hs
    · rw [el] at hl
      rw [ec, e22]
      exact (H l hl).1
    · rw [en] at hi
      rw [el] at hl
      rw [e23] at hs
      rw [e9 i hi, pub_wr e] at hw
      rw [ec, e22, en]
      have := (H l hl).2 i hi hs hw
      refine ⟨this.1, fun j hj ej => ?_⟩
      rw [e9 j hj] at ej
      have k := this.2 j hj ej
      rw [gb_w I hi hj, decide_eq_false_iff_not] at k
      have : wth σ i ≠ wth σ j := fun q => by
        have := wth_i I hi hj q
        rw [this, ej, wr_i] at hw
        cases hw
      rw [ew, ew]
      omega
  · intro H l hl
    obtain ⟨H1, H2, H3⟩ := H
    refine ⟨by have := H2 l (by omega); rw [ec, e22] at this; exact this, fun i hi hs hw => ?_⟩
    have := H3 i (by omega) (by rw [e23]; exact hs) l (by omega) (by rw [e9 i hi, pub_wr e]; exact hw)
    rw [ec, e22] at this
    refine ⟨this.1, fun j hj ej => ?_⟩
    have k := this.2 j (by omega) (by rw [e9 j hj]; exact ej)
    rw [ew, ew] at k
    rw [gb_w I hi hj, decide_eq_false_iff_not]
    omega
/-- whatever is stable is the placing -/
theorem stn_pl (I : Iv σ) (P : Pl σ) {g : Nat → Int} (hg : ∀ i, i < nh σ → -1 ≤ g i ∧ g i < nl σ) (hu : ∀ i, i < nh σ → σ 23 i 3 ≠ 1 → g i < 0) (H : StN σ g) : ∀ i, i < nh σ → g i = σ 8 0 i := by
  intro i hi
  have I2 := cut_iv I hg
  have S9 := (stn_sb I (stP_pub (cut σ g)) (fun j hj => by rw [stP_9, cut_e hj]) hu).mp H
  have S8 := pub_Sb I I2 (stP_pub (cut σ g)) P.1
  have := sb_u I2 S9 S8 (bq9 I2) (bq8 I2) i hi
  rw [stP_9, cut_e hi] at this
  exact this
theorem pl_stn (I : Iv σ) (P : Pl σ) {g : Nat → Int} (h : ∀ i, i < nh σ → g i = σ 8 0 i) : StN σ g := by
  intro l hl
  have ec : cn g (nh σ) l = cq σ 8 l := by
    rw [cq_cn]
    exact cn_e h
  rw [ec]
  refine ⟨P.1.2.1 l hl, fun i hi hs hw => ?_⟩
  rw [h i hi] at hw
  have := P.1.2.2 i hi hs l hl hw
  refine ⟨this.1, fun j hj ej => ?_⟩
  rw [h j hj] at ej
  have k := this.2 j hj ej
  rw [gb_w I hi hj, decide_eq_false_iff_not]
  omega
theorem sd_0 (I : Iv σ) {μ ε : Nat → Int} (hm : ∀ i, i < nh σ → μ i = -1) (he : ∀ l : Nat, l < nl σ → ε l = σ 22 l 1) : SD σ (febs σ) μ ε := by
  have hl := nl_e I
  refine ⟨fun i hi h => ?_, fun i hi _ => hm i hi, fun i hi => ?_, fun l hl' => ?_, fun i hi hs h => ?_⟩
  · unfold febs at h
    rw [feb_t] at h
    simp only [Bool.and_eq_true, decide_eq_true_eq] at h
    exact ⟨h.2, hm i hi⟩
  · rw [hm i hi]
    omega
  · have c0 : cn μ (nh σ) l = 0 := by
      unfold cn
      exact cnt_0 fun i hi => by rw [hm i hi]; simp <;> omega
    have := iv_ha I (i := l) (by omega)
    rw [c0, he l hl']
    omega
  · unfold febs at h
    rw [feb_t, hs] at h
    simp at h
    omega
theorem sd_end (I : Iv σ) (P : Pl σ) {s : Nat} {μ ε : Nat → Int} (H : SD σ s μ ε) (h0 : ∀ i, i < nh σ → s.testBit i = false) : ∀ i, i < nh σ → μ i = σ 8 0 i := by
  obtain ⟨S1, S2, S3, S4, S5⟩ := H
  refine stn_pl I P S3 (fun i hi hs => by have := S2 i hi hs; omega) fun l hl => ⟨by have := S4 l hl; omega, fun i hi hs hw => ?_⟩
  have q := (S5 i hi hs (h0 i hi)).1 l hl hw
  have q2 := S4 l hl
  refine ⟨by omega, fun j hj ej => ?_⟩
  have k := q.2 j hj ej
  rw [gb_w I hi hj, decide_eq_false_iff_not]
  omega
end Serial
