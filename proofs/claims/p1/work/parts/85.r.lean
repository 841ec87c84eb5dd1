/-! THEORY: meals given by hours, or one lot behind the other: the same -/
section Greedy
variable {σ : ST}
def pre (σ : ST) (i j : Nat) : Prop := σ 24 i 1 < σ 24 j 1 ∨ (σ 24 i 1 = σ 24 j 1 ∧ i < j)
def Gd (σ : ST) (w : Int) (p : ST × Int) : Prop :=
  sumf (fun i => p.1 24 i 2) (nt σ) - p.2 = sumf (fun i => σ 24 i 2) (nt σ) - w ∧ 0 ≤ p.2 ∧ (∀ i, i < nt σ → 0 ≤ p.1 24 i 2 ∧ p.1 24 i 2 ≤ σ 24 i 2) ∧
  (∀ i j, i < nt σ → j < nt σ → p.1 24 j 2 < σ 24 j 2 → pre σ i j → p.1 24 i 2 = 0)
theorem mn_0 {a b : Int} (h : a = 0) (hb : 0 ≤ b) : mn a b = 0 := by
  unfold mn
  split <;> omega
theorem gd_take {w : Int} {p : ST × Int} {i : Nat} (H : Gd σ w p) (hi : i < nt σ) (h0 : 0 < p.2 → ∀ j, j < nt σ → pre σ j i → p.1 24 j 2 = 0) : Gd σ w (s3 p.1 24 i 2 (p.1 24 i 2 - mn p.2 (p.1 24 i 2)), p.2 - mn p.2 (p.1 24 i 2)) := by
  obtain ⟨H1, H2, H3, H4⟩ := H
  have bi := H3 i hi
  have mb := mn_b (a := p.2) (b := p.1 24 i 2) H2 bi.1
  have so : ∀ j, j ≠ i → s3 p.1 24 i 2 (p.1 24 i 2 - mn p.2 (p.1 24 i 2)) 24 j 2 = p.1 24 j 2 := fun j hj => by rw [s3_r (by omega)]
  refine ⟨?_, ?_, fun j hj => ?_, fun j k hj hk hlt hp => ?_⟩
  · dsimp only
    rw [sumf_s3 p.1 hi]
    omega
  · dsimp only
    omega
  · dsimp only
    by_cases c : j = i
    · rw [c, s3_s]
      omega
    · rw [so j c]
      exact H3 j hj
  · dsimp only at hlt ⊢
    have le : s3 p.1 24 i 2 (p.1 24 i 2 - mn p.2 (p.1 24 i 2)) 24 j 2 ≤ p.1 24 j 2 ∧ 0 ≤ s3 p.1 24 i 2 (p.1 24 i 2 - mn p.2 (p.1 24 i 2)) 24 j 2 := by
      by_cases c : j = i
      · rw [c, s3_s]
        omega
      · rw [so j c]
        exact ⟨Int.le_refl _, (H3 j hj).1⟩
    by_cases ck : k = i
    · subst ck
      by_cases cp : 0 < p.2
      · have := h0 cp j hj hp
        omega
      · have e0 := mn_0 (a := p.2) (b := p.1 24 k 2) (by omega) bi.1
        rw [s3_s, e0] at hlt
        have := H4 j k hj hk (by omega) hp
        omega
    · rw [so k ck] at hlt
      have := H4 j k hj hk hlt hp
      omega
theorem sumf_le {f g : Nat → Int} {n : Nat} (h : ∀ j, j < n → f j ≤ g j) : sumf f n ≤ sumf g n := by
  induction n with
  | zero => exact Int.le_refl _
  | succ n ih =>
    have h1 := ih fun j hj => h j (by omega)
    have h2 := h n (by omega)
    simp only [sumf]
    omega
theorem sumf_lt {f g : Nat → Int} {n i : Nat} (h : ∀ j, j < n → f j ≤ g j) (hi : i < n) (hl : f i < g i) : sumf f n < sumf g n := by
  induction n with
  | zero => omega
  | succ n ih =>
    have h1 := sumf_le (n := n) fun j hj => h j (by omega)
    have h2 := h n (by omega)
    simp only [sumf]
    by_cases c : i = n
    · subst c
      omega
    · have := ih (fun j hj => h j (by omega)) (by omega)
      omega
theorem pre_t (σ : ST) {i j : Nat} (h : i ≠ j) : pre σ i j ∨ pre σ j i := by
  unfold pre
  omega
theorem gd_le {w : Int} {p q : ST × Int} (H1 : Gd σ w p) (H2 : Gd σ w q) (c2 : 0 < q.2 → ∀ i, i < nt σ → q.1 24 i 2 = 0) : ∀ i, i < nt σ → q.1 24 i 2 ≤ p.1 24 i 2 := by
  intro i hi
  refine Decidable.byContradiction fun c => ?_
  have b1 := H1.2.2.1 i hi
  have b2' := H2.2.2.1 i hi
  have q0 : q.2 = 0 := by
    refine Decidable.byContradiction fun c' => ?_
    have := c2 (by have := H2.2.1; omega) i hi
    omega
  have le : ∀ j, j < nt σ → p.1 24 j 2 ≤ q.1 24 j 2 := fun j hj => by
    by_cases e : j = i
    · rw [e]
      omega
    · rcases pre_t σ e with h | h
      · have := H1.2.2.2 j i hj hi (by omega) h
        have := (H2.2.2.1 j hj).1
        omega
      · refine Decidable.byContradiction fun c' => ?_
        have k := (H1.2.2.1 j hj).2
        have := H2.2.2.2 i j hi hj (by omega) h
        omega
  have := sumf_lt le hi (by omega)
  have s1 := H1.1
  have s2 := H2.1
  have := H1.2.1
  omega
theorem gd_u {w : Int} {p q : ST × Int} (H1 : Gd σ w p) (H2 : Gd σ w q) (c1 : 0 < p.2 → ∀ i, i < nt σ → p.1 24 i 2 = 0) (c2 : 0 < q.2 → ∀ i, i < nt σ → q.1 24 i 2 = 0) : (∀ i, i < nt σ → p.1 24 i 2 = q.1 24 i 2) ∧ p.2 = q.2 := by
  have l1 := gd_le H1 H2 c2
  have l2 := gd_le H2 H1 c1
  have e : ∀ i, i < nt σ → p.1 24 i 2 = q.1 24 i 2 := fun i hi => by
    have := l1 i hi
    have := l2 i hi
    omega
  refine ⟨e, ?_⟩
  have s := sumf_e (n := nt σ) (f := fun i => p.1 24 i 2) (g := fun i => q.1 24 i 2) e
  have s1 := H1.1
  have s2 := H2.1
  omega
theorem gd_0 (I : Iv σ) {w : Int} (hw : 0 ≤ w) : Gd σ w (σ, w) := by
  have hn := nt_e I
  refine ⟨rfl, hw, fun i hi => ?_, fun i j hi hj h => ?_⟩
  · have := iv_lo I (i := i) (by omega)
    exact ⟨by dsimp only; omega, Int.le_refl _⟩
  · dsimp only at h
    omega
/-- the next to spoil is the first of them -/
theorem nts_f (τ : ST) : ∀ m : Nat, (nts τ m < 0 → ∀ i, i < m → τ 24 i 2 ≤ 0) ∧ (0 ≤ nts τ m → ∀ i, i < m → 0 < τ 24 i 2 → ¬ pre τ i (nts τ m).toNat)
  | 0 => ⟨fun _ i hi => by omega, fun h => by simp [nts] at h⟩
  | m + 1 => by
    obtain ⟨P1, P2⟩ := nts_f τ m
    have b := nts_b τ m
    simp only [nts]
    by_cases c : 0 < τ 24 m 2 ∧ (nts τ m < 0 ∨ τ 24 m 1 < τ 24 (nts τ m).toNat 1)
    · rw [if_pos c]
      refine ⟨fun h => by omega, fun _ i hi h0 hp => ?_⟩
      rw [Int.toNat_natCast] at hp
      by_cases ci : i = m
      · rw [ci] at hp
        unfold pre at hp
        omega
      · rcases c.2 with h | h
        · have := P1 h i (by omega)
          omega
        · by_cases c0 : nts τ m < 0
          · have := P1 c0 i (by omega)
            omega
          · refine P2 (by omega) i (by omega) h0 ?_
            unfold pre at hp ⊢
            omega
    · rw [if_neg c]
      refine ⟨fun h i hi => ?_, fun h i hi h0 hp => ?_⟩
      · by_cases ci : i = m
        · subst ci
          refine Decidable.byContradiction fun q => c ⟨by omega, Or.inl h⟩
        · exact P1 h i (by omega)
      · by_cases ci : i = m
        · subst ci
          refine c ⟨h0, Or.inr ?_⟩
          unfold pre at hp
          omega
        · exact P2 h i (by omega) h0 hp
theorem ho_1 (σ : ST) (w : Int) (k i : Nat) : (ho σ w k).1 24 i 1 = σ 24 i 1 := ho_k σ w (by omega) k
theorem gd_ho (I : Iv σ) {w : Int} (hw : 0 ≤ w ∧ w ≤ 99) : ∀ k : Nat, Gd σ w (ho σ w k) ∧ ((ho σ w k).2 = 0 ∨ cnt (fun i => decide (0 < (ho σ w k).1 24 i 2)) (nt σ) ≤ (nt σ : Int) - k ∨ ∀ i, i < nt σ → (ho σ w k).1 24 i 2 = 0)
  | 0 => ⟨gd_0 I hw.1, Or.inr (Or.inl (by have := (cnt_b (fun i => decide (0 < (ho σ w 0).1 24 i 2)) (nt σ)).2; simp only [Int.natCast_zero, Int.sub_zero]; exact this))⟩
  | k + 1 => by
    obtain ⟨H, C⟩ := gd_ho I hw k
    have V := ho_iv I hw k
    have b := nts_b (ho σ w k).1 (nt σ)
    have F := nts_f (ho σ w k).1 (nt σ)
    have Np := nts_p (ho σ w k).1 (nt σ)
    have epre : ∀ i j, pre (ho σ w k).1 i j = pre σ i j := fun i j => by
      unfold pre
      rw [ho_1, ho_1]
    by_cases c : 0 ≤ nts (ho σ w k).1 (nt σ)
    · have e : ho σ w (k + 1) = (s3 (ho σ w k).1 24 (nts (ho σ w k).1 (nt σ)).toNat 2 ((ho σ w k).1 24 (nts (ho σ w k).1 (nt σ)).toNat 2 - mn (ho σ w k).2 ((ho σ w k).1 24 (nts (ho σ w k).1 (nt σ)).toNat 2)), (ho σ w k).2 - mn (ho σ w k).2 ((ho σ w k).1 24 (nts (ho σ w k).1 (nt σ)).toNat 2)) := by
        simp only [ho]
        rw [if_pos c]
      rw [e]
      have N := Np c
      generalize hm : (nts (ho σ w k).1 (nt σ)).toNat = m at *
      have mn' : m < nt σ := by omega
      refine ⟨gd_take H mn' fun _ j hj hp => ?_, ?_⟩
      · have bj := (H.2.2.1 j hj).1
        refine Decidable.byContradiction fun q => F.2 c j hj (by omega) ?_
        rw [epre]
        exact hp
      · generalize ho σ w k = p at *
        dsimp only
        have mb := mn_b (a := p.2) (b := p.1 24 m 2) H.2.1 (by omega)
        by_cases c2 : p.2 ≤ p.1 24 m 2
        · left
          have : mn p.2 (p.1 24 m 2) = p.2 := by unfold mn; rw [if_neg (by omega)]
          omega
        · right
          left
          have em' : mn p.2 (p.1 24 m 2) = p.1 24 m 2 := by unfold mn; rw [if_pos (by omega)]
          rw [em', Int.sub_self]
          have ch := cnt_ch (p := fun i => decide (0 < p.1 24 i 2)) (q := fun i => decide (0 < s3 p.1 24 m 2 0 24 i 2)) mn' fun j _ hne => by
            show decide _ = decide _
            rw [s3_r (by omega)]
          have e1 : decide (0 < p.1 24 m 2) = true := decide_eq_true N
          have e2 : decide (0 < s3 p.1 24 m 2 0 24 m 2) = false := by rw [s3_s]; rfl
          rw [e1, e2, b2_t, b2_f] at ch
          rcases C with h | h | h
          · omega
          · omega
          · have := h m mn'
            omega
    · have e : ho σ w (k + 1) = ho σ w k := by
        simp only [ho]
        rw [if_neg c]
      rw [e]
      refine ⟨H, Or.inr (Or.inr fun i hi => ?_)⟩
      have := F.1 (by omega) i hi
      have := (H.2.2.1 i hi).1
      omega
theorem ho_c (I : Iv σ) {w : Int} (hw : 0 ≤ w ∧ w ≤ 99) : Gd σ w (ho σ w (nt σ)) ∧ (0 < (ho σ w (nt σ)).2 → ∀ i, i < nt σ → (ho σ w (nt σ)).1 24 i 2 = 0) := by
  obtain ⟨H, C⟩ := gd_ho I hw (nt σ)
  refine ⟨H, fun h0 i hi => ?_⟩
  rcases C with h | h | h
  · omega
  · have b := (H.2.2.1 i hi).1
    refine Decidable.byContradiction fun q => ?_
    have := cnt_ge (p := fun i => decide (0 < (ho σ w (nt σ)).1 24 i 2)) hi (decide_eq_true (by omega))
    omega
  · exact h i hi
/-- what the reference has looked at -/
def Gq (σ : ST) (t : Int) (i : Nat) (p : ST × Int) : Prop := (∀ j, j < nt σ → (σ 24 j 1 < t ∨ (σ 24 j 1 = t ∧ j < i)) → 0 < p.2 → p.1 24 j 2 = 0) ∧ (∀ j, p.1 24 j 1 = σ 24 j 1)
theorem gq_in {w t : Int} {p : ST × Int} (H : Gd σ w p) (K : Gq σ t 0 p) : ∀ i, i ≤ nt σ → Gd σ w (gin t p i) ∧ Gq σ t i (gin t p i)
  | 0, _ => ⟨H, K⟩
  | i + 1, hi => by
    obtain ⟨H', K1, K2⟩ := gq_in H K i (by omega)
    have e : gin t p (i + 1) = gi1 t (gin t p i) i := rfl
    rw [e]
    generalize gin t p i = u at *
    unfold gi1
    by_cases c : u.1 24 i 1 = t
    · rw [if_pos c]
      rw [K2] at c
      have bi := H'.2.2.1 i (by omega)
      have mb := mn_b (a := u.2) (b := u.1 24 i 2) H'.2.1 bi.1
      refine ⟨gd_take H' (by omega) fun h0 j hj hp => K1 j hj (by unfold pre at hp; omega) h0, fun j hj hp h0 => ?_, fun j => ?_⟩
      · dsimp only at h0 ⊢
        by_cases cj : j = i
        · rw [cj, s3_s]
          have : mn u.2 (u.1 24 i 2) = u.1 24 i 2 := by
            unfold mn at h0 ⊢
            split
            · rfl
            · rename_i q
              rw [if_neg q] at h0
              omega
          omega
        · rw [s3_r (by omega)]
          exact K1 j hj (by omega) (by omega)
      · dsimp only
        rw [← K2 j]
        by_cases cj : j = i
        · subst cj
          simp [s3]
        · rw [s3_r (by omega)]
    · rw [if_neg c]
      rw [K2] at c
      refine ⟨H', fun j hj hp h0 => K1 j hj ?_ h0, K2⟩
      by_cases cj : j = i
      · subst cj
        omega
      · omega
theorem gq_ou (I : Iv σ) (L : ∀ i, i < nt σ → σ 24 i 1 < σ 1 0 2 → σ 24 i 2 = 0) {w : Int} (hw : 0 ≤ w) : ∀ k : Nat, Gd σ w (gou σ w k) ∧ Gq σ (σ 1 0 2 + k) 0 (gou σ w k)
  | 0 => ⟨gd_0 I hw, fun j hj hp _ => L j hj (by omega), fun _ => rfl⟩
  | k + 1 => by
    obtain ⟨H, K⟩ := gq_ou I L hw k
    obtain ⟨H2, K2⟩ := gq_in H K (nt σ) (Nat.le_refl _)
    refine ⟨H2, fun j hj hp h0 => K2.1 j hj (by omega) h0, K2.2⟩
/-- both ways of giving -/
theorem give_e (I : Iv σ) (L : ∀ i, i < nt σ → σ 24 i 1 < σ 1 0 2 → σ 24 i 2 = 0) (M : ∀ i, i < nt σ → σ 24 i 1 ≤ σ 1 0 2 + 99) {w : Int} (hw : 0 ≤ w ∧ w ≤ 99) : (∀ i, i < nt σ → (gou σ w 100).1 24 i 2 = (ho σ w (nt σ)).1 24 i 2) ∧ (gou σ w 100).2 = (ho σ w (nt σ)).2 := by
  obtain ⟨H, K⟩ := gq_ou I L hw.1 100
  obtain ⟨H2, C2⟩ := ho_c I hw
  exact gd_u H H2 (fun h0 i hi => K.1 i hi (Or.inl (by have := M i hi; omega)) h0) C2
end Greedy
