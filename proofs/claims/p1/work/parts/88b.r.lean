/-! PERSONS: the class's groups and the reference's are the same many -/
section PersT
variable {σ : ST}
def unk (σ : ST) (j : Nat) : Bool := decide (σ 25 j 1 = 0)
def ndl (g : Nat → Int) (P : Nat → Bool) (n : Nat) : Int := cnt (fun L => anyb (fun j => P j && decide (g j = (L : Int))) n) n
theorem any_l {g : Nat → Int} {P : Nat → Bool} {n L : Nat} : (anyb (fun j => P j && decide (g j = (L : Int))) n = true) ↔ ∃ j, j < n ∧ P j = true ∧ g j = L := by
  rw [anyb_i]
  constructor
  · rintro ⟨j, h1, h2⟩
    simp only [Bool.and_eq_true, decide_eq_true_eq] at h2
    exact ⟨j, h1, h2⟩
  · rintro ⟨j, h1, h2⟩
    exact ⟨j, h1, by simp only [Bool.and_eq_true, decide_eq_true_eq]; exact h2⟩
theorem bool_e {a b : Bool} (h : a = true ↔ b = true) : a = b := Bool.eq_iff_iff.mpr h
theorem jnG_i {g : Nat → Int} {a b : Int} {n k : Nat} (hk : k < n) : jnG g a b n k = if g k = a then b else g k := by
  unfold jnG
  by_cases c : g k = a
  · rw [if_pos ⟨hk, c⟩, if_pos c]
  · rw [if_neg (fun q => c q.2), if_neg c]
/-- two labels become one -/
theorem ndl_j {g : Nat → Int} {P : Nat → Bool} {n i j : Nat} (H : gok n g) (hi : i < n) (hj : j < n) (pi : P i = true) (pj : P j = true) (hne : ¬ g i = g j) : ndl (jnG g (g i) (g j) n) P n = ndl g P n - 1 := by
  have gi := H i hi
  have gj := H j hj
  have hs : ∀ L : Nat, L < n → L ≠ (g i).toNat → anyb (fun k => P k && decide (g k = (L : Int))) n = anyb (fun k => P k && decide (jnG g (g i) (g j) n k = (L : Int))) n := fun L hL hn => bool_e (by
    rw [any_l, any_l]
    constructor
    · rintro ⟨k, h1, h2, h3⟩
      exact ⟨k, h1, h2, by rw [jnG_i h1, if_neg (by omega)]; exact h3⟩
    · rintro ⟨k, h1, h2, h3⟩
      rw [jnG_i h1] at h3
      split at h3
      · exact ⟨j, hj, pj, h3⟩
      · exact ⟨k, h1, h2, h3⟩)
  have p1 : anyb (fun k => P k && decide (g k = (((g i).toNat : Nat) : Int))) n = true := any_l.mpr ⟨i, hi, pi, by omega⟩
  have p2 : anyb (fun k => P k && decide (jnG g (g i) (g j) n k = (((g i).toNat : Nat) : Int))) n = false := by
    cases q : anyb (fun k => P k && decide (jnG g (g i) (g j) n k = (((g i).toNat : Nat) : Int))) n with
    | false => rfl
    | true =>
      obtain ⟨k, h1, h2, h3⟩ := any_l.mp q
      rw [jnG_i h1] at h3
      split at h3 <;> omega
  have hc := cnt_ch (p := fun L : Nat => anyb (fun k => P k && decide (g k = (L : Int))) n) (q := fun L : Nat => anyb (fun k => P k && decide (jnG g (g i) (g j) n k = (L : Int))) n) (n := n) (i := (g i).toNat) (by omega) hs
  simp only [p1, p2, b2_t, b2_f] at hc
  unfold ndl
  omega
/-- one label goes -/
theorem ndl_d {g : Nat → Int} {P P' : Nat → Bool} {n lo : Nat} (H : gok n g) (hlo : lo < n) (plo : P lo = true) (hP : ∀ k, k < n → (P' k = true ↔ (P k = true ∧ g k ≠ g lo))) : ndl g P' n = ndl g P n - 1 := by
  have gl := H lo hlo
  have hs : ∀ L : Nat, L < n → L ≠ (g lo).toNat → anyb (fun k => P k && decide (g k = (L : Int))) n = anyb (fun k => P' k && decide (g k = (L : Int))) n := fun L hL hn => bool_e (by
    rw [any_l, any_l]
    constructor
    · rintro ⟨k, h1, h2, h3⟩
      exact ⟨k, h1, (hP k h1).mpr ⟨h2, by omega⟩, h3⟩
    · rintro ⟨k, h1, h2, h3⟩
      exact ⟨k, h1, ((hP k h1).mp h2).1, h3⟩)
  have p1 : anyb (fun k => P k && decide (g k = (((g lo).toNat : Nat) : Int))) n = true := any_l.mpr ⟨lo, hlo, plo, by omega⟩
  have p2 : anyb (fun k => P' k && decide (g k = (((g lo).toNat : Nat) : Int))) n = false := by
    cases q : anyb (fun k => P' k && decide (g k = (((g lo).toNat : Nat) : Int))) n with
    | false => rfl
    | true =>
      obtain ⟨k, h1, h2, h3⟩ := any_l.mp q
      exact absurd (show g k = g lo by omega) ((hP k h1).mp h2).2
  have hc := cnt_ch (p := fun L : Nat => anyb (fun k => P k && decide (g k = (L : Int))) n) (q := fun L : Nat => anyb (fun k => P' k && decide (g k = (L : Int))) n) (n := n) (i := (g lo).toNat) (by omega) hs
  simp only [p1, p2, b2_t, b2_f] at hc
  unfold ndl
  omega
theorem ndl_0 {g : Nat → Int} {P : Nat → Bool} {n : Nat} (h : ∀ k, k < n → P k = false) : ndl g P n = 0 :=
  cnt_x (n := 0) (Nat.zero_le _) fun L _ _ => by
    cases q : anyb (fun j => P j && decide (g j = (L : Int))) n with
    | false => rfl
    | true =>
      obtain ⟨k, h1, h2, h3⟩ := any_l.mp q
      rw [h k h1] at h2
      cases h2
theorem ndl_1 (P : Nat → Bool) (n : Nat) : ndl (fun j => (j : Int)) P n = cnt P n := by
  unfold ndl
  refine cnt_e fun L hL => bool_e ?_
  rw [any_l]
  constructor
  · rintro ⟨k, h1, h2, h3⟩
    have : k = L := by omega
    rw [← this]
    exact h2
  · intro h
    exact ⟨L, hL, h, rfl⟩
theorem ndl_e {g : Nat → Int} {P P' : Nat → Bool} {n : Nat} (h : ∀ k, k < n → P k = P' k) : ndl g P n = ndl g P' n := by
  unfold ndl
  refine cnt_e fun L hL => bool_e ?_
  rw [any_l, any_l]
  constructor
  · rintro ⟨k, h1, h2, h3⟩
    exact ⟨k, h1, by rw [← h k h1]; exact h2, h3⟩
  · rintro ⟨k, h1, h2, h3⟩
    exact ⟨k, h1, by rw [h k h1]; exact h2, h3⟩
def Cld (σ : ST) (C : Nat → Prop) : Prop := ∀ i j, i < nn σ → j < nn σ → tog σ i j = true → (C i ↔ C j)
def PIn (σ : ST) (D : Nat → Nat → Prop) (p : (Nat → Int) × Int) : Prop := gok (nn σ) p.1 ∧ (∀ i j, i < nn σ → j < nn σ → D i j → tog σ i j = true → p.1 i = p.1 j) ∧
  (∀ C : Nat → Prop, Cld σ C → ∀ i j, i < nn σ → j < nn σ → unk σ i = true → unk σ j = true → p.1 i = p.1 j → (C i ↔ C j)) ∧ p.2 = ndl p.1 (unk σ) (nn σ)
theorem tog_u {i j : Nat} (h : tog σ i j = true) : unk σ i = true ∧ unk σ j = true := by
  unfold tog at h
  rw [Bool.and_eq_true, decide_eq_true_eq] at h
  exact ⟨decide_eq_true h.1.1, decide_eq_true h.1.2⟩
theorem pi_mo {D D' : Nat → Nat → Prop} {p : (Nat → Int) × Int} (h : ∀ a b, D' a b → D a b) (H : PIn σ D p) : PIn σ D' p := ⟨H.1, fun i j hi hj hd ht => H.2.1 i j hi hj (h i j hd) ht, H.2.2⟩
theorem pi_st {D : Nat → Nat → Prop} {p : (Nat → Int) × Int} {i j : Nat} (H : PIn σ D p) (hi : i < nn σ) (hj : j < nn σ) : PIn σ (fun a b => D a b ∨ (a = i ∧ b = j)) (st1 σ p i j) := by
  obtain ⟨H1, H2, H3, H4⟩ := H
  by_cases c : ¬ p.1 i = p.1 j ∧ tog σ i j = true
  · have e : st1 σ p i j = (jnG p.1 (p.1 i) (p.1 j) (nn σ), p.2 - 1) := if_pos c
    have tu := tog_u c.2
    rw [e]
    refine ⟨jnG_ok H1 (H1 j hj), fun a b ha hb hd ht => ?_, fun C hC a b ha hb ua ub he => ?_, ?_⟩
    · show jnG p.1 (p.1 i) (p.1 j) (nn σ) a = jnG p.1 (p.1 i) (p.1 j) (nn σ) b
      rw [jnG_i ha, jnG_i hb]
      rcases hd with hd | ⟨rfl, rfl⟩
      · rw [H2 a b ha hb hd ht]
      · rw [if_pos rfl, if_neg (fun q => c.1 q.symm)]
    · have he2 : jnG p.1 (p.1 i) (p.1 j) (nn σ) a = jnG p.1 (p.1 i) (p.1 j) (nn σ) b := he
      rw [jnG_i ha, jnG_i hb] at he2
      have hij := hC i j hi hj c.2
      have K := H3 C hC
      by_cases ca : p.1 a = p.1 i
      · by_cases cb : p.1 b = p.1 i
        · exact K a b ha hb ua ub (ca.trans cb.symm)
        · rw [if_pos ca, if_neg cb] at he2
          exact ((K a i ha hi ua tu.1 ca).trans hij).trans (K j b hj hb tu.2 ub he2)
      · by_cases cb : p.1 b = p.1 i
        · rw [if_neg ca, if_pos cb] at he2
          exact (K a j ha hj ua tu.2 he2).trans (hij.symm.trans (K i b hi hb tu.1 ub cb.symm))
        · rw [if_neg ca, if_neg cb] at he2
          exact K a b ha hb ua ub he2
    · show p.2 - 1 = ndl (jnG p.1 (p.1 i) (p.1 j) (nn σ)) (unk σ) (nn σ)
      rw [ndl_j H1 hi hj tu.1 tu.2 c.1, H4]
  · have e : st1 σ p i j = p := if_neg c
    rw [e]
    refine ⟨H1, fun a b ha hb hd ht => ?_, H3, H4⟩
    rcases hd with hd | ⟨rfl, rfl⟩
    · exact H2 a b ha hb hd ht
    · exact Decidable.byContradiction fun q => c ⟨q, ht⟩
theorem pi_in {D : Nat → Nat → Prop} {p : (Nat → Int) × Int} {i : Nat} (H : PIn σ D p) (hi : i < nn σ) : ∀ m, m ≤ nn σ → PIn σ (fun a b => D a b ∨ (a = i ∧ b < m)) (pin σ i p m)
  | 0, _ => pi_mo (fun a b h => by
      rcases h with h | h
      · exact h
      · exact absurd h.2 (by omega)) H
  | m + 1, hm => pi_mo (fun a b h => by
      rcases h with h | h
      · exact Or.inl (Or.inl h)
      · by_cases c : b = m
        · exact Or.inr ⟨h.1, c⟩
        · exact Or.inl (Or.inr ⟨h.1, by omega⟩)) (pi_st (pi_in H hi m (by omega)) hi (j := m) (by omega))
theorem pi_ou : ∀ m, m ≤ nn σ → PIn σ (fun a b => a < m ∧ b < a) (pou σ m)
  | 0, _ => ⟨fun j hj => by
      show 0 ≤ (j : Int) ∧ (j : Int) < nn σ
      omega, fun i j _ _ hd _ => absurd hd.1 (by omega), fun C _ i j _ _ _ _ he => by
      have : (i : Int) = (j : Int) := he
      have e : i = j := by omega
      rw [e], (ndl_1 (unk σ) (nn σ)).symm⟩
  | m + 1, hm => pi_mo (fun a b h => by
      by_cases c : a = m
      · exact Or.inr ⟨c, by omega⟩
      · exact Or.inl ⟨by omega, h.2⟩) (pi_in (pi_ou m (by omega)) (i := m) (by omega) m (by omega))
def lab (σ : ST) : Nat → Int := (pou σ (nn σ)).1
theorem pi_lab (σ : ST) : PIn σ (fun a b => a < nn σ ∧ b < a) (lab σ, pers σ) := pi_ou (nn σ) (Nat.le_refl _)
/-- which names are struck, and that they are names -/
def SkB (σ : ST) (s : Nat) : Prop := (∀ i, s.testBit i = true ↔ (i < nn σ ∧ σ 25 i 1 = 1)) ∧ ∀ i, i < nn σ → isn (σ 25 i 0) = true
theorem tog_y {s i j : Nat} (S : SkB σ s) (hi : i < nn σ) (hj : j < nn σ) (h : tog σ i j = true) : tog σ j i = true := by
  have tu := tog_u h
  unfold tog at h ⊢
  rw [Bool.and_eq_true, decide_eq_true_eq] at h ⊢
  exact ⟨⟨h.1.2, h.1.1⟩, by rw [nr_y _ _ (S.2 j hj) (S.2 i hi)]; exact h.2⟩
theorem lab_t {s i j : Nat} (S : SkB σ s) (hi : i < nn σ) (hj : j < nn σ) (h : tog σ i j = true) : lab σ i = lab σ j := by
  have P := (pi_lab σ).2.1
  by_cases c : j < i
  · exact P i j hi hj ⟨hi, c⟩ h
  · by_cases c2 : i < j
    · exact (P j i hj hi ⟨hj, c2⟩ (tog_y S hi hj h)).symm
    · have : i = j := by omega
      rw [this]
def lkn (σ : ST) (i j : Nat) : Bool := lkM (σ 25 i 0) (σ 25 j 0)
theorem lkn_t {s i j : Nat} (S : SkB σ s) (hi : i < nn σ) (hj : j < nn σ) (ui : unk σ i = true) (uj : unk σ j = true) : lkn σ i j = tog σ i j := by
  unfold lkn tog
  rw [lkM_nr (S.2 i hi) (S.2 j hj)]
  unfold unk at ui uj
  rw [decide_eq_true_eq] at ui uj
  rw [decide_eq_true (⟨ui, uj⟩ : σ 25 i 1 = 0 ∧ σ 25 j 1 = 0), Bool.true_and]
/-- what the reference has left: whole groups -/
def PQ (σ : ST) (s t : Nat) (m : Int) : Prop := SkB σ s → m + ndl (lab σ) (fun j => t.testBit j) (nn σ) = pers σ ∧ (∀ j, t.testBit j = true → j < nn σ ∧ unk σ j = true) ∧ (∀ i j, t.testBit i = true → j < nn σ → unk σ j = true → lab σ i = lab σ j → t.testBit j = true)
def GQ (σ : ST) (s lo g : Nat) : Prop := SkB σ s → ∀ j, g.testBit j = true → lab σ j = lab σ lo
def CG (σ : ST) (t g : Nat) : Prop := ∀ i j, i < nn σ → j < nn σ → g.testBit i = true → t.testBit j = true → lkn σ i j = true → g.testBit j = true
theorem pq_0 (I : Iv σ) (s : Nat) : PQ σ s (anN (2 ^ nn σ - 1) s) 0 := fun S => by
  have hn := nn_e I
  have hb : ∀ j, (anN (2 ^ nn σ - 1) s).testBit j = true ↔ (j < nn σ ∧ unk σ j = true) := fun j => by
    rw [anN_t, Nat.testBit_two_pow_sub_one, Bool.and_eq_true, decide_eq_true_eq, Bool.not_eq_true', Bool.eq_false_iff]
    unfold unk
    rw [decide_eq_true_eq]
    constructor
    · rintro ⟨h1, h2⟩
      have ni := iv_na I (i := j) (by omega)
      refine ⟨h1, Decidable.byContradiction fun q => h2 ((S.1 j).mpr ⟨h1, ?_⟩)⟩
      omega
    · rintro ⟨h1, h2⟩
      refine ⟨h1, fun q => ?_⟩
      have := ((S.1 j).mp q).2
      omega
  have P := (pi_lab σ).2.2.2
  refine ⟨?_, fun j hj => (hb j).mp hj, fun i j _ hj uj _ => (hb j).mpr ⟨hj, uj⟩⟩
  have e : ndl (lab σ) (fun j => (anN (2 ^ nn σ - 1) s).testBit j) (nn σ) = ndl (lab σ) (unk σ) (nn σ) := ndl_e fun k hk => bool_e ((hb k).trans ⟨fun q => q.2, fun q => ⟨hk, q⟩⟩)
  rw [e, Int.zero_add]
  exact P.symm
theorem pq_z {s : Nat} {m : Int} (T : PQ σ s 0 m) (S : SkB σ s) : m = pers σ := by
  have h := (T S).1
  rw [ndl_0 fun k _ => by simp] at h
  omega
theorem pq_s {s t lo g : Nat} {m : Int} (T : PQ σ s t m) (Hg : GQ σ s lo g) (C : CG σ t g) (sub : ∀ j, g.testBit j = true → t.testBit j = true) (glo : g.testBit lo = true) (tlo : t.testBit lo = true) : PQ σ s (anN t g) (m + 1) := fun S => by
  obtain ⟨T1, T2, T3⟩ := T S
  have cl : Cld σ (fun j => g.testBit j = true) := fun i j hi hj ht => by
    have tu := tog_u ht
    have le := lab_t S hi hj ht
    constructor
    · intro gi
      exact C i j hi hj gi (T3 i j (sub i gi) hj tu.2 le) (by rw [lkn_t S hi hj tu.1 tu.2]; exact ht)
    · intro gj
      exact C j i hj hi gj (T3 j i (sub j gj) hi tu.1 le.symm) (by rw [lkn_t S hj hi tu.2 tu.1]; exact tog_y S hi hj ht)
  have P := pi_lab σ
  have l0 := T2 lo tlo
  have key : ∀ j, t.testBit j = true → (g.testBit j = true ↔ lab σ j = lab σ lo) := fun j tj =>
    ⟨fun gj => Hg S j gj, fun e => (P.2.2.1 _ cl lo j l0.1 (T2 j tj).1 l0.2 (T2 j tj).2 e.symm).mp glo⟩
  have hb : ∀ j, (anN t g).testBit j = true ↔ (t.testBit j = true ∧ lab σ j ≠ lab σ lo) := fun j => by
    rw [anN_t, Bool.and_eq_true, Bool.not_eq_true', Bool.eq_false_iff]
    constructor
    · rintro ⟨h1, h2⟩
      exact ⟨h1, fun q => h2 ((key j h1).mpr q)⟩
    · rintro ⟨h1, h2⟩
      exact ⟨h1, fun q => h2 ((key j h1).mp q)⟩
  have hd := ndl_d (g := lab σ) (P := fun j => t.testBit j) (P' := fun j => (anN t g).testBit j) (lo := lo) P.1 l0.1 tlo fun k _ => hb k
  refine ⟨by omega, fun j hj => T2 j ((hb j).mp hj).1, fun i j hi hj uj e => ?_⟩
  have hi2 := (hb i).mp hi
  exact (hb j).mpr ⟨T3 i j hi2.1 hj uj e, fun q => hi2.2 (e.trans q)⟩
end PersT
