/-! THE CLASS'S OBJECTS: roles (kind, place), their numbers, their addresses -/
section State
abbrev ST : Type := Nat → Nat → Nat → Int
abbrev AD : Type := Nat → Nat → Nat
def s3 (σ : ST) (k i f : Nat) (v : Int) : ST := fun k' i' f' => if k' = k then if i' = i then if f' = f then v else σ k' i' f' else σ k' i' f' else σ k' i' f'
def rfo (A : AD) (k : Nat) (z : Int) : Option Nat := if z < 0 then none else some (A k z.toNat)
abbrev iV (z : Int) : Value := .int (Int32.ofInt z)
def rowQ (t n : Nat) (g : Nat → Option Nat) : AE := .inl (t, n, .inr (.inr (.inr (.inr g))))
def pkr (A : AD) (em : Nat) (r : Nat → Int) (z : Int) (k i : Nat) : AE := match k with
  | 0 => .inr (16, [.ref (A 1 0), .ref (A 11 0), .ref (A 12 0), .ref (A 13 0), .ref (A 2 0), .ref (A 3 0), .ref (A 5 0), .ref (A 4 0), .ref (A 6 0), .ref (A 7 0)])
  | 1 => .inr (14, [iV (r 0), iV (r 1), iV (r 2)])
  | 2 => .inr (13, [.ref (A 1 0), .ref (A 13 0), iV (r 0), iV (r 1)])
  | 3 => .inr (12, [.ref (A 13 0), .ref (A 12 0), .ref (A 8 0)])
  | 4 => .inr (12, [.ref (A 13 0), .ref (A 12 0), .ref (A 9 0)])
  | 5 => .inr (5, [.ref (A 13 0), .ref (A 12 0), .ref (A 3 0), .ref (A 10 0), iV (r 0)])
  | 6 => .inr (9, [.ref (A 14 0), iV (r 0), iV (r 1), iV (r 2)])
  | 7 => .inr (6, [.ref (A 15 0), iV (r 0)])
  | 8 => .inl (2, 6, .inr (.inr (.inr (.inr fun j => rfo A 22 (r j)))))
  | 9 => .inl (2, 6, .inr (.inr (.inr (.inr fun j => rfo A 22 (r j)))))
  | 10 => .inl (0, 6, .inl fun j => Int32.ofInt (r j))
  | 11 => .inr (4, [iV (r 1), .ref (if r 0 = 0 then em else A 31 0), iV (r 0)])
  | 12 => .inr (4, [iV (r 1), .ref (if r 0 = 0 then em else A 32 0), iV (r 0)])
  | 13 => .inr (4, [iV (r 1), .ref (if r 0 = 0 then em else A 33 0), iV (r 0)])
  | 14 => .inr (4, [iV (r 1), .ref (if r 0 = 0 then em else A 34 0), iV (r 0)])
  | 15 => .inr (4, [iV (r 1), .ref (if r 0 = 0 then em else A 35 0), iV (r 0)])
  | 21 => .inr (15, [iV i, iV (r 0), iV (r 1)])
  | 22 => .inr (7, [iV i, iV (r 0), iV (r 1)])
  | 23 => .inr (8, [iV i, .ref (A 21 (r 0).toNat), iV (r 1), iV (r 2), iV (r 3)])
  | 24 => .inr (11, [iV (r 0), iV (r 1), iV (r 2)])
  | 25 => .inr (10, [iV (r 0), iV (r 1), iV (r 2)])
  | 31 => .inl (3, if z ≤ 10 then 10 else 15, .inr (.inr (.inr (.inr fun j => if (j : Int) < z then some (A 21 j) else none))))
  | 32 => .inl (3, if z ≤ 10 then 10 else 15, .inr (.inr (.inr (.inr fun j => if (j : Int) < z then some (A 22 j) else none))))
  | 33 => .inl (3, if z ≤ 10 then 10 else 15, .inr (.inr (.inr (.inr fun j => if (j : Int) < z then some (A 23 j) else none))))
  | 34 => .inl (3, if z ≤ 10 then 10 else 15, .inr (.inr (.inr (.inr fun j => if (j : Int) < z then some (A 24 j) else none))))
  | 35 => .inl (3, if z ≤ 10 then 10 else 15, .inr (.inr (.inr (.inr fun j => if (j : Int) < z then some (A 25 j) else none))))
  | _ => .inl (0, 0, .inl fun _ => 0)
def szk (σ : ST) (k : Nat) : Int := if 31 ≤ k then σ (k - 20) 0 0 else 0
def pk (A : AD) (em : Nat) (σ : ST) (k i : Nat) : AE := pkr A em (σ k i) (szk σ k) k i
def lv (σ : ST) (k i : Nat) : Prop := (k ≤ 15 ∧ i = 0) ∨ (21 ≤ k ∧ k ≤ 25 ∧ (i : Int) < σ (k - 10) 0 0) ∨ (31 ≤ k ∧ k ≤ 35 ∧ i = 0 ∧ 0 < σ (k - 20) 0 0)
def emR : AE := .inl (9, 0, .inr (.inr (.inr (.inr fun _ => none))))
def Rp (σ : ST) (A : AD) (em : Nat) (F h : AH) : Prop :=
  (∀ k i, lv σ k i → h (A k i) = some (pk A em σ k i)) ∧
  (∀ k i k' i', lv σ k i → lv σ k' i' → A k i = A k' i' → k = k' ∧ i = i') ∧
  F em = some emR ∧ (∀ a e, F a = some e → h a = some e) ∧ (∀ k i, lv σ k i → F (A k i) = none)
variable {σ : ST} {A : AD} {em : Nat} {F h : AH}
theorem s3_s (σ : ST) (k i f : Nat) (v : Int) : s3 σ k i f v k i f = v := by simp [s3]
theorem s3_r {σ : ST} {k i f : Nat} {v : Int} {k' i' : Nat} (n : ¬ (k' = k ∧ i' = i)) : s3 σ k i f v k' i' = σ k' i' := by
  funext f'
  unfold s3
  split
  · split
    · exact absurd ⟨‹_›, ‹_›⟩ n
    · rfl
  · rfl
theorem lv_s {k i : Nat} (h : k ≤ 15 ∧ i = 0) : lv σ k i := Or.inl h
theorem lv_e {k i : Nat} (h : 21 ≤ k ∧ k ≤ 25 ∧ (i : Int) < σ (k - 10) 0 0) : lv σ k i := Or.inr (Or.inl h)
theorem rp_0 (R : Rp σ A em F h) : h (A 0 0) = some (.inr (16, [.ref (A 1 0), .ref (A 11 0), .ref (A 12 0), .ref (A 13 0), .ref (A 2 0), .ref (A 3 0), .ref (A 5 0), .ref (A 4 0), .ref (A 6 0), .ref (A 7 0)])) := R.1 0 0 (lv_s (by omega))
theorem rp_1 (R : Rp σ A em F h) : h (A 1 0) = some (.inr (14, [iV (σ 1 0 0), iV (σ 1 0 1), iV (σ 1 0 2)])) := R.1 1 0 (lv_s (by omega))
theorem rp_2 (R : Rp σ A em F h) : h (A 2 0) = some (.inr (13, [.ref (A 1 0), .ref (A 13 0), iV (σ 2 0 0), iV (σ 2 0 1)])) := R.1 2 0 (lv_s (by omega))
theorem rp_3 (R : Rp σ A em F h) : h (A 3 0) = some (.inr (12, [.ref (A 13 0), .ref (A 12 0), .ref (A 8 0)])) := R.1 3 0 (lv_s (by omega))
theorem rp_4 (R : Rp σ A em F h) : h (A 4 0) = some (.inr (12, [.ref (A 13 0), .ref (A 12 0), .ref (A 9 0)])) := R.1 4 0 (lv_s (by omega))
theorem rp_5 (R : Rp σ A em F h) : h (A 5 0) = some (.inr (5, [.ref (A 13 0), .ref (A 12 0), .ref (A 3 0), .ref (A 10 0), iV (σ 5 0 0)])) := R.1 5 0 (lv_s (by omega))
theorem rp_6 (R : Rp σ A em F h) : h (A 6 0) = some (.inr (9, [.ref (A 14 0), iV (σ 6 0 0), iV (σ 6 0 1), iV (σ 6 0 2)])) := R.1 6 0 (lv_s (by omega))
theorem rp_7 (R : Rp σ A em F h) : h (A 7 0) = some (.inr (6, [.ref (A 15 0), iV (σ 7 0 0)])) := R.1 7 0 (lv_s (by omega))
theorem rp_8 (R : Rp σ A em F h) : h (A 8 0) = some (.inl (2, 6, .inr (.inr (.inr (.inr fun j => rfo A 22 (σ 8 0 j)))))) := R.1 8 0 (lv_s (by omega))
theorem rp_9 (R : Rp σ A em F h) : h (A 9 0) = some (.inl (2, 6, .inr (.inr (.inr (.inr fun j => rfo A 22 (σ 9 0 j)))))) := R.1 9 0 (lv_s (by omega))
theorem rp_10 (R : Rp σ A em F h) : h (A 10 0) = some (.inl (0, 6, .inl fun j => Int32.ofInt (σ 10 0 j))) := R.1 10 0 (lv_s (by omega))
theorem rp_11 (R : Rp σ A em F h) : h (A 11 0) = some (.inr (4, [iV (σ 11 0 1), .ref (if σ 11 0 0 = 0 then em else A 31 0), iV (σ 11 0 0)])) := R.1 11 0 (lv_s (by omega))
theorem rp_12 (R : Rp σ A em F h) : h (A 12 0) = some (.inr (4, [iV (σ 12 0 1), .ref (if σ 12 0 0 = 0 then em else A 32 0), iV (σ 12 0 0)])) := R.1 12 0 (lv_s (by omega))
theorem rp_13 (R : Rp σ A em F h) : h (A 13 0) = some (.inr (4, [iV (σ 13 0 1), .ref (if σ 13 0 0 = 0 then em else A 33 0), iV (σ 13 0 0)])) := R.1 13 0 (lv_s (by omega))
theorem rp_14 (R : Rp σ A em F h) : h (A 14 0) = some (.inr (4, [iV (σ 14 0 1), .ref (if σ 14 0 0 = 0 then em else A 34 0), iV (σ 14 0 0)])) := R.1 14 0 (lv_s (by omega))
theorem rp_15 (R : Rp σ A em F h) : h (A 15 0) = some (.inr (4, [iV (σ 15 0 1), .ref (if σ 15 0 0 = 0 then em else A 35 0), iV (σ 15 0 0)])) := R.1 15 0 (lv_s (by omega))
theorem rp_21 (R : Rp σ A em F h) {i : Nat} (hi : (i : Int) < σ 11 0 0) : h (A 21 i) = some (.inr (15, [iV i, iV (σ 21 i 0), iV (σ 21 i 1)])) := R.1 21 i (lv_e ⟨by omega, by omega, hi⟩)
theorem rp_22 (R : Rp σ A em F h) {i : Nat} (hi : (i : Int) < σ 12 0 0) : h (A 22 i) = some (.inr (7, [iV i, iV (σ 22 i 0), iV (σ 22 i 1)])) := R.1 22 i (lv_e ⟨by omega, by omega, hi⟩)
theorem rp_23 (R : Rp σ A em F h) {i : Nat} (hi : (i : Int) < σ 13 0 0) : h (A 23 i) = some (.inr (8, [iV i, .ref (A 21 (σ 23 i 0).toNat), iV (σ 23 i 1), iV (σ 23 i 2), iV (σ 23 i 3)])) := R.1 23 i (lv_e ⟨by omega, by omega, hi⟩)
theorem rp_24 (R : Rp σ A em F h) {i : Nat} (hi : (i : Int) < σ 14 0 0) : h (A 24 i) = some (.inr (11, [iV (σ 24 i 0), iV (σ 24 i 1), iV (σ 24 i 2)])) := R.1 24 i (lv_e ⟨by omega, by omega, hi⟩)
theorem rp_25 (R : Rp σ A em F h) {i : Nat} (hi : (i : Int) < σ 15 0 0) : h (A 25 i) = some (.inr (10, [iV (σ 25 i 0), iV (σ 25 i 1), iV (σ 25 i 2)])) := R.1 25 i (lv_e ⟨by omega, by omega, hi⟩)
theorem lv_w {k i f : Nat} {v : Int} (hk : (1 ≤ k ∧ k ≤ 10) ∨ 21 ≤ k) (hk2 : k ≤ 25) (k' i' : Nat) : lv (s3 σ k i f v) k' i' = lv σ k' i' := by
  have H : ∀ q, 11 ≤ q → q ≤ 15 → s3 σ k i f v q 0 = σ q 0 := fun q h1 h2 => s3_r (by omega)
  unfold lv
  by_cases c : 21 ≤ k' ∧ k' ≤ 25
  · rw [H (k' - 10) (by omega) (by omega)]
    have : ¬ 31 ≤ k' := by omega
    simp only [this, false_and]
  · by_cases c2 : 31 ≤ k' ∧ k' ≤ 35
    · rw [H (k' - 20) (by omega) (by omega)]
      have : ¬ k' ≤ 25 := by omega
      simp only [this, false_and, and_false]
    · have c3 : ∀ P : Prop, (21 ≤ k' ∧ k' ≤ 25 ∧ P) = False := fun P => eq_false (by omega)
      have c4 : ∀ P : Prop, (31 ≤ k' ∧ k' ≤ 35 ∧ P) = False := fun P => eq_false (by omega)
      rw [c3, c3, c4, c4]
theorem szk_w {k i f : Nat} {v : Int} (hk : (1 ≤ k ∧ k ≤ 10) ∨ 21 ≤ k) (hk2 : k ≤ 25) {k' : Nat} (h : k' ≤ 35) : szk (s3 σ k i f v) k' = szk σ k' := by
  unfold szk
  split
  · rw [s3_r (by omega)]
  · rfl
theorem lv_35 {k i : Nat} (h : lv σ k i) : k ≤ 35 := by
  unfold lv at h
  omega
/-- a number is written -/
theorem rp_w {k i f : Nat} {v : Int} {e : AE} (R : Rp σ A em F h) (hk : (1 ≤ k ∧ k ≤ 10) ∨ 21 ≤ k) (hk2 : k ≤ 25) (hl : lv σ k i) (he : e = pkr A em (s3 σ k i f v k i) 0 k i) : Rp (s3 σ k i f v) A em F (hup h (A k i) e) := by
  obtain ⟨R1, R2, R3, R4, R5⟩ := R
  have hL := lv_w (σ := σ) (i := i) (f := f) (v := v) hk hk2
  refine ⟨fun k' i' h' => ?_, fun k' i' k2 i2 h1 h2 => ?_, R3, fun a e' ha => ?_, fun k' i' h' => ?_⟩
  · rw [hL] at h'
    by_cases c : A k' i' = A k i
    · obtain ⟨rfl, rfl⟩ := R2 _ _ _ _ h' hl c
      rw [hup_s, he]
      unfold pk szk
      rw [if_neg (by omega)]
    · rw [hup_n c, R1 k' i' h']
      unfold pk
      rw [s3_r (fun q => c (by rw [q.1, q.2])), szk_w hk hk2 (lv_35 h')]
  · rw [hL] at h1 h2
    exact R2 _ _ _ _ h1 h2
  · have : ¬ a = A k i := by
      rintro rfl
      rw [R5 k i hl] at ha
      cases ha
    rw [hup_n this]
    exact R4 a e' ha
  · rw [hL] at h'
    exact R5 k' i' h'
/-- the frame's own -/
theorem rp_new {q : Nat} {e : AE} (R : Rp σ A em F h) (hq : h q = none) : Rp σ A em (hup F q e) (hup h q e) := by
  obtain ⟨R1, R2, R3, R4, R5⟩ := R
  have hn : ∀ k i, lv σ k i → ¬ A k i = q := by
    rintro k i hl rfl
    rw [R1 k i hl] at hq
    cases hq
  refine ⟨fun k i hl => ?_, R2, ?_, fun a e' ha => ?_, fun k i hl => ?_⟩
  · rw [hup_n (hn k i hl)]
    exact R1 k i hl
  · rw [hup_n]
    · exact R3
    · rintro rfl
      rw [R4 _ _ R3] at hq
      cases hq
  · by_cases c : a = q
    · rw [c, hup_s] at ha
      rw [c, hup_s, ha]
    · rw [hup_n c] at ha
      rw [hup_n c]
      exact R4 a e' ha
  · rw [hup_n (hn k i hl)]
    exact R5 k i hl
theorem rp_fr {q : Nat} {e e0 : AE} (R : Rp σ A em F h) (hq : F q = some e0) (hne : ¬ em = q) : Rp σ A em (hup F q e) (hup h q e) := by
  obtain ⟨R1, R2, R3, R4, R5⟩ := R
  have hn : ∀ k i, lv σ k i → ¬ A k i = q := by
    rintro k i hl rfl
    rw [R5 k i hl] at hq
    cases hq
  refine ⟨fun k i hl => ?_, R2, ?_, fun a e' ha => ?_, fun k i hl => ?_⟩
  · rw [hup_n (hn k i hl)]
    exact R1 k i hl
  · rw [hup_n hne]
    exact R3
  · by_cases c : a = q
    · rw [c, hup_s] at ha
      rw [c, hup_s, ha]
    · rw [hup_n c] at ha
      rw [hup_n c]
      exact R4 a e' ha
  · rw [hup_n (hn k i hl)]
    exact R5 k i hl
theorem rp_sub {G : AH} (R : Rp σ A em G h) (hs : ∀ a e, F a = some e → G a = some e) (he : F em = some emR) : Rp σ A em F h := by
  obtain ⟨R1, R2, R3, R4, R5⟩ := R
  refine ⟨R1, R2, he, fun a e' ha => R4 a e' (hs a e' ha), fun k i hl => ?_⟩
  cases c : F (A k i) with
  | none => rfl
  | some e =>
    have := hs _ _ c
    rw [R5 k i hl] at this
    cases this
theorem rp_G (R : Rp σ A em F h) {a : Nat} {e : AE} (ha : F a = some e) : h a = some e := R.2.2.2.1 a e ha
theorem rp_em (R : Rp σ A em F h) : h em = some emR := R.2.2.2.1 em _ R.2.2.1
theorem rp_emn (R : Rp σ A em F h) {k i : Nat} (hl : lv σ k i) : ¬ em = A k i := by
  intro q
  have := R.2.2.2.2 k i hl
  rw [← q, R.2.2.1] at this
  cases this
theorem rp_inj (R : Rp σ A em F h) {k i k' i' : Nat} (h1 : lv σ k i) (h2 : lv σ k' i') : (A k i = A k' i') = (k = k' ∧ i = i') := propext ⟨R.2.1 _ _ _ _ h1 h2, fun q => by rw [q.1, q.2]⟩
/-- an element and its list's row become the class's own -/
def A2 (A : AD) (k n q da : Nat) : AD := fun k' i' => if k' = k + 10 then if i' = n then q else A k' i' else if k' = k + 20 then if i' = 0 then da else A k' i' else A k' i'
def s2 (σ : ST) (k n : Nat) (m : Int) (r : Nat → Int) : ST := fun k' i' => if k' = k ∧ i' = 0 then (fun f => if f = 0 then (n : Int) + 1 else if f = 1 then m else σ k' i' f) else if k' = k + 10 ∧ i' = n then r else σ k' i'
end State
