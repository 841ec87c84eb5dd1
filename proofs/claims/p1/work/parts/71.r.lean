/-! THE REFERENCE'S OBJECTS: roles (kind, place), their addresses. Its numbers are the class's (σ), and some of its own (x: 0 thrown, 1 came, 2 struck, 3 sum, 11 to 15 how often its lists were changed) -/
section StateM
def iR2 (a b : Int) : AE := .inl (0, 2, .inl fun j => Int32.ofInt (if j = 0 then a else if j = 1 then b else 0))
def lsM (B : AD) (em : Nat) (σ : ST) (x : Nat → Int) (k : Nat) : AE := .inr (4, [iV (x k), .ref (if σ k 0 0 = 0 then em else B (k + 20) 0), iV (σ k 0 0)])
def roM (B : AD) (σ : ST) (k : Nat) : AE := .inl (3, if σ k 0 0 ≤ 10 then 10 else 15, .inr (.inr (.inr (.inr fun j => if (j : Int) < σ k 0 0 then some (B (k + 10) j) else none))))
def mdC (B : AD) (σ : ST) (x : Nat → Int) : AE := .inr (19, [iV (x 0), iV (σ 1 0 0), iV (σ 1 0 1), iV (σ 1 0 2), iV (σ 2 0 0), iV (σ 2 0 1), iV (σ 6 0 0), iV (σ 6 0 1), iV (σ 6 0 2), iV (x 1), iV (σ 7 0 0), .ref (B 11 0), .ref (B 12 0), .ref (B 13 0), .ref (B 14 0), .ref (B 15 0), iV (x 2), .long (Int64.ofInt (x 3))])
def elM (σ : ST) (k i : Nat) : AE := match k with
  | 21 => iR2 (σ 21 i 0) (σ 21 i 1)
  | 22 => iR2 (σ 22 i 1) (σ 22 i 0)
  | 23 => .inr (18, [iV (σ 23 i 0), iV (σ 23 i 1), iV (σ 23 i 2), iV (σ 23 i 3)])
  | _ => iR2 (σ 24 i 2) (σ 24 i 1)
def pkm (B : AD) (em : Nat) (σ : ST) (x : Nat → Int) (k i : Nat) : AE := if k = 0 then mdC B σ x else if k ≤ 15 then lsM B em σ x k else if k ≤ 24 then elM σ k i else roM B σ (k - 20)
def vm (σ : ST) (k i : Nat) : Prop := (k = 0 ∧ i = 0) ∨ (11 ≤ k ∧ k ≤ 15 ∧ i = 0) ∨ (21 ≤ k ∧ k ≤ 24 ∧ (i : Int) < σ (k - 10) 0 0) ∨ (31 ≤ k ∧ k ≤ 35 ∧ i = 0 ∧ 0 < σ (k - 20) 0 0)
/-- an Integer: made by the reference, or one of the JVM's own -/
def inC (o : Option AE) (z : Int) : Prop := o = some (.inr (2, [iV z])) ∨ ∃ g, o = some (.inl (11, 2, .inl g)) ∧ g 0 = Int32.ofInt z
def Rm (σ : ST) (x : Nat → Int) (B : AD) (em : Nat) (G h : AH) : Prop :=
  (∀ k i, vm σ k i → h (B k i) = some (pkm B em σ x k i)) ∧
  (∀ k i k' i', vm σ k i → vm σ k' i' → B k i = B k' i' → k = k' ∧ i = i') ∧
  G em = some emR ∧ (∀ a e, G a = some e → h a = some e) ∧ (∀ k i, vm σ k i → G (B k i) = none) ∧
  (∀ i : Nat, (i : Int) < σ 15 0 0 → inC (h (B 25 i)) (σ 25 i 0))
variable {σ : ST} {x : Nat → Int} {B : AD} {em : Nat} {G h : AH}
theorem vm_0 : vm σ 0 0 := Or.inl ⟨rfl, rfl⟩
theorem vm_L {k : Nat} (hk : 11 ≤ k ∧ k ≤ 15) : vm σ k 0 := Or.inr (Or.inl ⟨hk.1, hk.2, rfl⟩)
theorem vm_E {k i : Nat} (hk : 11 ≤ k ∧ k ≤ 14) (hi : (i : Int) < σ k 0 0) : vm σ (k + 10) i := Or.inr (Or.inr (Or.inl ⟨by omega, by omega, by rw [show k + 10 - 10 = k by omega]; exact hi⟩))
theorem vm_D {k : Nat} (hk : 11 ≤ k ∧ k ≤ 15) (hp : 0 < σ k 0 0) : vm σ (k + 20) 0 := Or.inr (Or.inr (Or.inr ⟨by omega, by omega, rfl, by rw [show k + 20 - 20 = k by omega]; exact hp⟩))
theorem pkm_L {k i : Nat} (hk : 11 ≤ k ∧ k ≤ 15) : pkm B em σ x k i = lsM B em σ x k := by
  unfold pkm
  rw [if_neg (by omega), if_pos (by omega)]
theorem pkm_E {k i : Nat} (hk : 21 ≤ k ∧ k ≤ 24) : pkm B em σ x k i = elM σ k i := by
  unfold pkm
  rw [if_neg (by omega), if_neg (by omega), if_pos (by omega)]
theorem pkm_D {k i : Nat} (hk : 31 ≤ k ∧ k ≤ 35) : pkm B em σ x k i = roM B σ (k - 20) := by
  unfold pkm
  rw [if_neg (by omega), if_neg (by omega), if_neg (by omega)]
theorem pkm_0 {i : Nat} : pkm B em σ x 0 i = mdC B σ x := if_pos rfl
theorem rm_0 (R : Rm σ x B em G h) : h (B 0 0) = some (.inr (19, [iV (x 0), iV (σ 1 0 0), iV (σ 1 0 1), iV (σ 1 0 2), iV (σ 2 0 0), iV (σ 2 0 1), iV (σ 6 0 0), iV (σ 6 0 1), iV (σ 6 0 2), iV (x 1), iV (σ 7 0 0), .ref (B 11 0), .ref (B 12 0), .ref (B 13 0), .ref (B 14 0), .ref (B 15 0), iV (x 2), .long (Int64.ofInt (x 3))])) := R.1 0 0 vm_0
theorem rm_L (R : Rm σ x B em G h) {k : Nat} (hk : 11 ≤ k ∧ k ≤ 15) : h (B k 0) = some (.inr (4, [iV (x k), .ref (if σ k 0 0 = 0 then em else B (k + 20) 0), iV (σ k 0 0)])) := by
  rw [R.1 k 0 (vm_L hk), pkm_L hk]
  rfl
theorem rm_11 (R : Rm σ x B em G h) : h (B 11 0) = some (.inr (4, [iV (x 11), .ref (if σ 11 0 0 = 0 then em else B 31 0), iV (σ 11 0 0)])) := rm_L R (by omega)
theorem rm_12 (R : Rm σ x B em G h) : h (B 12 0) = some (.inr (4, [iV (x 12), .ref (if σ 12 0 0 = 0 then em else B 32 0), iV (σ 12 0 0)])) := rm_L R (by omega)
theorem rm_13 (R : Rm σ x B em G h) : h (B 13 0) = some (.inr (4, [iV (x 13), .ref (if σ 13 0 0 = 0 then em else B 33 0), iV (σ 13 0 0)])) := rm_L R (by omega)
theorem rm_14 (R : Rm σ x B em G h) : h (B 14 0) = some (.inr (4, [iV (x 14), .ref (if σ 14 0 0 = 0 then em else B 34 0), iV (σ 14 0 0)])) := rm_L R (by omega)
theorem rm_15 (R : Rm σ x B em G h) : h (B 15 0) = some (.inr (4, [iV (x 15), .ref (if σ 15 0 0 = 0 then em else B 35 0), iV (σ 15 0 0)])) := rm_L R (by omega)
theorem rm_E (R : Rm σ x B em G h) {k i : Nat} (hk : 11 ≤ k ∧ k ≤ 14) (hi : (i : Int) < σ k 0 0) : h (B (k + 10) i) = some (elM σ (k + 10) i) := by
  rw [R.1 _ _ (vm_E hk hi), pkm_E (by omega)]
theorem rm_21 (R : Rm σ x B em G h) {i : Nat} (hi : (i : Int) < σ 11 0 0) : h (B 21 i) = some (.inl (0, 2, .inl fun j => Int32.ofInt (if j = 0 then σ 21 i 0 else if j = 1 then σ 21 i 1 else 0))) := rm_E R (k := 11) (by omega) hi
theorem rm_22 (R : Rm σ x B em G h) {i : Nat} (hi : (i : Int) < σ 12 0 0) : h (B 22 i) = some (.inl (0, 2, .inl fun j => Int32.ofInt (if j = 0 then σ 22 i 1 else if j = 1 then σ 22 i 0 else 0))) := rm_E R (k := 12) (by omega) hi
theorem rm_23 (R : Rm σ x B em G h) {i : Nat} (hi : (i : Int) < σ 13 0 0) : h (B 23 i) = some (.inr (18, [iV (σ 23 i 0), iV (σ 23 i 1), iV (σ 23 i 2), iV (σ 23 i 3)])) := rm_E R (k := 13) (by omega) hi
theorem rm_24 (R : Rm σ x B em G h) {i : Nat} (hi : (i : Int) < σ 14 0 0) : h (B 24 i) = some (.inl (0, 2, .inl fun j => Int32.ofInt (if j = 0 then σ 24 i 2 else if j = 1 then σ 24 i 1 else 0))) := rm_E R (k := 14) (by omega) hi
theorem rm_25 (R : Rm σ x B em G h) {i : Nat} (hi : (i : Int) < σ 15 0 0) : inC (h (B 25 i)) (σ 25 i 0) := R.2.2.2.2.2 i hi
theorem rm_D (R : Rm σ x B em G h) {k : Nat} (hk : 11 ≤ k ∧ k ≤ 15) (hp : 0 < σ k 0 0) : h (B (k + 20) 0) = some (.inl (3, if σ k 0 0 ≤ 10 then 10 else 15, .inr (.inr (.inr (.inr fun j => if (j : Int) < σ k 0 0 then some (B (k + 10) j) else none))))) := by
  rw [R.1 _ _ (vm_D hk hp), pkm_D (by omega), show k + 20 - 20 = k by omega]
  rfl
theorem rm_G (R : Rm σ x B em G h) {a : Nat} {e : AE} (ha : G a = some e) : h a = some e := R.2.2.2.1 a e ha
theorem rm_em (R : Rm σ x B em G h) : h em = some emR := R.2.2.2.1 em _ R.2.2.1
theorem rm_ne (R : Rm σ x B em G h) {k i a : Nat} {e : AE} (hl : vm σ k i) (ha : G a = some e) : ¬ a = B k i := by
  rintro rfl
  rw [R.2.2.2.2.1 k i hl] at ha
  cases ha
/-- no role's cell is an Integer -/
theorem pkm_i {k i : Nat} {z : Int} (hl : vm σ k i) : ¬ inC (some (pkm B em σ x k i)) z := by
  intro hc
  have hn : ∀ c fs, pkm B em σ x k i = .inr (c, fs) → c ≠ 2 := by
    intro c fs e
    unfold vm at hl
    rcases hl with hl | hl | hl | hl
    · rw [hl.1, pkm_0] at e
      injection e with e
      injection e with e1 e2
      rw [← e1]
      decide
    · rw [pkm_L ⟨hl.1, hl.2.1⟩] at e
      injection e with e
      injection e with e1 e2
      rw [← e1]
      decide
    · rw [pkm_E ⟨hl.1, hl.2.1⟩] at e
      have : k = 21 ∨ k = 22 ∨ k = 23 ∨ k = 24 := by omega
      rcases this with rfl | rfl | rfl | rfl
      · cases e
      · cases e
      · injection e with e
        injection e with e1 e2
        rw [← e1]
        decide
      · cases e
    · rw [pkm_D ⟨hl.1, hl.2.1⟩] at e
      cases e
  have hn2 : ∀ c g, pkm B em σ x k i ≠ .inl (11, c, g) := by
    intro c g e
    unfold vm at hl
    rcases hl with hl | hl | hl | hl
    · rw [hl.1, pkm_0] at e
      cases e
    · rw [pkm_L ⟨hl.1, hl.2.1⟩] at e
      cases e
    · rw [pkm_E ⟨hl.1, hl.2.1⟩] at e
      have : k = 21 ∨ k = 22 ∨ k = 23 ∨ k = 24 := by omega
      rcases this with rfl | rfl | rfl | rfl
      · injection e with e
        injection e with e1 e2
        cases e1
      · injection e with e
        injection e with e1 e2
        cases e1
      · cases e
      · injection e with e
        injection e with e1 e2
        cases e1
    · rw [pkm_D ⟨hl.1, hl.2.1⟩] at e
      injection e with e
      injection e with e1 e2
      cases e1
  rcases hc with hc | ⟨g, hc, -⟩
  · exact hn _ _ (Option.some.inj hc) rfl
  · exact hn2 _ _ (Option.some.inj hc)
theorem rm_25n (R : Rm σ x B em G h) {k i j : Nat} (hl : vm σ k i) (hj : (j : Int) < σ 15 0 0) : ¬ B 25 j = B k i := by
  intro q
  have := rm_25 R hj
  rw [q, R.1 k i hl] at this
  exact pkm_i hl this
/-- a cell is written -/
theorem rm_up {σ' : ST} {x' : Nat → Int} {k i : Nat} {e : AE} (R : Rm σ x B em G h) (hl : vm σ k i) (hv : ∀ k' i', vm σ' k' i' → vm σ k' i') (hs : ∀ k' i', vm σ' k' i' → ¬ (k' = k ∧ i' = i) → pkm B em σ' x' k' i' = pkm B em σ x k' i') (he : e = pkm B em σ' x' k i)
    (hn : ∀ i : Nat, (i : Int) < σ' 15 0 0 → (i : Int) < σ 15 0 0 ∧ σ' 25 i 0 = σ 25 i 0) : Rm σ' x' B em G (hup h (B k i) e) := by
  refine ⟨fun k' i' h' => ?_, fun k' i' k2 i2 h1 h2 => R.2.1 _ _ _ _ (hv _ _ h1) (hv _ _ h2), R.2.2.1, fun a e' ha => ?_, fun k' i' h' => R.2.2.2.2.1 _ _ (hv _ _ h'), fun j hj => ?_⟩
  · by_cases c : k' = k ∧ i' = i
    · rw [c.1, c.2, hup_s, he]
    · rw [hup_n (fun q => c (R.2.1 _ _ _ _ (hv _ _ h') hl q)), R.1 _ _ (hv _ _ h'), hs _ _ h' c]
  · rw [hup_n (rm_ne R hl ha)]
    exact rm_G R ha
  · obtain ⟨h1, h2⟩ := hn j hj
    rw [hup_n (rm_25n R hl h1), h2]
    exact rm_25 R h1
/-- the same but for the model's own numbers -/
def eq0 (σ σ' : ST) : Prop := (∀ k, 11 ≤ k → k ≤ 15 → σ' k 0 0 = σ k 0 0) ∧ (∀ (k i f : Nat), 21 ≤ k → k ≤ 24 → (i : Int) < σ (k - 10) 0 0 → σ' k i f = σ k i f) ∧ (∀ i, σ' 25 i 0 = σ 25 i 0)
theorem eq0_r : eq0 σ σ := ⟨fun _ _ _ => rfl, fun _ _ _ _ _ _ => rfl, fun _ => rfl⟩
theorem eq0_s {k i f : Nat} {v : Int} (hk : k ≤ 10) : eq0 σ (s3 σ k i f v) := ⟨fun k' _ _ => by rw [s3_r (by omega)], fun k' _ _ _ _ _ => by rw [s3_r (by omega)], fun _ => by rw [s3_r (by omega)]⟩
theorem eq0_t {σ₁ σ₂ σ₃ : ST} (a : eq0 σ₁ σ₂) (b : eq0 σ₂ σ₃) : eq0 σ₁ σ₃ := ⟨fun k h1 h2 => (b.1 k h1 h2).trans (a.1 k h1 h2), fun k i f h1 h2 h3 => (b.2.1 k i f h1 h2 (by rw [a.1 (k - 10) (by omega) (by omega)]; exact h3)).trans (a.2.1 k i f h1 h2 h3), fun i => (b.2.2 i).trans (a.2.2 i)⟩
theorem eq0_vm {σ' : ST} (e : eq0 σ σ') (k i : Nat) : vm σ' k i = vm σ k i := by
  unfold vm
  by_cases c : 21 ≤ k ∧ k ≤ 24
  · rw [e.1 (k - 10) (by omega) (by omega)]
    have : ¬ 31 ≤ k := by omega
    simp only [this, false_and]
  · by_cases c2 : 31 ≤ k ∧ k ≤ 35
    · rw [e.1 (k - 20) (by omega) (by omega)]
      have : ¬ k ≤ 24 := by omega
      simp only [this, false_and, and_false]
    · have c3 : ∀ P : Prop, (21 ≤ k ∧ k ≤ 24 ∧ P) = False := fun P => eq_false (by omega)
      have c4 : ∀ P : Prop, (31 ≤ k ∧ k ≤ 35 ∧ P) = False := fun P => eq_false (by omega)
      rw [c3, c3, c4, c4]
theorem eq0_pk {σ' : ST} {x' : Nat → Int} (e : eq0 σ σ') (ex : ∀ k, 11 ≤ k → x' k = x k) {k i : Nat} (hl : vm σ k i) (h0 : k ≠ 0) : pkm B em σ' x' k i = pkm B em σ x k i := by
  unfold vm at hl
  rcases hl with hl | hl | hl | hl
  · omega
  · rw [pkm_L ⟨hl.1, hl.2.1⟩, pkm_L ⟨hl.1, hl.2.1⟩]
    unfold lsM
    rw [e.1 k hl.1 hl.2.1, ex k hl.1]
  · rw [pkm_E ⟨hl.1, hl.2.1⟩, pkm_E ⟨hl.1, hl.2.1⟩]
    have E : ∀ f, σ' k i f = σ k i f := fun f => e.2.1 k i f hl.1 hl.2.1 hl.2.2
    have : k = 21 ∨ k = 22 ∨ k = 23 ∨ k = 24 := by omega
    rcases this with rfl | rfl | rfl | rfl <;> simp only [elM, E]
  · rw [pkm_D ⟨hl.1, hl.2.1⟩, pkm_D ⟨hl.1, hl.2.1⟩]
    unfold roM
    rw [e.1 (k - 20) (by omega) (by omega)]
theorem rm_w0 {σ' : ST} {x' : Nat → Int} (R : Rm σ x B em G h) (e : eq0 σ σ') (ex : ∀ k, 11 ≤ k → x' k = x k) : Rm σ' x' B em G (hup h (B 0 0) (mdC B σ' x')) := by
  refine rm_up R vm_0 (fun k' i' h' => by rw [← eq0_vm e]; exact h') (fun k' i' h' n => ?_) pkm_0.symm (fun i hi => ⟨by rw [← e.1 15 (by omega) (by omega)]; exact hi, e.2.2 i⟩)
  rw [eq0_vm e] at h'
  refine eq0_pk e ex h' fun q => n ⟨q, ?_⟩
  subst q
  unfold vm at h'
  omega
/-- the numbers that the reference looks at are the same -/
def eqm (σ σ' : ST) : Prop := eq0 σ σ' ∧ (∀ f, σ' 1 0 f = σ 1 0 f) ∧ (∀ f, σ' 2 0 f = σ 2 0 f) ∧ (∀ f, σ' 6 0 f = σ 6 0 f) ∧ σ' 7 0 0 = σ 7 0 0
theorem rm_c {σ' : ST} (R : Rm σ x B em G h) (e : eqm σ σ') : Rm σ' x B em G h := by
  have ev := eq0_vm e.1
  refine ⟨fun k i hl => ?_, fun k i k' i' h1 h2 => ?_, R.2.2.1, R.2.2.2.1, fun k i hl => ?_, fun i hi => ?_⟩
  · rw [ev] at hl
    rw [R.1 k i hl]
    by_cases c : k = 0
    · rw [c, pkm_0, pkm_0]
      unfold mdC
      rw [e.2.1, e.2.1, e.2.1, e.2.2.1, e.2.2.1, e.2.2.2.1, e.2.2.2.1, e.2.2.2.1, e.2.2.2.2]
    · rw [eq0_pk e.1 (fun _ _ => rfl) hl c]
  · rw [ev] at h1 h2
    exact R.2.1 _ _ _ _ h1 h2
  · rw [ev] at hl
    exact R.2.2.2.2.1 _ _ hl
  · rw [e.1.1 15 (by omega) (by omega)] at hi
    rw [e.1.2.2]
    exact rm_25 R hi
theorem eqm_r : eqm σ σ := ⟨eq0_r, fun _ => rfl, fun _ => rfl, fun _ => rfl, rfl⟩
theorem eqm_t {σ₁ σ₂ σ₃ : ST} (a : eqm σ₁ σ₂) (b : eqm σ₂ σ₃) : eqm σ₁ σ₃ := ⟨eq0_t a.1 b.1, fun f => (b.2.1 f).trans (a.2.1 f), fun f => (b.2.2.1 f).trans (a.2.2.1 f), fun f => (b.2.2.2.1 f).trans (a.2.2.2.1 f), b.2.2.2.2.trans a.2.2.2.2⟩
theorem eqm_y {σ' : ST} (a : eqm σ σ') : eqm σ' σ := ⟨⟨fun k h1 h2 => (a.1.1 k h1 h2).symm, fun k i f h1 h2 h3 => (a.1.2.1 k i f h1 h2 (by rw [a.1.1 (k - 10) (by omega) (by omega)] at h3; exact h3)).symm, fun i => (a.1.2.2 i).symm⟩, fun f => (a.2.1 f).symm, fun f => (a.2.2.1 f).symm, fun f => (a.2.2.2.1 f).symm, a.2.2.2.2.symm⟩
/-- an element's number is written -/
theorem vm_w {k i f : Nat} {v : Int} (hk : 21 ≤ k ∧ k ≤ 24) (k' i' : Nat) : vm (s3 σ k i f v) k' i' = vm σ k' i' := by
  unfold vm
  by_cases c : 21 ≤ k' ∧ k' ≤ 24
  · rw [s3_r (k' := k' - 10) (by omega)]
    have : ¬ 31 ≤ k' := by omega
    simp only [this, false_and]
  · by_cases c2 : 31 ≤ k' ∧ k' ≤ 35
    · rw [s3_r (k' := k' - 20) (by omega)]
      have : ¬ k' ≤ 24 := by omega
      simp only [this, false_and, and_false]
    · have c3 : ∀ P : Prop, (21 ≤ k' ∧ k' ≤ 24 ∧ P) = False := fun P => eq_false (by omega)
      have c4 : ∀ P : Prop, (31 ≤ k' ∧ k' ≤ 35 ∧ P) = False := fun P => eq_false (by omega)
      rw [c3, c3, c4, c4]
theorem rm_we {k i f : Nat} {v : Int} {e : AE} (R : Rm σ x B em G h) (hk : 21 ≤ k ∧ k ≤ 24) (hi : (i : Int) < σ (k - 10) 0 0) (he : e = elM (s3 σ k i f v) k i) : Rm (s3 σ k i f v) x B em G (hup h (B k i) e) := by
  refine rm_up R (Or.inr (Or.inr (Or.inl ⟨hk.1, hk.2, hi⟩))) (fun k' i' h' => by rw [← vm_w (i := i) (f := f) (v := v) hk]; exact h') (fun k' i' h' n => ?_) (by rw [he, pkm_E hk]) (fun j hj => ?_)
  · rw [vm_w hk] at h'
    unfold vm at h'
    rcases h' with hl | hl | hl | hl
    · rw [hl.1, pkm_0, pkm_0]
      unfold mdC
      rw [s3_r (by omega), s3_r (by omega), s3_r (by omega), s3_r (by omega)]
    · rw [pkm_L ⟨hl.1, hl.2.1⟩, pkm_L ⟨hl.1, hl.2.1⟩]
      unfold lsM
      rw [s3_r (by omega)]
    · rw [pkm_E ⟨hl.1, hl.2.1⟩, pkm_E ⟨hl.1, hl.2.1⟩]
      have E : s3 σ k i f v k' i' = σ k' i' := s3_r n
      have : k' = 21 ∨ k' = 22 ∨ k' = 23 ∨ k' = 24 := by omega
      rcases this with rfl | rfl | rfl | rfl <;> simp only [elM, E]
    · rw [pkm_D ⟨hl.1, hl.2.1⟩, pkm_D ⟨hl.1, hl.2.1⟩]
      unfold roM
      rw [s3_r (by omega)]
  · rw [s3_r (by omega)] at hj
    exact ⟨hj, by rw [s3_r (by omega)]⟩
/-- the frame's own -/
theorem rm_new {q : Nat} {e : AE} (R : Rm σ x B em G h) (hq : h q = none) : Rm σ x B em (hup G q e) (hup h q e) := by
  obtain ⟨R1, R2, R3, R4, R5, R6⟩ := R
  have hn : ∀ k i, vm σ k i → ¬ B k i = q := by
    rintro k i hl rfl
    rw [R1 k i hl] at hq
    cases hq
  refine ⟨fun k i hl => ?_, R2, ?_, fun a e' ha => ?_, fun k i hl => ?_, fun i hi => ?_⟩
  · rw [hup_n (hn k i hl)]
    exact R1 k i hl
  · rw [hup_n]
    · exact R3
    · rintro rfl
      rw [R4 _ _ R3] at hq
      cases hq
  · by_cases c : a = q
    · rw [c, hup_s] at ha
      rw [c, hup_s, ha]
    · rw [hup_n c] at ha
      rw [hup_n c]
      exact R4 a e' ha
  · rw [hup_n (hn k i hl)]
    exact R5 k i hl
  · have : ¬ B 25 i = q := by
      intro c
      have := R6 i hi
      rw [c, hq] at this
      rcases this with this | ⟨g, this, -⟩ <;> cases this
    rw [hup_n this]
    exact R6 i hi
theorem rm_fr {q : Nat} {e e0 : AE} (R : Rm σ x B em G h) (hq : G q = some e0) (hne : ¬ em = q) (h0 : ∀ z, ¬ inC (some e0) z) : Rm σ x B em (hup G q e) (hup h q e) := by
  have hn : ∀ k i, vm σ k i → ¬ B k i = q := fun k i hl c => rm_ne R hl hq c.symm
  have hq' := rm_G R hq
  obtain ⟨R1, R2, R3, R4, R5, R6⟩ := R
  refine ⟨fun k i hl => ?_, R2, ?_, fun a e' ha => ?_, fun k i hl => ?_, fun i hi => ?_⟩
  · rw [hup_n (hn k i hl)]
    exact R1 k i hl
  · rw [hup_n hne]
    exact R3
  · by_cases c : a = q
    · rw [c, hup_s] at ha
      rw [c, hup_s, ha]
    · rw [hup_n c] at ha
      rw [hup_n c]
      exact R4 a e' ha
  · rw [hup_n (hn k i hl)]
    exact R5 k i hl
  · have : ¬ B 25 i = q := by
      intro c
      have := R6 i hi
      rw [c, hq'] at this
      exact h0 _ this
    rw [hup_n this]
    exact R6 i hi
theorem rm_sub {G' : AH} (R : Rm σ x B em G' h) (hs : ∀ a e, G a = some e → G' a = some e) (he : G em = some emR) : Rm σ x B em G h := by
  obtain ⟨R1, R2, R3, R4, R5, R6⟩ := R
  refine ⟨R1, R2, he, fun a e' ha => R4 a e' (hs a e' ha), fun k i hl => ?_, R6⟩
  cases c : G (B k i) with
  | none => rfl
  | some e =>
    have := hs _ _ c
    rw [R5 k i hl] at this
    cases this
theorem rm_fn (R : Rm σ x B em G h) {q : Nat} (hq : h q = none) : G q = none := by
  cases c : G q with
  | none => rfl
  | some e =>
    rw [rm_G R c] at hq
    cases hq
/-- the frame's own, and away again -/
theorem rm_nq {q : Nat} {e : AE} (R : Rm σ x B em (hup G q e) h) (hq : G q = none) (he : G em = some emR) : Rm σ x B em G h := by
  refine rm_sub R (fun a e' ha => ?_) he
  rw [hup_n]
  · exact ha
  · rintro rfl
    rw [hq] at ha
    cases ha
theorem rm_inj (R : Rm σ x B em G h) {k i k' i' : Nat} (h1 : vm σ k i) (h2 : vm σ k' i') : (B k i = B k' i') = (k = k' ∧ i = i') := propext ⟨R.2.1 _ _ _ _ h1 h2, fun q => by rw [q.1, q.2]⟩
end StateM
