/-! numbers, options, bits, counting, scans -/
def fu_v (o : Option Nat) : Int32 := match o with
  | none => -4
  | some k => nI k
theorem fu_m4 : (-4 : Int32).toInt = -4 := by decide
theorem fu_ne {k : Nat} (h : k < 2 ^ 31) : ¬ nI k = -4 := by
  intro e
  have h1 := nI_toInt h
  rw [e, fu_m4] at h1
  omega
theorem fu_vi {o : Option Nat} (h : ∀ k, o = some k → k < 2 ^ 31) : fu_v o = -4 ↔ o = none := by
  cases o with
  | none => exact ⟨fun _ => rfl, fun _ => rfl⟩
  | some k => exact ⟨fun e => absurd e (fu_ne (h k rfl)), fun e => nomatch e⟩
theorem fu_vj {o q : Option Nat} (ho : ∀ k, o = some k → k < 2 ^ 31) (hq : ∀ k, q = some k → k < 2 ^ 31) : fu_v o = fu_v q ↔ o = q := by
  refine ⟨fun e => ?_, fun e => by rw [e]⟩
  cases o with
  | none =>
    cases q with
    | none => rfl
    | some k => exact absurd e.symm (fu_ne (hq k rfl))
  | some j =>
    cases q with
    | none => exact absurd e (fu_ne (ho j rfl))
    | some k => exact congrArg some ((nI_eq (ho j rfl) (hq k rfl)).mp e)
def fu_b : Bool → Int32
  | true => 1
  | false => 0
theorem fu_b0 {b : Bool} : fu_b b = 0 ↔ b = false := by cases b <;> decide
theorem fu_b1 {b : Bool} : fu_b b = 1 ↔ b = true := by cases b <;> decide
theorem b_1 (i : Nat) : bt 1 i = decide (i = 0) := by
  rcases Nat.lt_or_ge i 32 with h | h
  · exact (by decide +kernel : ∀ i, i < 32 → bt 1 i = decide (i = 0)) i h
  · rw [b_big h, decide_eq_false (by omega)]
theorem fu_bit (x : Int32) {i : Nat} (hi : i < 32) : (x >>> (nI i &&& 31)) &&& 1 = fu_b (bt x i) := by
  apply b_ext
  intro j hj
  rw [b_and, b_1, b_sshr i hi x hj]
  by_cases z : j = 0
  · subst z
    cases hb : bt x i with
    | true =>
      show _ = bt 1 0
      simp [hi, hb, b_1]
    | false =>
      show _ = bt 0 0
      simp [hi, hb, b_0]
  · cases hb : bt x i with
    | true =>
      show _ = bt 1 j
      simp [z, b_1]
    | false =>
      show _ = bt 0 j
      simp [z, b_0]
theorem fu_one {n i : Nat} (hn : n < 32) (hi : i < 32) : bt ((1 : Int32) <<< (nI n &&& 31)) i = decide (i = n) := by
  rw [b_shl n hn 1 hi, b_1]
  by_cases z : i = n
  · subst z
    simp
  · by_cases y : n ≤ i
    · have h : ¬ i - n = 0 := by omega
      simp [h, z]
    · simp [y, z]
theorem fu_nz {x : Int32} : x = 0 ↔ ∀ i, bt x i = false := by
  refine ⟨fun h i => by rw [h, b_0], fun h => b_ext fun i _ => by rw [h i, b_0]⟩
theorem fu_nz2 {x : Int32} (h : x ≠ 0) : ∃ i, bt x i = true := by
  refine Classical.byContradiction fun z => h (fu_nz.mpr fun i => ?_)
  cases hb : bt x i with
  | true => exact absurd ⟨i, hb⟩ z
  | false => rfl
theorem fu_lt {x : Int32} {i : Nat} (h : bt x i = true) : i < 32 := by
  rcases Nat.lt_or_ge i 32 with z | z
  · exact z
  · rw [b_big z] at h
    exact absurd h (by decide)
/-! counting -/
def fu_cd (P : Nat → Bool) : Nat → Nat
  | 0 => 0
  | n + 1 => fu_cd P n + (if P n = true then 1 else 0)
theorem fu_cd_t {P : Nat → Bool} {n : Nat} (h : P n = true) : fu_cd P (n + 1) = fu_cd P n + 1 := by
  show _ + _ = _
  rw [if_pos h]
theorem fu_cd_f {P : Nat → Bool} {n : Nat} (h : P n = false) : fu_cd P (n + 1) = fu_cd P n := by
  show _ + _ = _
  rw [if_neg (by rw [h]; decide)]
  rfl
theorem fu_cd_le (P : Nat → Bool) : ∀ n, fu_cd P n ≤ n := by
  intro n
  induction n with
  | zero => exact Nat.le_refl 0
  | succ n ih =>
    cases h : P n with
    | true => rw [fu_cd_t h]; omega
    | false => rw [fu_cd_f h]; omega
theorem fu_cd_mono {P Q : Nat → Bool} : ∀ n, (∀ i, i < n → P i = true → Q i = true) → fu_cd P n ≤ fu_cd Q n := by
  intro n
  induction n with
  | zero => exact fun _ => Nat.le_refl 0
  | succ n ih =>
    intro h
    have h1 := ih (fun i hi => h i (by omega))
    have h2 := h n (by omega)
    cases hp : P n with
    | true => rw [fu_cd_t hp, fu_cd_t (h2 hp)]; omega
    | false =>
      rw [fu_cd_f hp]
      cases hq : Q n with
      | true => rw [fu_cd_t hq]; omega
      | false => rw [fu_cd_f hq]; exact h1
theorem fu_cd_lt {P Q : Nat → Bool} : ∀ n, (∀ i, i < n → P i = true → Q i = true) → ∀ j, j < n → P j = false → Q j = true → fu_cd P n < fu_cd Q n := by
  intro n
  induction n with
  | zero => intro _ j hj; omega
  | succ n ih =>
    intro h j hj hp hq
    by_cases z : j = n
    · subst z
      rw [fu_cd_f hp, fu_cd_t hq]
      have := fu_cd_mono j (fun i hi => h i (by omega))
      omega
    · have h1 := ih (fun i hi => h i (by omega)) j (by omega) hp hq
      have h2 := h n (by omega)
      cases hp2 : P n with
      | true => rw [fu_cd_t hp2, fu_cd_t (h2 hp2)]; omega
      | false =>
        rw [fu_cd_f hp2]
        cases hq2 : Q n with
        | true => rw [fu_cd_t hq2]; omega
        | false => rw [fu_cd_f hq2]; exact h1
theorem fu_cd_cg {P Q : Nat → Bool} (n : Nat) (h : ∀ i, i < n → P i = Q i) : fu_cd P n = fu_cd Q n :=
  Nat.le_antisymm (fu_cd_mono n fun i hi hp => (h i hi).symm.trans hp) (fu_cd_mono n fun i hi hq => (h i hi).trans hq)
theorem fu_cd_1 {P : Nat → Bool} {n j : Nat} (hj : j < n) (h : P j = true) : 1 ≤ fu_cd P n := by
  have := fu_cd_lt (P := fun _ => false) (Q := P) n (fun i _ z => absurd z (by decide)) j hj rfl h
  omega
/-! the first place -/
def fu_sc (P : Nat → Bool) : Nat → Nat → Int32
  | 0, _ => -4
  | d + 1, i => if P i = true then nI i else fu_sc P d (i + 1)
theorem fu_sc_t {P : Nat → Bool} {d i : Nat} (h : P i = true) : fu_sc P (d + 1) i = nI i := if_pos h
theorem fu_sc_f {P : Nat → Bool} {d i : Nat} (h : P i = false) : fu_sc P (d + 1) i = fu_sc P d (i + 1) := if_neg (by rw [h]; decide)
theorem fu_sc_cg {P Q : Nat → Bool} : ∀ d i, (∀ j, i ≤ j → j < i + d → P j = Q j) → fu_sc P d i = fu_sc Q d i := by
  intro d
  induction d with
  | zero => exact fun _ _ => rfl
  | succ d ih =>
    intro i h
    have h1 := h i (by omega) (by omega)
    have h2 := ih (i + 1) (fun j a b => h j (by omega) (by omega))
    cases hp : P i with
    | true => rw [fu_sc_t hp, fu_sc_t (h1.symm.trans hp)]
    | false => rw [fu_sc_f hp, fu_sc_f (h1.symm.trans hp), h2]
theorem fu_sc_sp (P : Nat → Bool) : ∀ d i, (fu_sc P d i = -4 ∧ ∀ j, i ≤ j → j < i + d → P j = false) ∨ ∃ j, i ≤ j ∧ j < i + d ∧ fu_sc P d i = nI j ∧ P j = true := by
  intro d
  induction d with
  | zero => exact fun i => Or.inl ⟨rfl, fun j a b => by omega⟩
  | succ d ih =>
    intro i
    cases hp : P i with
    | true => exact Or.inr ⟨i, by omega, by omega, fu_sc_t hp, hp⟩
    | false =>
      rcases ih (i + 1) with ⟨e, h⟩ | ⟨j, a, b, e, h⟩
      · refine Or.inl ⟨(fu_sc_f hp).trans e, fun j a b => ?_⟩
        by_cases z : j = i
        · rw [z]; exact hp
        · exact h j (by omega) (by omega)
      · exact Or.inr ⟨j, by omega, by omega, (fu_sc_f hp).trans e, h⟩
