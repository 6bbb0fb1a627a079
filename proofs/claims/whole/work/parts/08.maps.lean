/-! arrays that loops write -/
def fu_mp (F : Nat → Int32 → Int32) (i e : Nat) (A : Nat → Int32) : Nat → Int32 := fun j => if i ≤ j ∧ j < e then F j (A j) else A j
theorem fu_mp_e {F : Nat → Int32 → Int32} {i e : Nat} {A : Nat → Int32} (h : e ≤ i) : fu_mp F i e A = A := funext fun j => if_neg (by omega)
theorem fu_mp_s {F : Nat → Int32 → Int32} {i e : Nat} {A : Nat → Int32} (h : i < e) : fu_mp F (i + 1) e (upd A i (F i (A i))) = fu_mp F i e A := by
  funext j
  unfold fu_mp upd
  by_cases z : j = i
  · subst z
    rw [if_neg (by omega), if_pos rfl, if_pos (by omega)]
  · rw [if_neg z]
    by_cases y : i ≤ j ∧ j < e
    · rw [if_pos y, if_pos (by omega)]
    · rw [if_neg y, if_neg (by omega)]
theorem fu_mp_k {F : Nat → Int32 → Int32} {i e : Nat} {A : Nat → Int32} (k : F i (A i) = A i) : fu_mp F (i + 1) e A = fu_mp F i e A := by
  funext j
  unfold fu_mp
  by_cases z : j = i
  · subst z
    rw [if_neg (by omega)]
    by_cases y : j ≤ j ∧ j < e
    · rw [if_pos y, k]
    · rw [if_neg y]
  · by_cases y : i ≤ j ∧ j < e
    · rw [if_pos y, if_pos (by omega)]
    · rw [if_neg y, if_neg (by omega)]
theorem fu_mp_in {F : Nat → Int32 → Int32} {i e : Nat} {A : Nat → Int32} {j : Nat} (h : i ≤ j) (h2 : j < e) : fu_mp F i e A j = F j (A j) := if_pos ⟨h, h2⟩
theorem fu_mp_out {F : Nat → Int32 → Int32} {i e : Nat} {A : Nat → Int32} {j : Nat} (h : j < i ∨ e ≤ j) : fu_mp F i e A j = A j := if_neg (by omega)
theorem fu_8 : nI 8 = 8 := by decide +kernel
theorem fu_16 : nI 16 = 16 := by decide +kernel
theorem fu_3 : nI 3 = 3 := by decide +kernel
theorem fu_48 : nI 48 = 48 := by decide +kernel
theorem fu_81 : nI 81 = 81 := by decide +kernel
theorem fu_32 : nI 32 = 32 := by decide +kernel
theorem fu_80 : nI 80 = 80 := by decide +kernel
theorem fu_x3 (a : Nat) : nI a * 3 = nI (a * 3) := by rw [← fu_3, pk_mul]
theorem fu_x16 (a : Nat) : nI a * 16 = nI (a * 16) := by rw [← fu_16, pk_mul]
theorem fu_x48 (a : Nat) : nI a * 48 = nI (a * 48) := by rw [← fu_48, pk_mul]
theorem fu_3x (a : Nat) : 3 * nI a = nI (3 * a) := by rw [← fu_3, pk_mul]
theorem fu_81x (a : Nat) : 81 * nI a = nI (81 * a) := by rw [← fu_81, pk_mul]
theorem fu_a1 (a f : Nat) : nI a * 3 + nI f = nI (3 * a + f) := by rw [fu_x3, nI_add, Nat.mul_comm]
theorem fu_a2 (a f : Nat) : 3 * nI a + nI f = nI (3 * a + f) := by rw [fu_3x, nI_add]
theorem fu_a3 (a f : Nat) : nI a * 16 + nI f = nI (a * 16 + f) := by rw [fu_x16, nI_add]
theorem fu_a4 (a f : Nat) : nI a * 48 + nI f = nI (a * 48 + f) := by rw [fu_x48, nI_add]
theorem fu_d3 {a : Nat} (h : a < 2 ^ 31) : nI a / 3 = nI (a / 3) := by rw [← fu_3, pk_div h (by decide) (by decide)]
theorem fu_r3 {a : Nat} (h : a < 2 ^ 31) : nI a - nI a / 3 * 3 = nI (a % 3) := by rw [← fu_3, pk_rem h (by decide) (by decide)]
theorem fu_n3 : ¬ (3 : Int32) = 0 := by decide
theorem fu_nb (b : Bool) : narrow .boolean (.int (fu_b b)) = .int (fu_b b) := by cases b <;> rfl
